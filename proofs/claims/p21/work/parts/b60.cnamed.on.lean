section
/-! ===== the class's RUN: memberNamed, add ===== -/
section MJB60
variable {T : TT} {N wm cm pc k n d i o q w x kk c m m0 : Nat} {pf : Nat → Nat → Nat} {L : List CD} {H H' : HEAP} {f g : FRM} {fs gs : List FRM} {st : List Int32} {sc : SCL} {s s' : mjSt3} {A : AMS} {v : Int32}
theorem lq_119g (P : PG T L q s) (hc : c < L.length) (R : mjR) (key : Int64) : ∀ (r i m : Nat), i + r = mcL L c → r < m → (∀ j, j < i → ¬ s.2.1 (q + 15) (fmL L c + j) = key) → L_119_12 R m q (nI c) key (nI (fmL L c)) (nI (fmL L c + i)) (mjW0 s) = some (some (.int (match fnd (fun i => decide (s.2.1 (q + 15) (fmL L c + i) = key)) (mcL L c) with
    | none => -1
    | some i => nI (fmL L c + i))), mjW0 s)
  | 0, i, m + 1, e, _, hb => by
    obtain ⟨⟨hq, g2, g3, h16⟩, _, _, _, g13, ⟨g14, g15⟩, _⟩ := P
    obtain ⟨_, _, _, u4, u5, u6⟩ := g13 c hc
    rw [L119_S]
    unfold b_119_12
    rw [yg_10 hq, wya_10 hq (by omega), u4, nI_add, if_pos (nI_le (by omega) (by omega)), fnd_none.mpr (fun j hj => by simpa using hb j (by omega))]
  | r + 1, i, m + 1, e, hr, hb => by
    have P0 := P
    obtain ⟨⟨hq, g2, g3, h16⟩, _, _, _, g13, ⟨g14, g15⟩, _⟩ := P
    obtain ⟨_, _, _, u4, u5, u6⟩ := g13 c hc
    rw [L119_S]
    unfold b_119_12
    rw [yg_10 hq, wya_10 hq (by omega), u4, nI_add, if_neg (nI_ge (by omega) (by omega)), yg_14 hq, ymg_1 hq, wya_15 hq (by omega)]
    by_cases e : s.2.1 (q + 15) (fmL L c + i) = key
    · rw [if_pos ((lg_cmp_eq _ _).mpr e), show fnd (fun i => decide (s.2.1 (q + 15) (fmL L c + i) = key)) (mcL L c) = some i from fnd_some.mpr ⟨by omega, by simpa using e, fun j hj => by simpa using hb j hj⟩]
    · rw [if_neg (fun x => e ((lg_cmp_eq _ _).mp x)), nI_1]
      refine lq_119g P0 hc R key r (i + 1) m (by omega) (by omega) (fun j hj => ?_)
      by_cases g : j = i
      · rw [g]; exact e
      · exact hb j (by omega)
theorem x_119g (P : PG T L q s) (hc : c < L.length) (hm : m0 < nMem L) : mjF (d + 1) 119 [.ref q, .int (nI c), .long (s.2.1 (q + 15) m0)] (mjW0 s) = some (some (.int (oI (omT T L c (nkM T L m0)))), mjW0 s) := by
  have P0 := P
  obtain ⟨⟨hq, g2, g3, h16⟩, _, _, _, g13, ⟨g14, g15⟩, g16, g17, _⟩ := P
  obtain ⟨_, _, u3, u4, u5, u6⟩ := g13 c hc
  have lp := lq_119g P0 hc (mjF d) (s.2.1 (q + 15) m0) (mcL L c) 0 mjN (by omega) (by have := mjN_v; omega) (fun j hj => absurd hj (by omega))
  have ef : fnd (fun i => decide (s.2.1 (q + 15) (fmL L c + i) = s.2.1 (q + 15) m0)) (mcL L c) = fnd (fun i => decide (nkM T L (fmL L c + i) = nkM T L m0)) (mcL L c) := by
    refine fnd_cg (fun i hi => ?_)
    exact decide_eq_decide.mpr (g17 (fmL L c + i) m0 (by omega) hm)
  rw [e_119]
  unfold f_119 b_119_0
  rw [yg_9 hq, wya_9 hq (by omega), u3]
  refine Eq.trans lp ?_
  rw [ef]
  unfold omT
  cases fnd (fun i => decide (nkM T L (fmL L c + i) = nkM T L m0)) (mcL L c) <;> rfl
theorem om_g (P : PG T L q s) (hc : c < L.length) {K : Int64} (h : omT T L c K = some o) : o < nMem L := by
  obtain ⟨_, _, _, _, g13, _⟩ := P
  obtain ⟨_, _, u3, u4, u5, u6⟩ := g13 c hc
  unfold omT at h
  cases hf : fnd (fun i => decide (nkM T L (fmL L c + i) = K)) (mcL L c) with
  | none => rw [hf] at h; cases h
  | some y =>
    rw [hf] at h
    have e := Option.some.inj h
    have := (fnd_some.mp hf).1
    omega
theorem lq_121g (hn : HN T N L) (P : PG T L q s) (hm : m0 < nMem L) (isM : Bool) : ∀ (r k n : Nat) (a : Option Nat), k + r = 16 → r < n → (∀ x, a = some x → x < L.length) → L_121_6 (mjF (d + 2)) n q (s.2.1 (q + 15) m0) (b2 isM) (oI a) (nI k) (mjW0 s) = some (some (.int (oI ((anc (upT T L) r a).findSome? (fun a => match omT T L a (nkM T L m0) with
    | some m => if mSM L m = isM then some m else none
    | none => none)))), mjW0 s)
  | 0, k, n + 1, a, e, _, _ => by
    rw [L121_S]
    unfold b_121_6 b_121_66
    rw [if_pos (show (16 : Int32) ≤ nI k from nI_le (a := 16) (by omega) (by omega))]
    rfl
  | r + 1, k, n + 1, none, e, _, _ => by
    rw [L121_S]
    unfold b_121_6 b_121_66
    rw [if_neg (show ¬ (16 : Int32) ≤ nI k from nI_ge (b := 16) (by omega) (by decide)), oI_n, if_pos rfl]
    rfl
  | r + 1, k, n + 1, some x, e, hr, ha => by
    have P0 := P
    obtain ⟨⟨hq, g2, g3, h16⟩, ⟨A, _⟩, _, _, g13, ⟨g14, g15⟩, g16, g17, _⟩ := P
    have hx := ha x rfl
    have ih := lq_121g hn P0 hm isM r (k + 1) n (upT T L x) (by omega) (by omega) (fun y hy => up_lt hn hx hy)
    have x119 := x_119g (d := d + 1) P0 hx hm
    have ean : anc (upT T L) (r + 1) (some x) = x :: anc (upT T L) r (upT T L x) := rfl
    have e52 : b_121_52 (mjF (d + 2)) (L_121_6 (mjF (d + 2)) n) q (s.2.1 (q + 15) m0) (b2 isM) (nI x) (nI k) (mjW0 s) = L_121_6 (mjF (d + 2)) n q (s.2.1 (q + 15) m0) (b2 isM) (oI (upT T L x)) (nI (k + 1)) (mjW0 s) := by
      unfold b_121_52
      rw [yV hq, x_up hn hq A hx, bI_s, nI_1]
    rw [L121_S]
    unfold b_121_6
    rw [if_neg (show ¬ (16 : Int32) ≤ nI k from nI_ge (b := 16) (by omega) (by decide)), oI_s, if_neg (nI_m1 (by omega)), yV hq, x119, bI_s, ean, List.findSome?_cons, e52, ih]
    cases ho : omT T L x (nkM T L m0) with
    | none => rw [oI_n, if_pos rfl]
    | some o =>
      have ov := om_g P0 hx ho
      rw [oI_s, if_neg (nI_m1 (by omega)), yg_14 hq, ymg_4 hq, wya_18 hq (by omega), (g16 o ov).2.2.1]
      by_cases g : mSM L o = isM
      · rw [if_pos (congrArg b2 g)]
        simp only [if_pos g]
        rfl
      · rw [if_neg (fun x => g (by
          revert x
          cases mSM L o <;> cases isM <;> decide))]
        simp only [if_neg g]
/-- memberNamed -/
theorem x_121g (hn : HN T N L) (P : PG T L q s) (hc : c < L.length) (hm : m0 < nMem L) (isM : Bool) : mjF (d + 3) 121 [.ref q, .int (nI c), .long (s.2.1 (q + 15) m0), .int (b2 isM)] (mjW0 s) = some (some (.int (oI (memT T L c (nkM T L m0) isM))), mjW0 s) := by
  rw [e_121]
  unfold f_121 b_121_0
  exact lq_121g hn P hm isM 16 0 mjN (some c) (by omega) (by have := mjN_v; omega) (fun x hx => by cases hx; exact hc)
/-- add -/
theorem x_37 (M : CRn T L pf wm cm pc (H, f :: fs, k, st, sc) s) (hl : fs.length + 1 < 40) (ms : sc.1 < 100) (hpc : pc = pf f.1 k) (m o : Nat) : ∃ s', mjF (d + 3) 37 [.ref 83, .int (nI m), .int (nI o), .int (nI pc)] (mjW0 s) = some (none, mjW0 s') ∧ oCn s s' ∧ CRn T L pf wm cm pc (H, (m, o, -1, (fun _ => 0), k) :: f :: fs, k, st, (if sc.1 < (f :: fs).length + 1 then (f :: fs).length + 1 else sc.1), sc.2) s' := by
  obtain ⟨⟨⟨a1, a2, a3, a4⟩, ⟨a5, a6, a7⟩, ⟨a8, a9, a10⟩, ⟨a11, a12⟩, a13⟩, hH, hF, hT⟩ := M
  have h0 : s.1 83 0 = nI (fs.length + 1) := a10
  have h1 : s.1 83 1 = nI sc.1 := a6
  obtain ⟨z1, g1⟩ : ∃ y, y = uI s 84 (upd (s.1 84) (fs.length + 1) (nI m)) := ⟨_, rfl⟩
  obtain ⟨z2, g2⟩ : ∃ y, y = uI z1 85 (upd (z1.1 85) (fs.length + 1) (nI o)) := ⟨_, rfl⟩
  obtain ⟨z3, g3⟩ : ∃ y, y = uI z2 86 (upd (z2.1 86) (fs.length + 1) (nI pc)) := ⟨_, rfl⟩
  obtain ⟨z4, g4⟩ : ∃ y, y = uI z3 87 (upd (z3.1 87) (fs.length + 1) (-1)) := ⟨_, rfl⟩
  obtain ⟨z5, g5⟩ : ∃ y, y = uI z4 88 (fillF (z4.1 88) (16 * (fs.length + 1)) (16 * (fs.length + 1) + 16) 0) := ⟨_, rfl⟩
  obtain ⟨z6, g6⟩ : ∃ y, y = uI z5 83 (upd (z5.1 83) 0 (nI (fs.length + 2))) := ⟨_, rfl⟩
  obtain ⟨mx, hmx⟩ : ∃ y, y = (if sc.1 < (f :: fs).length + 1 then (f :: fs).length + 1 else sc.1) := ⟨_, rfl⟩
  obtain ⟨z7, g7⟩ : ∃ y, y = uI z6 83 (upd (z6.1 83) 1 (nI mx)) := ⟨_, rfl⟩
  have r83 : ∀ y, y = z1 ∨ y = z2 ∨ y = z3 ∨ y = z4 ∨ y = z5 → y.1 83 = s.1 83 := by
    have e1 : z1.1 83 = s.1 83 := by rw [g1, uI_ne _ _ _ _ (by decide)]
    have e2 : z2.1 83 = s.1 83 := by rw [g2, uI_ne _ _ _ _ (by decide), e1]
    have e3 : z3.1 83 = s.1 83 := by rw [g3, uI_ne _ _ _ _ (by decide), e2]
    have e4 : z4.1 83 = s.1 83 := by rw [g4, uI_ne _ _ _ _ (by decide), e3]
    have e5 : z5.1 83 = s.1 83 := by rw [g5, uI_ne _ _ _ _ (by decide), e4]
    intro y hy
    rcases hy with hy | hy | hy | hy | hy <;> rw [hy] <;> assumption
  have v6 : ∀ j, z6.1 83 j = if j = 0 then nI (fs.length + 2) else s.1 83 j := fun j => by rw [g6, uI_same, upd_g, r83 z5 (by simp)]
  have rr : ∀ h, ¬ (83 ≤ h ∧ h ≤ 88) → z7.1 h = s.1 h := fun h e => by rw [g7, uI_ne _ _ _ _ (by omega), g6, uI_ne _ _ _ _ (by omega), g5, uI_ne _ _ _ _ (by omega), g4, uI_ne _ _ _ _ (by omega), g3, uI_ne _ _ _ _ (by omega), g2, uI_ne _ _ _ _ (by omega), g1, uI_ne _ _ _ _ (by omega)]
  have v83 : ∀ j, z7.1 83 j = if j = 1 then nI mx else if j = 0 then nI (fs.length + 2) else s.1 83 j := fun j => by rw [g7, uI_same, upd_g, g6, uI_same, upd_g, r83 z5 (by simp)]
  have v84 : ∀ j, z7.1 84 j = if j = fs.length + 1 then nI m else s.1 84 j := fun j => by rw [g7, uI_ne _ _ _ _ (by decide), g6, uI_ne _ _ _ _ (by decide), g5, uI_ne _ _ _ _ (by decide), g4, uI_ne _ _ _ _ (by decide), g3, uI_ne _ _ _ _ (by decide), g2, uI_ne _ _ _ _ (by decide), g1, uI_same, upd_g]
  have v85 : ∀ j, z7.1 85 j = if j = fs.length + 1 then nI o else s.1 85 j := fun j => by rw [g7, uI_ne _ _ _ _ (by decide), g6, uI_ne _ _ _ _ (by decide), g5, uI_ne _ _ _ _ (by decide), g4, uI_ne _ _ _ _ (by decide), g3, uI_ne _ _ _ _ (by decide), g2, uI_same, upd_g, g1, uI_ne _ _ _ _ (by decide)]
  have v86 : ∀ j, z7.1 86 j = if j = fs.length + 1 then nI pc else s.1 86 j := fun j => by rw [g7, uI_ne _ _ _ _ (by decide), g6, uI_ne _ _ _ _ (by decide), g5, uI_ne _ _ _ _ (by decide), g4, uI_ne _ _ _ _ (by decide), g3, uI_same, upd_g, g2, uI_ne _ _ _ _ (by decide), g1, uI_ne _ _ _ _ (by decide)]
  have v87 : ∀ j, z7.1 87 j = if j = fs.length + 1 then -1 else s.1 87 j := fun j => by rw [g7, uI_ne _ _ _ _ (by decide), g6, uI_ne _ _ _ _ (by decide), g5, uI_ne _ _ _ _ (by decide), g4, uI_same, upd_g, g3, uI_ne _ _ _ _ (by decide), g2, uI_ne _ _ _ _ (by decide), g1, uI_ne _ _ _ _ (by decide)]
  have v88 : ∀ j, z7.1 88 j = if 16 * (fs.length + 1) ≤ j ∧ j < 16 * (fs.length + 1) + 16 then 0 else s.1 88 j := fun j => by
    rw [g7, uI_ne _ _ _ _ (by decide), g6, uI_ne _ _ _ _ (by decide), g5, uI_same]
    show (if 16 * (fs.length + 1) ≤ j ∧ j < 16 * (fs.length + 1) + 16 then 0 else z4.1 88 j) = _
    rw [g4, uI_ne _ _ _ _ (by decide), g3, uI_ne _ _ _ _ (by decide), g2, uI_ne _ _ _ _ (by decide), g1, uI_ne _ _ _ _ (by decide)]
  have low : FRc pf z7 (f :: fs) := FRc.low (n := fs.length + 1) (fun h j h1 h2 => by
    have h1' : h = 84 ∨ h = 85 ∨ h = 86 ∨ h = 87 := by omega
    rcases h1' with e | e | e | e <;> rw [e]
    · rw [v84, if_neg (by omega)]
    · rw [v85, if_neg (by omega)]
    · rw [v86, if_neg (by omega)]
    · rw [v87, if_neg (by omega)]) (fun j hj => by rw [v88, if_neg (by omega)]) (f :: fs) (Nat.le_refl _) hF
  refine ⟨z7, ?_, offG.tr (b := z1) (by rw [g1]; exact oCn.wr (by omega)) (offG.tr (b := z2) (by rw [g2]; exact oCn.wr (by omega)) (offG.tr (b := z3) (by rw [g3]; exact oCn.wr (by omega)) (offG.tr (b := z4) (by rw [g4]; exact oCn.wr (by omega)) (offG.tr (b := z5) (by rw [g5]; exact oCn.wr (by omega)) (offG.tr (b := z6) (by rw [g6]; exact oCn.wr (by omega)) (by rw [g7]; exact oCn.wr (by omega))))))), ?_⟩
  · have mxe : (if nI (fs.length + 2) ≤ nI sc.1 then nI sc.1 else nI (fs.length + 2)) = nI mx := by
      rw [hmx]
      have : (f :: fs).length + 1 = fs.length + 2 := rfl
      rw [this]
      by_cases e : sc.1 < fs.length + 2
      · rw [if_pos e, if_neg (nI_ge e (by omega))]
      · rw [if_neg e, if_pos (nI_le (by omega) (by omega))]
    rw [e_37]
    unfold f_37 b_37_0
    rw [xg_83_0, h0, if_pos (show nI (fs.length + 1) < (40 : Int32) from nI_lt (b := 40) hl (by decide)), xg_83_2, xg_83_0, h0, ws_84 hl, ← g1, xg_83_3, xg_83_0, r83 z1 (by simp), h0, ws_85 hl, ← g2, xg_83_4, xg_83_0, r83 z2 (by simp), h0, ws_86 hl, ← g3, xg_83_5, xg_83_0, r83 z3 (by simp), h0, ws_87 hl, ← g4, xg_83_0, r83 z4 (by simp), h0, xg_83_6, show nI (fs.length + 1) * 16 = nI (16 * (fs.length + 1)) by rw [show (16 : Int32) = nI 16 from rfl, nI_mul, Nat.mul_comm], show nI (16 * (fs.length + 1)) + 16 = nI (16 * (fs.length + 1) + 16) from nI_add _ 16, q_379 tT_88 (by decide) (by omega) (by omega), bN_s, ← g5, xg_83_0, r83 z5 (by simp), h0, nI_1, xp_83_0, ← g6, xg_83_1, xg_83_0, v6, v6, if_neg (show ¬ 1 = 0 by decide), if_pos rfl, h1, q_max, mxe, bI_s, xp_83_1, ← g7]
  · rw [← hmx]
    refine ⟨⟨⟨by rw [rr 82 (by omega)]; exact a1, by rw [rr 82 (by omega)]; exact a2, by rw [rr 82 (by omega)]; exact a3, by rw [rr 82 (by omega)]; exact a4⟩, ⟨by rw [rr 82 (by omega)]; exact a5, by rw [v83, if_pos rfl], by rw [rr 82 (by omega)]; exact a7⟩, ⟨by rw [rr 79 (by omega)]; exact a8, by rw [rr 79 (by omega)]; exact a9, by rw [v83, if_neg (by decide), if_pos rfl]; rfl⟩, ⟨by rw [rr 79 (by omega)]; exact a11, by rw [rr 82 (by omega)]; exact a12⟩, fun i h1 h2 => by rw [rr 90 (by omega)]; exact a13 i h1 h2⟩, hH.keep (fun x hx => rr x (by omega)), ⟨⟨by show z7.1 84 (fs.length + 1) = _; rw [v84, if_pos rfl], by show z7.1 85 (fs.length + 1) = _; rw [v85, if_pos rfl], by show z7.1 87 (fs.length + 1) = _; rw [v87, if_pos rfl], fun y hy => by show z7.1 88 (16 * (fs.length + 1) + y) = 0; rw [v88, if_pos (by omega)], fun g' gs' hg => ?_⟩, low⟩, fun g' gs' hg => ?_⟩
    · have e := (List.cons.inj hg).1
      show z7.1 86 (fs.length + 1) = nI (pf g'.1 k)
      rw [v86, if_pos rfl, ← e, hpc]
    · obtain ⟨c1, c2, c3⟩ := hT f fs rfl
      exact ⟨by rw [rr 82 (by omega)]; exact c1, by rw [rr 82 (by omega)]; exact c2, STc.low _ (fun j _ => by rw [rr 89 (by omega)]) c3⟩
end MJB60
end
section
/-! ===== the class's RUN: callMethod ===== -/
/-- where the class goes on -/
def pcO (pf : Nat → Nat → Nat) (A : AMS) : Nat := match A.2.1 with
  | f :: _ => pf f.1 A.2.2.1
  | [] => 0
section MJB61
variable {T : TT} {N wm cm pc k n d i o q w x kk c m m0 d' : Nat} {pf : Nat → Nat → Nat} {L : List CD} {H H' : HEAP} {f g : FRM} {fs gs : List FRM} {st : List Int32} {sc : SCL} {s s' : mjSt3} {A : AMS} {v : Int32}
theorem dr_c : ∀ (st : List Int32) (j : Nat), j < st.length → st.drop j = st[j]?.getD 0 :: st.drop (j + 1)
  | [], j, h => by cases h
  | v :: st, 0, _ => rfl
  | v :: st, j + 1, h => dr_c st j (Nat.lt_of_succ_lt_succ h)
/-- peek -/
theorem x_90 (M : CRn T L pf wm cm pc (H, f :: fs, k, st, sc) s) (hs : st.length < 5120) (hi : i < st.length) : mjF (d + 1) 90 [.ref 82, .int (nI i)] (mjW0 s) = some (some (.int (st[i]?.getD 0)), mjW0 s) := by
  obtain ⟨h9, h8, hS⟩ := M.2.2.2 f fs rfl
  have h8' : s.1 82 6 = nI st.length := h8
  have e : nI st.length - 1 - nI i = nI (st.length - 1 - i) := by
    have e1 : nI st.length - 1 = nI (st.length - 1) := by
      have := nI_pred (st.length - 1)
      rw [show st.length - 1 + 1 = st.length by omega] at this
      exact this
    have e2 : st.length - 1 = (st.length - 1 - i) + i := by omega
    rw [e1]
    have e3 : nI (st.length - 1) = nI (st.length - 1 - i) + nI i := by rw [nI_add, ← e2]
    rw [e3, Int32.add_sub_cancel]
  rw [e_90]
  unfold f_90 b_90_0
  rw [xg_82_6, h8', e, if_neg (show ¬ nI (st.length - 1 - i) < 0 from nI_nlt (b := 0) (Nat.zero_le _) (by omega)), xg_82_5, wa_89 (by omega), STc.at st i hS hi]
theorem CRn.jmp (M : CRn T L pf wm cm pc (H, f :: fs, k, st, sc) s) (k' : Nat) : CRn T L pf wm cm pc (H, f :: fs, k', st, sc) s := M
theorem CRn.pcs (M : CRn T L pf wm cm pc (H, f :: fs, k, st, sc) s) (y : Nat) : CRn T L pf wm cm y (H, f :: fs, k, st, sc) (uI s 82 (upd (s.1 82) 4 (nI y))) := by
  obtain ⟨z1, g1⟩ : ∃ z, z = uI s 82 (upd (s.1 82) 4 (nI y)) := ⟨_, rfl⟩
  rw [← g1]
  have rr : ∀ h, ¬ h = 82 → z1.1 h = s.1 h := fun h e => by rw [g1]; exact uI_ne _ _ _ _ e
  have v82 : ∀ j, z1.1 82 j = if j = 4 then nI y else s.1 82 j := fun j => by rw [g1, uI_same, upd_g]
  have n : ∀ j, ¬ j = 4 → z1.1 82 j = s.1 82 j := fun j hj => by rw [v82, if_neg hj]
  obtain ⟨⟨⟨a1, a2, a3, a4⟩, ⟨a5, a6, a7⟩, ⟨a8, a9, a10⟩, ⟨a11, a12⟩, a13⟩, hH, hF, hT⟩ := M
  refine ⟨⟨⟨by rw [n 8 (by omega)]; exact a1, by rw [n 9 (by omega)]; exact a2, by rw [n 10 (by omega)]; exact a3, by rw [n 11 (by omega)]; exact a4⟩, ⟨by rw [n 12 (by omega)]; exact a5, by rw [rr 83 (by decide)]; exact a6, by rw [n 13 (by omega)]; exact a7⟩, ⟨by rw [rr 79 (by decide)]; exact a8, by rw [rr 79 (by decide)]; exact a9, by rw [rr 83 (by decide)]; exact a10⟩, ⟨by rw [rr 79 (by decide)]; exact a11, by rw [n 7 (by omega)]; exact a12⟩, fun i h1 h2 => by rw [rr 90 (by decide)]; exact a13 i h1 h2⟩, hH.keep (fun x hx => rr x (by omega)), FRc.keep (fun x hx => rr x (by omega)) _ hF, fun g gs hg => ?_⟩
  obtain ⟨c1, c2, c3⟩ := hT g gs hg
  exact ⟨by rw [v82, if_pos rfl], by rw [n 6 (by omega)]; exact c2, STc.low _ (fun j _ => by rw [rr 89 (by decide)]) c3⟩
theorem L89_S (R : mjR) (n a : Nat) (b c : Int32) (hp : mjH) : L_89_118 R (n + 1) a b c hp = b_89_118 R (L_89_118 R n) a b c hp := rfl
/-- the PARAMS that a CALL has when so many values still wait -/
def vfC (st : List Int32) (n i : Nat) : Nat → Int32 := fun x => if i ≤ x ∧ x < n then st[n - 1 - x]?.getD 0 else 0
theorem lq_89 (C : CPH T L q s) (hl : (f :: fs).length < 40) (hs : st.length < 5120) (n6 : n ≤ 6) (hn1 : n + 1 ≤ st.length) (hm : d' ≤ 384) (hst : s.1 (q + 23) d' = nI (pf d' 0)) : ∀ (i m : Nat) (s1 : mjSt3), i ≤ n → i < m → oCn s s1 → CRn T L pf wm cm pc (H, (d', o, -1, vfC st n i, k) :: f :: fs, k, st.drop (n - i), sc) s1 → ∃ s', L_89_118 (mjF (d + 4)) m 82 (nI d') (nI i + (-1)) (mjW0 s1) = some (none, mjW0 s') ∧ oCn s1 s' ∧ CRn T L pf wm cm (pf d' 0) (H, (d', o, -1, vfC st n 0, k) :: f :: fs, 0, st.drop (n + 1), sc) s'
  | i, 0, s1, _, h, _, _ => by omega
  | 0, m + 1, s1, hi, h, o1, M => by
    obtain ⟨hq, _⟩ := C.1.1
    have ed : st.drop (n - 0) = st[n]?.getD 0 :: st.drop (n + 1) := dr_c st n (by omega)
    rw [ed] at M
    obtain ⟨s2, a1, a2, a3⟩ := x_80 (d := d + 3) M (by rw [List.length_drop]; omega)
    have o12 := offG.tr o1 a2
    have C2 := C.run o12
    have e23 : s2.1 (q + 23) d' = nI (pf d' 0) := by
      rw [o12.1 (q + 23) d' (fun x => by have h1 : 79 ≤ q + 23 ∧ q + 23 ≤ 90 := x; have h2 : q = 2 ∨ q = 30 := hq; omega)]
      exact hst
    refine ⟨uI s2 82 (upd (s2.1 82) 4 (nI (pf d' 0))), ?_, offG.tr a2 (oCn.wr (by omega)), (a3.jmp 0).pcs (pf d' 0)⟩
    rw [L89_S]
    unfold b_89_118
    rw [if_pos (show nI 0 + (-1 : Int32) < 0 by decide), xV_82, a1, bI_s, xg_82_2, C2.2.1, yg_14 hq, ymg_9 hq, wya_23 hq (by omega), e23, xp_82_4]
  | i + 1, m + 1, s1, hi, h, o1, M => by
    have ed : st.drop (n - (i + 1)) = st[n - (i + 1)]?.getD 0 :: st.drop (n - i) := by
      have := dr_c st (n - (i + 1)) (by omega)
      rw [show n - (i + 1) + 1 = n - i by omega] at this
      exact this
    rw [ed] at M
    obtain ⟨s2, a1, a2, a3⟩ := x_80 (d := d + 3) M (by rw [List.length_drop]; omega)
    obtain ⟨s3, b1, b2', b3⟩ := x_40 (d := d + 1) a3 hl (show i < 16 by omega) (st[n - (i + 1)]?.getD 0)
    have ev : setV (d', o, -1, vfC st n (i + 1), k) i (st[n - (i + 1)]?.getD 0) = (d', o, -1, vfC st n i, k) := by
      unfold setV
      dsimp only
      have : (fun y => if y = i then st[n - (i + 1)]?.getD 0 else vfC st n (i + 1) y) = vfC st n i := by
        funext y
        unfold vfC
        by_cases e : y = i
        · rw [if_pos e, if_pos (by omega), e, show n - 1 - i = n - (i + 1) by omega]
        · rw [if_neg e]
          by_cases e2 : i ≤ y ∧ y < n
          · rw [if_pos e2, if_pos (by omega)]
          · rw [if_neg e2, if_neg (by omega)]
      rw [this]
    rw [ev] at b3
    obtain ⟨s4, c1, c2, c3⟩ := lq_89 C hl hs n6 hn1 hm hst i m s3 (by omega) (by omega) (offG.tr o1 (offG.tr a2 b2')) b3
    refine ⟨s4, ?_, offG.tr a2 (offG.tr b2' c2), c3⟩
    rw [L89_S]
    unfold b_89_118
    rw [nI_m, if_neg (show ¬ nI i < 0 from nI_nlt (b := 0) (Nat.zero_le _) (by omega)), xg_82_1, xV_82, a1, bI_s, xV_83, b1, bN_s, c1]
/-- callMethod -/
theorem x_89 (Ac : ACY T N L) (M : CRn T L pf wm cm pc (H, f :: fs, k, st, sc) s) (C : CPH T L q s) (B : HBs T L H) (hO : HOK T L H) (hcl : (f :: fs).length ≤ cm) (cm4 : cm ≤ 40) (ms : sc.1 < 100) (hs : st.length < 5120) (hm : m < nMem L) (n6 : (psM L m).length ≤ 6) (hn1 : (psM L m).length + 1 ≤ st.length) (hpc : pc = pf f.1 k) (hst : ∀ x, x < nMem L → mSM L x = true → s.1 (q + 23) x = nI (pf x 0)) (hv : st[(psM L m).length]?.getD 0 = 0 ∨ ∃ o, st[(psM L m).length]?.getD 0 = nI o ∧ 1 ≤ o ∧ o ≤ H.1) (p : Int32) : ∃ s', mjF (d + 5) 89 [.ref 82, .int (nI m), .int p] (mjW0 s) = some (none, mjW0 s') ∧ oCn s s' ∧ CRn T L pf wm cm (pcO pf (aCall T L cm (psM L m).length m p (H, f :: fs, k, st, sc) (f :: fs))) (aCall T L cm (psM L m).length m p (H, f :: fs, k, st, sc) (f :: fs)) s' := by
  have hn := Ac.1
  obtain ⟨n, en⟩ : ∃ n, n = (psM L m).length := ⟨_, rfl⟩
  have P := C.1
  obtain ⟨⟨hq, g2, g3, h16⟩, ⟨g5, g6, g7⟩, _, _, g13, ⟨g14, g15⟩, g16, g17, _⟩ := P
  have u20 := (g16 m hm).2.2.2
  have h79 : s.1 79 2 = nI H.1 := M.1.2.2.1.2.1
  have h830 : s.1 83 0 = nI (f :: fs).length := M.1.2.2.1.2.2
  have h827 : s.1 82 7 = nI cm := M.1.2.2.2.1.2
  have hHp : HPc T L H s := M.2.1
  have hb := B.1
  have hb2 := B.2
  have hmj := mjN_v
  obtain ⟨h824, _⟩ := M.2.2.2 f fs rfl
  have pre : mjF (d + 5) 89 [.ref 82, .int (nI m), .int p] (mjW0 s) = bI (mjF (d + 4) 43 [.ref 79, .int (st[n]?.getD 0)] (mjW0 s)) (fun v8 hp9 => (if v8 = 0 then rV hp9 82 5 (bN (mjF (d + 4) 82 [.ref 82, .int (1 : Int32), .int p] hp9) (fun  hp27 => some (none, hp27))) else gR hp9 82 5 1 (fun v10 => gI hp9 v10 2 0 (fun v11 => gI hp9 82 5 7 (fun v12 => (if v11 < v12 then gR hp9 82 5 2 (fun v13 => gR hp9 82 5 0 (fun v14 => rV hp9 v14 3 (bI (mjF (d + 4) 46 [.ref v14, .int (st[n]?.getD 0)] hp9) (fun v15 hp16 => gR hp16 82 5 2 (fun v17 => gR hp16 v17 7 14 (fun v18 => gR hp16 v18 6 1 (fun v19 => aL hp16 v19 (nI m) (fun v20 => rV hp16 v13 7 (bI (mjF (d + 4) 121 [.ref v13, .int v15, .long v20, .int (1 : Int32)] hp16) (fun v21 hp22 => (if v21 = (-1 : Int32) then some (none, hp22) else gR hp22 82 5 1 (fun v23 => gI hp22 82 5 4 (fun v24 => rV hp22 v23 2 (bN (mjF (d + 4) 37 [.ref v23, .int v21, .int (st[n]?.getD 0), .int v24] hp22) (fun  hp25 => L_89_118 (mjF (d + 4)) mjN 82 v21 (nI n - (1 : Int32)) hp25))))))))))))))) else rV hp9 82 5 (bN (mjF (d + 4) 82 [.ref 82, .int (5 : Int32), .int p] hp9) (fun  hp26 => some (none, hp26))))))))) := by
    rw [e_89]
    unfold f_89 b_89_0
    rw [xg_82_2, C.2.1, yg_14 hq, ymg_6 hq, wya_20 hq (by omega), u20, ← en, xV_82, x_90 M hs (show n < st.length by omega), bI_s, xg_82_0, xV_79]
  rw [pre, ← en, aCall_eq]
  rw [← en] at hv
  by_cases g1 : st[n]?.getD 0 = 0
  · obtain ⟨s', a1, a2, a3⟩ := x_82 (d := d + 2) M 1 p
    exact ⟨s', by rw [g1, x_43z, bI_s, if_pos rfl, xV_82, a1, bN_s], a2, by rw [if_pos g1]; exact a3 _⟩
  obtain ⟨o, e1, o1, o2⟩ := hv.resolve_left g1
  rw [if_neg g1, e1, x_43o h79 (by omega) o1 o2, bI_s, if_neg (show ¬ ((1 : Int32) = 0) by decide), xg_82_1, xg_83_0, h830, xg_82_7, h827, nN_nI (by omega)]
  by_cases g2' : (f :: fs).length = cm
  · obtain ⟨s', a1, a2, a3⟩ := x_82 (d := d + 2) M 5 p
    exact ⟨s', by rw [if_neg (nI_nlt (by omega) (by omega)), xV_82, a1, bN_s], a2, by rw [if_pos g2']; exact a3 _⟩
  have cl := (hO o o1 o2).1
  have x121 : mjF (d + 4) 121 [.ref q, .int (nI (H.2 o).1), .long (s.2.1 (q + 15) m), .int 1] (mjW0 s) = some (some (.int (oI (memT T L (H.2 o).1 (nkM T L m) true))), mjW0 s) := x_121g (d := d + 1) hn C.1 cl hm true
  rw [if_neg g2', if_pos (nI_lt (by omega) (by omega)), xg_82_2, C.2.1, xg_82_0, xV_79, x_46 hHp B o1 o2, bI_s, xg_82_2, C.2.1, yg_14 hq, ymg_1 hq, wya_15 hq (by omega), yV hq, x121, bI_s]
  cases hmt : memT T L (H.2 o).1 (nkM T L m) true with
  | none =>
    refine ⟨s, by rw [oI_n, if_pos rfl], offG.rf, ?_⟩
    have e : pcO pf (H, f :: fs, k, st, sc) = pc := hpc.symm
    show CRn T L pf wm cm (pcO pf (H, f :: fs, k, st, sc)) (H, f :: fs, k, st, sc) s
    rw [e]
    exact M
  | some y =>
    obtain ⟨y1, _, _, y2, _⟩ := mem_in Ac cl hmt
    have hl : fs.length + 1 < 40 := by have : (f :: fs).length = fs.length + 1 := rfl; omega
    obtain ⟨s1, a1, a2, a3⟩ := x_37 (d := d + 1) M hl ms hpc y o
    have e0 : (fun _ => 0 : Nat → Int32) = vfC st n n := by
      funext x
      unfold vfC
      rw [if_neg (by omega)]
    have ed : st = st.drop (n - n) := by rw [Nat.sub_self]; rfl
    rw [e0] at a3
    have a3' : CRn T L pf wm cm pc (H, (y, o, -1, vfC st n n, k) :: f :: fs, k, st.drop (n - n), (if sc.1 < (f :: fs).length + 1 then (f :: fs).length + 1 else sc.1), sc.2) s1 := by rw [← ed]; exact a3
    obtain ⟨s2, c1, c2, c3⟩ := lq_89 (d := d) (n := n) (o := o) (k := k) C hl hs (by omega) (by omega) (show y ≤ 384 by omega) (hst y y1 y2) n mjN s1 (Nat.le_refl _) (by omega) a2 a3'
    have ev : vfC st n 0 = fun i => if i < n then st[n - 1 - i]?.getD 0 else 0 := by
      funext x
      unfold vfC
      by_cases e : x < n
      · rw [if_pos e, if_pos (by omega)]
      · rw [if_neg e, if_neg (by omega)]
    rw [ev] at c3
    refine ⟨s2, ?_, offG.tr a2 c2, c3⟩
    rw [oI_s, if_neg (nI_m1 (by omega)), xg_82_1, xg_82_4, h824, xV_83, a1, bN_s, show nI n - (1 : Int32) = nI n + (-1) from Int32.sub_eq_add_neg _ _, c1]
end MJB61
end
section
/-! ===== the class's instructions ===== -/
section MJB62
variable {T : TT} {N wm cm pc k k' n d i o q x kk c m y : Nat} {pf : Nat → Nat → Nat} {L : List CD} {H H' : HEAP} {f g : FRM} {fs gs : List FRM} {st st' : List Int32} {sc : SCL} {s s' : mjSt3} {A : AMS} {v w p a : Int32}
theorem CRn.nil (M : CRn T L pf wm cm pc (H, [], k, st, sc) s) (pc' k' : Nat) (st' : List Int32) : CRn T L pf wm cm pc' (H, [], k', st', sc) s := ⟨M.1, M.2.1, M.2.2.1, fun g gs hg => by cases hg⟩
theorem i_push (M : CRn T L pf wm cm pc (H, f :: fs, k, st, sc) s) (hl : st.length < 5120) : ∃ s', mjF (d + 2) 78 [.ref 82, .int 0, .int v, .int p] (mjW0 s) = some (none, mjW0 s') ∧ oCn s s' ∧ CRn T L pf wm cm pc (H, f :: fs, k, v :: st, sc) s' := by
  obtain ⟨s', a1, a2, a3⟩ := x_79 (d := d) M hl v
  refine ⟨s', ?_, a2, a3⟩
  rw [e_78]
  unfold f_78 b_78_0
  rw [if_pos rfl, xV_82, a1, bN_s]
theorem i_load (M : CRn T L pf wm cm pc (H, f :: fs, k, st, sc) s) (hl : st.length < 5120) (hf : fs.length < 40) (hx : x < 16) : ∃ s', mjF (d + 3) 78 [.ref 82, .int 1, .int (nI x), .int p] (mjW0 s) = some (none, mjW0 s') ∧ oCn s s' ∧ CRn T L pf wm cm pc (H, f :: fs, k, f.2.2.2.1 x :: st, sc) s' := by
  obtain ⟨s', a1, a2, a3⟩ := x_79 (d := d + 1) M hl (f.2.2.2.1 x)
  refine ⟨s', ?_, a2, a3⟩
  rw [e_78]
  unfold f_78 b_78_0
  rw [if_neg (by decide), if_pos rfl, xg_82_1, xg_82_1, xV_83, x_38 M hf, bI_s, xV_83, x_39 M hf hx, bI_s, xV_82, a1, bN_s]
theorem i_store (M : CRn T L pf wm cm pc (H, f :: fs, k, v :: st, sc) s) (hl : st.length < 5120) (hf : fs.length < 40) (hx : x < 16) : ∃ s', mjF (d + 4) 78 [.ref 82, .int 2, .int (nI x), .int p] (mjW0 s) = some (none, mjW0 s') ∧ oCn s s' ∧ CRn T L pf wm cm pc (H, setV f x v :: fs, k, st, sc) s' := by
  obtain ⟨s1, a1, a2, a3⟩ := x_80 (d := d + 2) M hl
  obtain ⟨s2, c1, c2, c3⟩ := x_40 (d := d) a3 hf hx v
  refine ⟨s2, ?_, offG.tr a2 c2, c3⟩
  rw [e_78]
  unfold f_78 b_78_0
  rw [if_neg (by decide), if_neg (by decide), if_pos rfl, xg_82_1, xV_82, a1, bI_s, xV_83, c1, bN_s]
theorem i_self (M : CRn T L pf wm cm pc (H, f :: fs, k, st, sc) s) (hl : st.length < 5120) (hf : fs.length < 40) : ∃ s', mjF (d + 3) 78 [.ref 82, .int 3, .int a, .int p] (mjW0 s) = some (none, mjW0 s') ∧ oCn s s' ∧ CRn T L pf wm cm pc (H, f :: fs, k, nI f.2.1 :: st, sc) s' := by
  obtain ⟨s', a1, a2, a3⟩ := x_79 (d := d + 1) M hl (nI f.2.1)
  have e85 : s.1 85 fs.length = nI f.2.1 := M.2.2.1.1.2.1
  refine ⟨s', ?_, a2, a3⟩
  rw [e_78]
  unfold f_78 b_78_0
  rw [if_neg (by decide), if_neg (by decide), if_neg (by decide), if_pos rfl, xg_82_1, xg_83_3, xg_82_1, xV_83, x_38 M hf, bI_s, wa_85 hf, e85, xV_82, a1, bN_s]
theorem i_put (M : CRn T L pf wm cm pc (H, f :: fs, k, v :: w :: st, sc) s) (B : HBs T L H) (hl : st.length + 1 < 5120) (hv : w = 0 ∨ ∃ o, w = nI o ∧ 1 ≤ o ∧ o ≤ H.1 ∧ i < fldT T L (H.2 o).1) : ∃ s', mjF (d + 4) 78 [.ref 82, .int 4, .int (nI i), .int p] (mjW0 s) = some (none, mjW0 s') ∧ oCn s s' ∧ (w = 0 → ∀ pc' k' st', CRn T L pf wm cm pc' (aFail (H, f :: fs, k', st', sc) 1 p) s') ∧ (¬ w = 0 → CRn T L pf wm cm pc (setF H (nN w) i v, f :: fs, k, st, sc) s') := by
  have hb := B.1
  have hb2 := B.2
  obtain ⟨s1, a1, a2, a3⟩ := x_80 (d := d + 1) M hl
  obtain ⟨s2, c1, c2, c3⟩ := x_80 (d := d + 1) a3 (by omega)
  have pre : mjF (d + 4) 78 [.ref 82, .int 4, .int (nI i), .int p] (mjW0 s) = bN (bI (mjF (d + 2) 43 [.ref 79, .int w] (mjW0 s2)) (fun v6 hp7 => (if v6 = 0 then rV hp7 82 5 (bN (mjF (d + 2) 82 [.ref 82, .int (1 : Int32), .int p] hp7) (fun  hp8 => some (none, hp8))) else gR hp7 82 5 0 (fun v9 => rV hp7 v9 3 (bN (mjF (d + 2) 44 [.ref v9, .int w, .int (nI i), .int v] hp7) (fun  hp10 => some (none, hp10))))))) (fun hp25 => some (none, hp25)) := by
    rw [e_78]
    unfold f_78 b_78_0
    rw [if_neg (by decide), if_neg (by decide), if_neg (by decide), if_neg (by decide), if_pos rfl, xV_82, e_81]
    unfold f_81 b_81_0
    rw [xV_82, a1, bI_s, xV_82, c1, bI_s, xg_82_0, xV_79]
  by_cases w0 : w = 0
  · obtain ⟨s3, d1, d2, d3⟩ := x_82 (d := d) c3 1 p
    refine ⟨s3, ?_, offG.tr a2 (offG.tr c2 d2), fun _ pc' k' st' => CRn.nil (d3 0) pc' k' st', fun h => absurd w0 h⟩
    rw [pre, w0, x_43z, bI_s, if_pos rfl, xV_82, d1, bN_s, bN_s]
  · obtain ⟨o, e1, o1, o2, o3⟩ := hv.resolve_left w0
    have h79 : s2.1 79 2 = nI H.1 := c3.1.2.2.1.2.1
    obtain ⟨s3, d1, d2, d3⟩ := x_44 (d := d + 1) c3 B o1 o2 o3 v
    refine ⟨s3, ?_, offG.tr a2 (offG.tr c2 d2), fun h => absurd h w0, fun _ => ?_⟩
    · rw [pre, e1, x_43o h79 (by omega) o1 o2, bI_s, if_neg (show ¬ ((1 : Int32) = 0) by decide), xg_82_0, xV_79, d1, bN_s, bN_s]
    · rw [e1, nN_nI (by omega)]
      exact d3
theorem i_pop (M : CRn T L pf wm cm pc (H, f :: fs, k, v :: st, sc) s) (hl : st.length < 5120) : ∃ s', mjF (d + 2) 78 [.ref 82, .int 5, .int a, .int p] (mjW0 s) = some (none, mjW0 s') ∧ oCn s s' ∧ CRn T L pf wm cm pc (H, f :: fs, k, st, sc) s' := by
  obtain ⟨s1, a1, a2, a3⟩ := x_80 (d := d) M hl
  refine ⟨s1, ?_, a2, a3⟩
  rw [e_78]
  unfold f_78 b_78_0
  rw [if_neg (by decide), if_neg (by decide), if_neg (by decide), if_neg (by decide), if_neg (by decide), if_pos rfl, xV_82, a1, bI_s]
theorem i_jump (M : CRn T L pf wm cm pc (H, f :: fs, k, st, sc) s) : ∃ s', mjF (d + 1) 78 [.ref 82, .int 6, .int (nI y), .int p] (mjW0 s) = some (none, mjW0 s') ∧ oCn s s' ∧ CRn T L pf wm cm y (H, f :: fs, k, st, sc) s' := by
  refine ⟨uI s 82 (upd (s.1 82) 4 (nI y)), ?_, oCn.wr (by omega), M.pcs y⟩
  rw [e_78]
  unfold f_78 b_78_0
  rw [if_neg (by decide), if_neg (by decide), if_neg (by decide), if_neg (by decide), if_neg (by decide), if_neg (by decide), if_pos rfl, xp_82_4]
theorem i_jz (M : CRn T L pf wm cm pc (H, f :: fs, k, v :: st, sc) s) (hl : st.length < 5120) : ∃ s', mjF (d + 2) 78 [.ref 82, .int 7, .int (nI y), .int p] (mjW0 s) = some (none, mjW0 s') ∧ oCn s s' ∧ CRn T L pf wm cm (if v = 0 then y else pc) (H, f :: fs, k, st, sc) s' := by
  obtain ⟨s1, a1, a2, a3⟩ := x_80 (d := d) M hl
  have h4 : s1.1 82 4 = nI pc := (a3.2.2.2 f fs rfl).1
  refine ⟨uI s1 82 (upd (s1.1 82) 4 (nI (if v = 0 then y else pc))), ?_, offG.tr a2 (oCn.wr (by omega)), a3.pcs _⟩
  rw [e_78]
  unfold f_78 b_78_0 b_78_160
  rw [if_neg (by decide), if_neg (by decide), if_neg (by decide), if_neg (by decide), if_neg (by decide), if_neg (by decide), if_neg (by decide), if_pos rfl, xV_82, a1, bI_s]
  by_cases e : v = 0
  · rw [if_pos e, if_pos e, xp_82_4]
  · rw [if_neg e, if_neg e, xg_82_4, h4, xp_82_4]
theorem i_say (M : CRn T L pf wm cm pc (H, f :: fs, k, v :: st, sc) s) (hl : st.length < 5120) (hs : sc.2.1 < 100000000) : ∃ s', mjF (d + 2) 78 [.ref 82, .int 8, .int a, .int p] (mjW0 s) = some (none, mjW0 s') ∧ oCn s s' ∧ CRn T L pf wm cm pc (H, f :: fs, k, st, sc.1, sc.2.1 + 1, (fun i => if i = sc.2.1 ∧ i < 200 then v else sc.2.2.1 i), sc.2.2.2) s' := by
  obtain ⟨s1, a1, a2, a3⟩ := x_80 (d := d) M hl
  obtain ⟨s2, c1, c2, c3⟩ := x_83 (d := d) a3 hs v
  refine ⟨s2, ?_, offG.tr a2 c2, c3⟩
  rw [e_78]
  unfold f_78 b_78_0
  rw [if_neg (by decide), if_neg (by decide), if_neg (by decide), if_neg (by decide), if_neg (by decide), if_neg (by decide), if_neg (by decide), if_neg (by decide), if_pos rfl, xV_82, a1, bI_s, xV_82, c1, bN_s]
theorem i_ret (M : CRn T L pf wm cm pc (H, f :: fs, k, v :: st, sc) s) (hl : st.length < 5120) (hf : fs.length < 40) : ∃ s', mjF (d + 4) 78 [.ref 82, .int 9, .int a, .int p] (mjW0 s) = some (none, mjW0 s') ∧ oCn s s' ∧ CRn T L pf wm cm (pcO pf (aRet (H, f :: fs, k, st, sc) f fs v)) (aRet (H, f :: fs, k, st, sc) f fs v) s' := by
  obtain ⟨s1, a1, a2, a3⟩ := x_80 (d := d + 2) M hl
  have pre : mjF (d + 4) 78 [.ref 82, .int 9, .int a, .int p] (mjW0 s) = bN (mjF (d + 3) 84 [.ref 82, .int v] (mjW0 s1)) (fun hp => some (none, hp)) := by
    rw [e_78]
    unfold f_78 b_78_0
    rw [if_neg (by decide), if_neg (by decide), if_neg (by decide), if_neg (by decide), if_neg (by decide), if_neg (by decide), if_neg (by decide), if_neg (by decide), if_neg (by decide), xV_82, a1, bI_s, xV_82]
  rw [pre]
  cases fs with
  | nil =>
    obtain ⟨s2, c1, c2, c3⟩ := x_84n (d := d) a3 v
    exact ⟨s2, by rw [c1, bN_s], offG.tr a2 c2, c3 _⟩
  | cons g gs =>
    obtain ⟨s2, c1, c2, c3⟩ := x_84c (d := d) a3 hf hl v
    exact ⟨s2, by rw [c1, bN_s], offG.tr a2 c2, c3⟩
/-- STATEMENT -/
theorem i_stmt (M : CRn T L pf wm cm pc (H, f :: fs, k, st, sc) s) (hf : fs.length < 40) : ∃ s', mjF (d + 3) 87 [.ref 82, .int 10, .int a, .int p] (mjW0 s) = some (none, mjW0 s') ∧ oCn s s' ∧ CRn T L pf wm cm pc (H, (f.1, f.2.1, p, f.2.2.2) :: fs, k, st, sc) s' := by
  obtain ⟨z1, g1⟩ : ∃ y, y = uI s 87 (upd (s.1 87) fs.length p) := ⟨_, rfl⟩
  have r1 : ∀ h, ¬ h = 87 → z1.1 h = s.1 h := fun h e => by rw [g1]; exact uI_ne _ _ _ _ e
  have v87 : ∀ j, z1.1 87 j = if j = fs.length then p else s.1 87 j := fun j => by rw [g1, uI_same, upd_g]
  obtain ⟨⟨b1, b2', b3, b4, b5⟩, b6⟩ := M.2.2.1
  refine ⟨z1, ?_, by rw [g1]; exact oCn.wr (by omega), M.frm (fun h h1 h2 => r1 h (by omega)) ⟨⟨by rw [r1 84 (by decide)]; exact b1, by rw [r1 85 (by decide)]; exact b2', by rw [v87, if_pos rfl], fun y hy => by rw [r1 88 (by decide)]; exact b4 y hy, fun g gs hg => by rw [r1 86 (by decide)]; exact b5 g gs hg⟩, FRc.low (n := fs.length) (fun h j h1 h2 => ?_) (fun j hj => by rw [r1 88 (by decide)]) fs (Nat.le_refl _) b6⟩⟩
  · rw [e_87]
    unfold f_87 b_87_0
    rw [if_pos rfl, xg_82_1, xg_83_5, xg_82_1, xV_83, x_38 M hf, bI_s, ws_87 hf, ← g1]
  · by_cases e : h = 87
    · rw [e, v87, if_neg (by omega)]
    · rw [r1 h e]
theorem i_loop : mjF (d + 1) 87 [.ref 82, .int 11, .int a, .int p] (mjW0 s) = some (none, mjW0 s) := by
  rw [e_87]
  unfold f_87 b_87_0
  rw [if_neg (by decide), if_pos rfl]
theorem i_get (M : CRn T L pf wm cm pc (H, f :: fs, k, w :: st, sc) s) (B : HBs T L H) (hl : st.length < 5120) (hv : w = 0 ∨ ∃ o, w = nI o ∧ 1 ≤ o ∧ o ≤ H.1 ∧ i < fldT T L (H.2 o).1) : ∃ s', mjF (d + 4) 87 [.ref 82, .int 12, .int (nI i), .int p] (mjW0 s) = some (none, mjW0 s') ∧ oCn s s' ∧ (w = 0 → ∀ pc' k' st', CRn T L pf wm cm pc' (aFail (H, f :: fs, k', st', sc) 1 p) s') ∧ (¬ w = 0 → CRn T L pf wm cm pc (H, f :: fs, k, (H.2 (nN w)).2.2 i :: st, sc) s') := by
  have hb := B.1
  have hb2 := B.2
  obtain ⟨s1, a1, a2, a3⟩ := x_80 (d := d + 1) M hl
  have pre : mjF (d + 4) 87 [.ref 82, .int 12, .int (nI i), .int p] (mjW0 s) = bN (bI (mjF (d + 2) 43 [.ref 79, .int w] (mjW0 s1)) (fun v4 hp5 => (if v4 = 0 then rV hp5 82 5 (bN (mjF (d + 2) 82 [.ref 82, .int (1 : Int32), .int p] hp5) (fun  hp6 => some (none, hp6))) else gR hp5 82 5 0 (fun v7 => rV hp5 v7 3 (bI (mjF (d + 2) 45 [.ref v7, .int w, .int (nI i)] hp5) (fun v8 hp9 => rV hp9 82 5 (bN (mjF (d + 2) 79 [.ref 82, .int v8] hp9) (fun  hp10 => some (none, hp10))))))))) (fun hp25 => some (none, hp25)) := by
    rw [e_87]
    unfold f_87 b_87_0
    rw [if_neg (by decide), if_neg (by decide), if_pos rfl, xV_82, e_88]
    unfold f_88 b_88_0
    rw [xV_82, a1, bI_s, xg_82_0, xV_79]
  by_cases w0 : w = 0
  · obtain ⟨s3, d1, d2, d3⟩ := x_82 (d := d) a3 1 p
    refine ⟨s3, ?_, offG.tr a2 d2, fun _ pc' k' st' => CRn.nil (d3 0) pc' k' st', fun h => absurd w0 h⟩
    rw [pre, w0, x_43z, bI_s, if_pos rfl, xV_82, d1, bN_s, bN_s]
  · obtain ⟨o, e1, o1, o2, o3⟩ := hv.resolve_left w0
    have h79 : s1.1 79 2 = nI H.1 := a3.1.2.2.1.2.1
    have hHp : HPc T L H s1 := a3.2.1
    obtain ⟨s3, d1, d2, d3⟩ := x_79 (d := d + 1) a3 hl ((H.2 o).2.2 i)
    refine ⟨s3, ?_, offG.tr a2 d2, fun h => absurd h w0, fun _ => ?_⟩
    · rw [pre, e1, x_43o h79 (by omega) o1 o2, bI_s, if_neg (show ¬ ((1 : Int32) = 0) by decide), xg_82_0, xV_79, x_45 hHp B o1 o2 o3, bI_s, xV_82, d1, bN_s, bN_s]
    · rw [e1, nN_nI (by omega)]
      exact d3
theorem i_neg (M : CRn T L pf wm cm pc (H, f :: fs, k, v :: st, sc) s) (hl : st.length < 5120) : ∃ s', mjF (d + 2) 87 [.ref 82, .int 16, .int a, .int p] (mjW0 s) = some (none, mjW0 s') ∧ oCn s s' ∧ CRn T L pf wm cm pc (H, f :: fs, k, (-v) :: st, sc) s' := by
  obtain ⟨s1, a1, a2, a3⟩ := x_80 (d := d) M hl
  obtain ⟨s2, c1, c2, c3⟩ := x_79 (d := d) a3 hl (-v)
  refine ⟨s2, ?_, offG.tr a2 c2, c3⟩
  rw [e_87]
  unfold f_87 b_87_0
  rw [if_neg (by decide), if_neg (by decide), if_neg (by decide), if_neg (by decide), if_neg (by decide), if_neg (by decide), if_pos rfl, xV_82, a1, bI_s, xV_82, c1, bN_s]
end MJB62
end
section
/-! ===== the class's instructions: operators, new, calls, as ===== -/
section MJB63
variable {T : TT} {N wm cm pc k k' n d i o q x kk c m y : Nat} {pf : Nat → Nat → Nat} {L : List CD} {H H' : HEAP} {f g : FRM} {fs gs : List FRM} {st st' : List Int32} {sc : SCL} {s s' : mjSt3} {A : AMS} {v w p a b op : Int32}
theorem i_op (M : CRn T L pf wm cm pc (H, f :: fs, k, b :: a :: st, sc) s) (hl : st.length + 1 < 5120) : ∃ s', mjF (d + 4) 85 [.ref 82, .int (opr op), .int p] (mjW0 s) = some (none, mjW0 s') ∧ oCn s s' ∧ (two2 op a b = none → ∀ pc' k' st', CRn T L pf wm cm pc' (aFail (H, f :: fs, k', st', sc) 2 p) s') ∧ ∀ v, two2 op a b = some v → CRn T L pf wm cm pc (H, f :: fs, k, v :: st, sc) s' := by
  obtain ⟨s1, a1, a2, a3⟩ := x_80 (d := d + 2) M hl
  obtain ⟨s2, c1, c2, c3⟩ := x_80 (d := d + 2) a3 (by omega)
  have fin : ∀ v, two2 op a b = some v → mjF (d + 4) 85 [.ref 82, .int (opr op), .int p] (mjW0 s) = bN (mjF (d + 3) 79 [.ref 82, .int v] (mjW0 s2)) (fun hp => some (none, hp)) → ∃ s', mjF (d + 4) 85 [.ref 82, .int (opr op), .int p] (mjW0 s) = some (none, mjW0 s') ∧ oCn s s' ∧ (two2 op a b = none → ∀ pc' k' st', CRn T L pf wm cm pc' (aFail (H, f :: fs, k', st', sc) 2 p) s') ∧ ∀ v, two2 op a b = some v → CRn T L pf wm cm pc (H, f :: fs, k, v :: st, sc) s' := by
    intro v hv e
    obtain ⟨s3, d1, d2, d3⟩ := x_79 (d := d + 2) c3 (by omega) v
    refine ⟨s3, by rw [e, d1, bN_s], offG.tr a2 (offG.tr c2 d2), fun h => (by rw [hv] at h; cases h), fun u hu => ?_⟩
    have : v = u := Option.some.inj (hv.symm.trans hu)
    rw [← this]
    exact d3
  have fin2 : ∀ v, two2 op a b = some v → mjF (d + 4) 85 [.ref 82, .int (opr op), .int p] (mjW0 s) = bN (bN (mjF (d + 2) 79 [.ref 82, .int v] (mjW0 s2)) (fun hp => some (none, hp))) (fun hp => some (none, hp)) → ∃ s', mjF (d + 4) 85 [.ref 82, .int (opr op), .int p] (mjW0 s) = some (none, mjW0 s') ∧ oCn s s' ∧ (two2 op a b = none → ∀ pc' k' st', CRn T L pf wm cm pc' (aFail (H, f :: fs, k', st', sc) 2 p) s') ∧ ∀ v, two2 op a b = some v → CRn T L pf wm cm pc (H, f :: fs, k, v :: st, sc) s' := by
    intro v hv e
    obtain ⟨s3, d1, d2, d3⟩ := x_79 (d := d + 1) c3 (by omega) v
    refine ⟨s3, by rw [e, d1, bN_s, bN_s], offG.tr a2 (offG.tr c2 d2), fun h => (by rw [hv] at h; cases h), fun u hu => ?_⟩
    have : v = u := Option.some.inj (hv.symm.trans hu)
    rw [← this]
    exact d3
  have fin0 : two2 op a b = none → mjF (d + 4) 85 [.ref 82, .int (opr op), .int p] (mjW0 s) = bN (bN (mjF (d + 2) 82 [.ref 82, .int 2, .int p] (mjW0 s2)) (fun hp => some (none, hp))) (fun hp => some (none, hp)) → ∃ s', mjF (d + 4) 85 [.ref 82, .int (opr op), .int p] (mjW0 s) = some (none, mjW0 s') ∧ oCn s s' ∧ (two2 op a b = none → ∀ pc' k' st', CRn T L pf wm cm pc' (aFail (H, f :: fs, k', st', sc) 2 p) s') ∧ ∀ v, two2 op a b = some v → CRn T L pf wm cm pc (H, f :: fs, k, v :: st, sc) s' := by
    intro hv e
    obtain ⟨s3, d1, d2, d3⟩ := x_82 (d := d) c3 2 p
    exact ⟨s3, by rw [e, d1, bN_s, bN_s], offG.tr a2 (offG.tr c2 d2), fun _ pc' k' st' => CRn.nil (d3 0) pc' k' st', fun u hu => by rw [hv] at hu; cases hu⟩
  have pre : ∀ (z : Int32), mjF (d + 4) 85 [.ref 82, .int z, .int p] (mjW0 s) = (if z = (17 : Int32) then rV (mjW0 s2) 82 5 (bN (mjF (d + 3) 79 [.ref 82, .int (a + b)] (mjW0 s2)) (fun  hp6 => some (none, hp6))) else if z = (18 : Int32) then rV (mjW0 s2) 82 5 (bN (mjF (d + 3) 79 [.ref 82, .int (a - b)] (mjW0 s2)) (fun  hp8 => some (none, hp8))) else if z = (19 : Int32) then rV (mjW0 s2) 82 5 (bN (mjF (d + 3) 79 [.ref 82, .int (a * b)] (mjW0 s2)) (fun  hp10 => some (none, hp10))) else if z = (20 : Int32) then b_85_89 (mjF (d + 3)) 82 z p b a (mjW0 s2) else if z = (21 : Int32) then b_85_89 (mjF (d + 3)) 82 z p b a (mjW0 s2) else if z = (22 : Int32) then (if b ≤ a then b_85_113 (mjF (d + 3)) 82 (0 : Int32) (mjW0 s2) else b_85_113 (mjF (d + 3)) 82 (1 : Int32) (mjW0 s2)) else if z = (23 : Int32) then (if a = b then b_85_131 (mjF (d + 3)) 82 (1 : Int32) (mjW0 s2) else b_85_131 (mjF (d + 3)) 82 (0 : Int32) (mjW0 s2)) else (if a = b then b_85_149 (mjF (d + 3)) 82 (0 : Int32) (mjW0 s2) else b_85_149 (mjF (d + 3)) 82 (1 : Int32) (mjW0 s2))) := by
    intro z
    rw [e_85]
    unfold f_85 b_85_0
    rw [xV_82, a1, bI_s, xV_82, c1, bI_s]
  have n0 : ∀ {x y : Int32}, x = y → op = x → op = y := fun h g => g.trans h
  by_cases h43 : op = 43
  · have eo : opr op = 17 := by rw [h43]; decide
    have et : two2 op a b = some (a + b) := by unfold two2; rw [if_pos h43]
    exact fin _ et (by rw [eo, pre, if_pos rfl, xV_82])
  by_cases h45 : op = 45
  · have eo : opr op = 18 := by rw [h45]; decide
    have et : two2 op a b = some (a - b) := by unfold two2; rw [if_neg h43, if_pos h45]
    exact fin _ et (by rw [eo, pre, if_neg (by decide), if_pos rfl, xV_82])
  by_cases h42 : op = 42
  · have eo : opr op = 19 := by rw [h42]; decide
    have et : two2 op a b = some (a * b) := by unfold two2; rw [if_neg h43, if_neg h45, if_pos h42]
    exact fin _ et (by rw [eo, pre, if_neg (by decide), if_neg (by decide), if_pos rfl, xV_82])
  by_cases h47 : op = 47
  · have eo : opr op = 20 := by rw [h47]; decide
    by_cases b0 : b = 0
    · have et : two2 op a b = none := by unfold two2; rw [if_neg h43, if_neg h45, if_neg h42, if_pos h47, if_pos b0]
      refine fin0 et ?_
      rw [eo, pre, if_neg (by decide), if_neg (by decide), if_neg (by decide), if_pos rfl]
      unfold b_85_89
      rw [xV_82, e_86]
      unfold f_86 b_86_0
      rw [if_pos b0, xV_82]
    · have et : two2 op a b = some (a / b) := by unfold two2; rw [if_neg h43, if_neg h45, if_neg h42, if_pos h47, if_neg b0]
      refine fin2 _ et ?_
      rw [eo, pre, if_neg (by decide), if_neg (by decide), if_neg (by decide), if_pos rfl]
      unfold b_85_89
      rw [xV_82, e_86]
      unfold f_86 b_86_0 b_86_30
      rw [if_neg b0, if_pos rfl, if_neg b0, xV_82]
  by_cases h37 : op = 37
  · have eo : opr op = 21 := by rw [h37]; decide
    by_cases b0 : b = 0
    · have et : two2 op a b = none := by unfold two2; rw [if_neg h43, if_neg h45, if_neg h42, if_neg h47, if_pos h37, if_pos b0]
      refine fin0 et ?_
      rw [eo, pre, if_neg (by decide), if_neg (by decide), if_neg (by decide), if_neg (by decide), if_pos rfl]
      unfold b_85_89
      rw [xV_82, e_86]
      unfold f_86 b_86_0
      rw [if_pos b0, xV_82]
    · have et : two2 op a b = some (a - a / b * b) := by unfold two2; rw [if_neg h43, if_neg h45, if_neg h42, if_neg h47, if_pos h37, if_neg b0]
      refine fin2 _ et ?_
      rw [eo, pre, if_neg (by decide), if_neg (by decide), if_neg (by decide), if_neg (by decide), if_pos rfl]
      unfold b_85_89
      rw [xV_82, e_86]
      unfold f_86 b_86_0 b_86_30
      rw [if_neg b0, if_neg (by decide), if_neg b0, xV_82]
  by_cases h60 : op = 60
  · have eo : opr op = 22 := by rw [h60]; decide
    have et : two2 op a b = some (if b ≤ a then 0 else 1) := by unfold two2; rw [if_neg h43, if_neg h45, if_neg h42, if_neg h47, if_neg h37, if_pos h60]
    refine fin _ et ?_
    rw [eo, pre, if_neg (by decide), if_neg (by decide), if_neg (by decide), if_neg (by decide), if_neg (by decide), if_pos rfl]
    unfold b_85_113
    by_cases h : b ≤ a
    · rw [if_pos h, if_pos h, xV_82]
    · rw [if_neg h, if_neg h, xV_82]
  by_cases h57 : op = 257
  · have eo : opr op = 23 := by rw [h57]; decide
    have et : two2 op a b = some (if a = b then 1 else 0) := by unfold two2; rw [if_neg h43, if_neg h45, if_neg h42, if_neg h47, if_neg h37, if_neg h60, if_pos h57]
    refine fin _ et ?_
    rw [eo, pre, if_neg (by decide), if_neg (by decide), if_neg (by decide), if_neg (by decide), if_neg (by decide), if_neg (by decide), if_pos rfl]
    unfold b_85_131
    by_cases h : a = b
    · rw [if_pos h, if_pos h, xV_82]
    · rw [if_neg h, if_neg h, xV_82]
  · have eo : opr op = 24 := by unfold opr; rw [if_neg h37, if_neg h42, if_neg h43, if_neg h45, if_neg h47, if_neg h60, if_neg h57]
    have et : two2 op a b = some (if a = b then 0 else 1) := by unfold two2; rw [if_neg h43, if_neg h45, if_neg h42, if_neg h47, if_neg h37, if_neg h60, if_neg h57]
    refine fin _ et ?_
    rw [eo, pre, if_neg (by decide), if_neg (by decide), if_neg (by decide), if_neg (by decide), if_neg (by decide), if_neg (by decide), if_neg (by decide)]
    unfold b_85_149
    by_cases h : a = b
    · rw [if_pos h, if_pos h, xV_82]
    · rw [if_neg h, if_neg h, xV_82]
theorem i_new (u : mjU) (e : mjF (d + 5) 91 [.ref 82, .int (nI kk), .int p] (mjW0 s) = u) : mjF (d + 6) 87 [.ref 82, .int 14, .int (nI kk), .int p] (mjW0 s) = bN u (fun hp => some (none, hp)) := by
  rw [e_87]
  unfold f_87 b_87_0
  rw [if_neg (by decide), if_neg (by decide), if_neg (by decide), if_neg (by decide), if_pos rfl, xV_82, e]
theorem i_call (u : mjU) (e : mjF (d + 5) 89 [.ref 82, .int (nI m), .int p] (mjW0 s) = u) : mjF (d + 6) 87 [.ref 82, .int 13, .int (nI m), .int p] (mjW0 s) = bN u (fun hp => some (none, hp)) := by
  rw [e_87]
  unfold f_87 b_87_0
  rw [if_neg (by decide), if_neg (by decide), if_neg (by decide), if_pos rfl, xV_82, e]
theorem i_as (hn : HN T N L) (M : CRn T L pf wm cm pc (H, f :: fs, k, v :: st, sc) s) (C : CPH T L q s) (B : HBs T L H) (hO : HOK T L H) (F : FCL T L H f) (hf : fs.length < 40) (hl : st.length + 1 < 5120) (vk : vK L kk) (hv : v = 0 ∨ ∃ o, v = nI o ∧ 1 ≤ o ∧ o ≤ H.1) : ∃ s', mjF (d + 5) 87 [.ref 82, .int 15, .int (nI kk), .int p] (mjW0 s) = some (none, mjW0 s') ∧ oCn s s' ∧ (asO T L H f.1 f.2.1 v kk = true → CRn T L pf wm cm pc (H, f :: fs, k, v :: st, sc) s') ∧ (¬ asO T L H f.1 f.2.1 v kk = true → ∀ pc' k' st', CRn T L pf wm cm pc' (aFail (H, f :: fs, k', st', sc) 3 p) s') := by
  have x90 : mjF (d + 4) 90 [.ref 82, .int 0] (mjW0 s) = some (some (.int v), mjW0 s) := x_90 (d := d + 3) (i := 0) M (by rw [List.length_cons]; exact hl) (by rw [List.length_cons]; omega)
  have pre : mjF (d + 5) 87 [.ref 82, .int 15, .int (nI kk), .int p] (mjW0 s) = (if asO T L H f.1 f.2.1 v kk = true then some (none, mjW0 s) else bN (mjF (d + 4) 82 [.ref 82, .int 3, .int p] (mjW0 s)) (fun hp => some (none, hp))) := by
    rw [e_87]
    unfold f_87 b_87_0
    rw [if_neg (by decide), if_neg (by decide), if_neg (by decide), if_neg (by decide), if_neg (by decide), if_pos rfl, xV_82, x90, bI_s, xV_82, x_94 hn M C B hO F hf vk hv, bI_s, b2_i, xV_82]
  rw [pre]
  by_cases h : asO T L H f.1 f.2.1 v kk = true
  · exact ⟨s, by rw [if_pos h], offG.rf, fun _ => M, fun g => absurd h g⟩
  · obtain ⟨s', a1, a2, a3⟩ := x_82 (d := d + 2) M 3 p
    exact ⟨s', by rw [if_neg h, a1, bN_s], a2, fun g => absurd g h, fun _ pc' k' st' => CRn.nil (a3 0) pc' k' st'⟩
end MJB63
end
section
/-! ===== the class's code: where an order's instruction stands ===== -/
def lnJ (T : TT) (t : PT) (rs : List RcM) (z : PB) (tr : Bool) (k0 m k : Nat) : Nat := match jrun (EMx T t tr k0 m) ((osM rs z m).take k) (jmT T t.1 m) with
  | some x => x.2.length
  | none => 0
def pfC (T : TT) (t : PT) (rs : List RcM) (z : PB) (tr : Bool) (k0 : Nat) (cs : Nat → Nat) (m k : Nat) : Nat := cs m + lnJ T t rs z tr k0 m k
def psC (T : TT) (t : PT) (rs : List RcM) (z : PB) (tr : Bool) (k0 : Nat) (cs : Nat → Nat) (m : Nat) : Nat → Nat := psOf (EMx T t tr k0 m) (i0T t m) (cs m) (osM rs z m) (jmT T t.1 m)
/-- the code of every BLOCK, order by order -/
def CPC (T : TT) (t : PT) (rs : List RcM) (z : PB) (tr : Bool) (k0 q : Nat) (cs : Nat → Nat) (s : mjSt3) : Prop := ∃ sz, sz ≤ 3000 ∧ s.1 (q + 24) 3 = nI sz ∧ ∀ m, m ≤ 384 → isMT t.1 m = true → s.1 (q + 23) m = nI (cs m) ∧ (∀ k r j l, (osM rs z m)[k]? = some r → jrun (EMx T t tr k0 m) ((osM rs z m).take k) (jmT T t.1 m) = some (j, l) → ∃ j' l1, jrow (evP (EMx T t tr k0 m) (psC T t rs z tr k0 cs m)) r j = some (j', l1) ∧ CL q s (cs m + l.length) l1 ∧ cs m + l.length + l1.length ≤ sz ∧ lnJ T t rs z tr k0 m (k + 1) = l.length + l1.length) ∧ ∀ j l, jrun (EMx T t tr k0 m) (osM rs z m) (jmT T t.1 m) = some (j, l) → CL q s (cs m + l.length) [(0, 0, -1), (9, 0, -1)] ∧ cs m + l.length + 2 ≤ sz
section MJB64
variable {T : TT} {N k0 q c k m : Nat} {t : PT} {rs : List RcM} {z : PB} {tr : Bool} {s s' : mjSt3} {E : EV} {ps : Nat → Nat} {cs : Nat → Nat} {j : JS} {l a b d : List Ins} {r : Row}
theorem CL.sub (h : CL q s c (a ++ (b ++ d))) : CL q s (c + a.length) b := by
  intro i x hi
  have il := (List.getElem?_eq_some_iff.mp hi).1
  have := h (a.length + i) x (by rw [List.getElem?_append_right (by omega), show a.length + i - a.length = i by omega, List.getElem?_append_left il]; exact hi)
  rw [← Nat.add_assoc] at this
  exact this
theorem jal_run {os : List Row} {j0 : JS} (h : jrun E os j0 = some (j, l)) : ∃ l', jrun (evP E ps) os j0 = some (j, l') ∧ l'.length = l.length := by
  have al := jrun_al (E := E) (ps := ps) os j0
  rw [h] at al
  cases h1 : jrun (evP E ps) os j0 with
  | none => rw [h1] at al; exact al.elim
  | some x =>
    rw [h1] at al
    obtain ⟨x1, x2⟩ := x
    obtain ⟨e1, e2⟩ := al
    have e1' : x1 = j := e1
    rw [e1']
    exact ⟨x2, rfl, e2⟩
theorem CPC_of (P : PGc T N k0 q t rs z tr s) (hN : N ≤ 3000) : CPC T t rs z tr k0 q (fun m => nN (s.1 (q + 23) m)) s := by
  obtain ⟨_, sz, s1, s2, G⟩ := P
  refine ⟨sz, by omega, s2, fun m hm im => ?_⟩
  obtain ⟨c, j', l, h1, h2, h3, h4⟩ := G m (by omega) im
  have ec : nN (s.1 (q + 23) m) = c := by rw [h2, nN_nI (by omega)]
  have h1' : jrun (evP (EMx T t tr k0 m) (psC T t rs z tr k0 (fun m => nN (s.1 (q + 23) m)) m)) (osM rs z m) (jmT T t.1 m) = some (j', l) := by
    unfold psC
    dsimp only
    rw [ec]
    exact h1
  obtain ⟨E, hE⟩ : ∃ E, E = EMx T t tr k0 m := ⟨_, rfl⟩
  obtain ⟨ps, hps⟩ : ∃ ps, ps = psC T t rs z tr k0 (fun m => nN (s.1 (q + 23) m)) m := ⟨_, rfl⟩
  rw [← hE, ← hps] at h1'
  refine ⟨by dsimp only; rw [ec]; exact h2, fun k r j l0 hk ej => ?_, fun j l0 ej => ?_⟩
  · rw [← hE, ← hps]
    dsimp only
    rw [ec]
    rw [← hE] at ej
    have kl := (List.getElem?_eq_some_iff.mp hk).1
    have dr : (osM rs z m).drop k = r :: (osM rs z m).drop (k + 1) := by
      rw [List.drop_eq_getElem_cons kl]
      congr 1
      exact (List.getElem?_eq_some_iff.mp hk).2
    obtain ⟨lk, e1, e2⟩ := jal_run (ps := ps) ej
    have big : jrun (evP E ps) ((osM rs z m).take k ++ r :: (osM rs z m).drop (k + 1)) (jmT T t.1 m) = some (j', l) := by
      rw [← dr, List.take_append_drop]
      exact h1'
    rw [jrun_app, e1] at big
    dsimp only at big
    have unf : jrun (evP E ps) (r :: (osM rs z m).drop (k + 1)) j = match jrow (evP E ps) r j with
      | none => none
      | some (j1, c1) => match jrun (evP E ps) ((osM rs z m).drop (k + 1)) j1 with
        | none => none
        | some (j2, c2) => some (j2, c1 ++ c2) := rfl
    rw [unf] at big
    cases hr : jrow (evP E ps) r j with
    | none => rw [hr] at big; cases big
    | some y =>
      obtain ⟨j1, l1⟩ := y
      rw [hr] at big
      dsimp only at big
      cases hd : jrun (evP E ps) ((osM rs z m).drop (k + 1)) j1 with
      | none => rw [hd] at big; cases big
      | some y =>
        obtain ⟨j2, l2⟩ := y
        rw [hd] at big
        dsimp only at big
        have el : lk ++ (l1 ++ l2) = l := (Prod.mk.inj (Option.some.inj big)).2
        have ll : l.length = lk.length + (l1.length + l2.length) := by rw [← el, List.length_append, List.length_append]
        rw [← el] at h3
        refine ⟨j1, l1, rfl, ?_, by omega, ?_⟩
        · rw [← e2]
          refine CL.sub (d := l2 ++ [(0, 0, -1), (9, 0, -1)]) ?_
          rw [← List.append_assoc l1, ← List.append_assoc lk]
          exact h3
        · unfold lnJ
          rw [tk_succ hk, ← hE, jrun_app, ej]
          dsimp only
          rw [jrun_1]
          have al := jrow_al (E := E) (ps := ps) (r := r) (j := j)
          rw [hr] at al
          cases hr2 : jrow E r j with
          | none => rw [hr2] at al; exact al.elim
          | some y =>
            rw [hr2] at al
            dsimp only
            rw [List.length_append]
            have : l1.length = y.2.length := al.2
            omega
  · dsimp only
    rw [ec]
    rw [← hE] at ej
    obtain ⟨lk, e1, e2⟩ := jal_run (ps := ps) ej
    have el : lk = l := (Prod.mk.inj (Option.some.inj (e1.symm.trans h1'))).2
    have ll : l0.length = l.length := by rw [← e2, el]
    rw [ll]
    refine ⟨CL.sub (d := []) ?_, by omega⟩
    rw [List.append_nil]
    exact h3
theorem lnJ_of (h : jrun (EMx T t tr k0 m) ((osM rs z m).take k) (jmT T t.1 m) = some (j, l)) : lnJ T t rs z tr k0 m k = l.length := by unfold lnJ; rw [h]
theorem psC_of {x : Nat} (h : jrun (EMx T t tr k0 m) ((osM rs z m).take x) (jmT T t.1 m) = some (j, l)) : psC T t rs z tr k0 cs m (i0T t m + x) = pfC T t rs z tr k0 cs m x := by
  unfold psC psOf pfC
  rw [show i0T t m + x - i0T t m = x by omega, h, lnJ_of h]
theorem CPC.cg (C : CPC T t rs z tr k0 q cs s) (e : ∀ h, q + 23 ≤ h ∧ h ≤ q + 27 → s'.1 h = s.1 h) : CPC T t rs z tr k0 q cs s' := by
  obtain ⟨sz, s1, s2, G⟩ := C
  have ecl : ∀ c l, CL q s c l → CL q s' c l := fun c l h i x hi => by rw [e (q + 25) (by omega), e (q + 26) (by omega), e (q + 27) (by omega)]; exact h i x hi
  refine ⟨sz, s1, by rw [e (q + 24) (by omega)]; exact s2, fun m hm im => ?_⟩
  obtain ⟨g1, g2, g3⟩ := G m hm im
  refine ⟨by rw [e (q + 23) (by omega)]; exact g1, fun k r j l hk ej => ?_, fun j l ej => ⟨ecl _ _ (g3 j l ej).1, (g3 j l ej).2⟩⟩
  obtain ⟨j', l1, a1, a2, a3, a4⟩ := g2 k r j l hk ej
  exact ⟨j', l1, a1, ecl _ _ a2, a3, a4⟩
end MJB64
end
section
/-! ===== the class's work on one order is the pure machine's ===== -/
def gWk (T : TT) (L : List CD) (pf : Nat → Nat → Nat) (wm cm : Nat) (A : AMS) (s : mjSt3) (u : mjU) : Prop := ∃ s', u = some (none, mjW0 s') ∧ oCn s s' ∧ CRn T L pf wm cm (pcO pf A) A s'
/-- an order that has no instruction; one that is done at once; one that takes a STEP -/
def gIn (T : TT) (L : List CD) (pf : Nat → Nat → Nat) (wm cm d : Nat) (r : Row) (A0 A : AMS) (s : mjSt3) (l1 : List Ins) : Prop := (l1 = [] ∧ costs r = false ∧ A = A0) ∨ ∃ x, l1 = [x] ∧ ((x.1 < 10 ∧ costs r = false ∧ gWk T L pf wm cm A s (mjF (d + 6) 78 [.ref 82, .int x.1, .int x.2.1, .int x.2.2] (mjW0 s))) ∨ ((¬ x.1 < 10) ∧ x.1 < 17 ∧ costs r = true ∧ gWk T L pf wm cm A s (mjF (d + 6) 87 [.ref 82, .int x.1, .int x.2.1, .int x.2.2] (mjW0 s))) ∨ ((¬ x.1 < 17) ∧ (¬ x.1 < 10) ∧ costs r = true ∧ gWk T L pf wm cm A s (mjF (d + 6) 85 [.ref 82, .int x.1, .int x.2.2] (mjW0 s))))
section MJB65
variable {T : TT} {d N k0 kb wm cm k q : Nat} {L : List CD} {pf : Nat → Nat → Nat} {t : PT} {rs : List RcM} {z : PB} {tr : Bool} {H : HEAP} {r : Row} {j j' : JS} {l l1 : List Ins} {f : FRM} {fs : List FRM} {st : List Int32} {sc : SCL} {s s' : mjSt3} {cs : Nat → Nat} {A A0 : AMS} {x : Ins} {e : List Ins}
theorem gIn.n (h : e = l1) (he : e = []) (c : costs r = false) (ha : A = A0) : gIn T L pf wm cm d r A0 A s l1 := Or.inl ⟨h.symm.trans he, c, ha⟩
theorem gIn.a (h : [x] = l1) (hx : x.1 < 10) (c : costs r = false) (g : gWk T L pf wm cm A s (mjF (d + 6) 78 [.ref 82, .int x.1, .int x.2.1, .int x.2.2] (mjW0 s))) : gIn T L pf wm cm d r A0 A s l1 := Or.inr ⟨x, h.symm, Or.inl ⟨hx, c, g⟩⟩
theorem gIn.b (h : [x] = l1) (hx : ¬ x.1 < 10) (hx2 : x.1 < 17) (c : costs r = true) (g : gWk T L pf wm cm A s (mjF (d + 6) 87 [.ref 82, .int x.1, .int x.2.1, .int x.2.2] (mjW0 s))) : gIn T L pf wm cm d r A0 A s l1 := Or.inr ⟨x, h.symm, Or.inr (Or.inl ⟨hx, hx2, c, g⟩)⟩
theorem gIn.c (h : [x] = l1) (hx : ¬ x.1 < 17) (hx2 : ¬ x.1 < 10) (c : costs r = true) (g : gWk T L pf wm cm A s (mjF (d + 6) 85 [.ref 82, .int x.1, .int x.2.2] (mjW0 s))) : gIn T L pf wm cm d r A0 A s l1 := Or.inr ⟨x, h.symm, Or.inr (Or.inr ⟨hx, hx2, c, g⟩)⟩
theorem kdE_vK (P : PRX T N k0 t rs kb z tr) (F : FOK T t rs z tr k0 H f) {kk : Nat} {a : Int32} (hkd : kdE (EMx T t tr k0 f.1) a = some kk) : vK t.1 kk := by
  have hn := P.1.1.1
  have hh : ∀ c, (EMx T t tr k0 f.1).2.2.2.2.1 = some c → c < t.1.length := by
    intro c hc
    rcases F.1 with ⟨h, _⟩ | ⟨h, _⟩
    · rw [(EMx_main h).1] at hc; cases hc
    · have m384 := P.2.1
      rw [(EMx_m (show ¬ f.1 = 384 by omega)).1] at hc
      rw [← Option.some.inj hc]
      exact (P.1.2.1 f.1 h).2.2
  unfold kdE at hkd
  cases hk : kdT (EMx T t tr k0 f.1).1 (EMx T t tr k0 f.1).2.1 (EMx T t tr k0 f.1).2.2.2.2.1 false ((EMx T t tr k0 f.1).2.2.2.1 a) with
  | none => rw [hk] at hkd; cases hkd
  | some k' =>
    rw [hk] at hkd
    dsimp only at hkd
    rw [EMx_1.1, EMx_1.2] at hk
    have key := (kd_vK hn hh hk).1
    split at hkd
    · have e : k' = kk := Option.some.inj hkd
      rw [e] at key
      exact key
    · cases hkd
theorem opr_17 (op : Int32) : ¬ opr op < 17 ∧ ¬ opr op < 10 := by
  unfold opr
  by_cases h1 : op = 37
  · rw [if_pos h1]; decide
  rw [if_neg h1]
  by_cases h2 : op = 42
  · rw [if_pos h2]; decide
  rw [if_neg h2]
  by_cases h3 : op = 43
  · rw [if_pos h3]; decide
  rw [if_neg h3]
  by_cases h4 : op = 45
  · rw [if_pos h4]; decide
  rw [if_neg h4]
  by_cases h5 : op = 47
  · rw [if_pos h5]; decide
  rw [if_neg h5]
  by_cases h6 : op = 60
  · rw [if_pos h6]; decide
  rw [if_neg h6]
  by_cases h7 : op = 257
  · rw [if_pos h7]; decide
  rw [if_neg h7]; decide
theorem inj2 {α β : Type} {a c : α} {b e : β} (h : some (a, b) = some (c, e)) : b = e := (Prod.mk.inj (Option.some.inj h)).2
theorem x_wk (P : PRX T N k0 t rs kb z tr) (C : CPH T t.1 q s) (Cc : CPC T t rs z tr k0 q cs s) (hA : AOK T t rs z tr k0 wm cm (H, f :: fs, k, st, sc)) (ph : sc.2.2.2.2.1 = 1) (wm4 : wm ≤ 4000) (cm4 : cm ≤ 40) (ms4 : sc.1 < 100) (hs : sc.2.1 < 100000000) (h384 : ∀ c, fldT T t.1 c ≤ 384) (M : CRn T t.1 (pfC T t rs z tr k0 cs) wm cm (pfC T t rs z tr k0 cs f.1 (k + 1)) (H, f :: fs, k + 1, st, sc) s) (hkr : (osM rs z f.1)[k]? = some r) (ej : jrun (EMx T t tr k0 f.1) ((osM rs z f.1).take k) (jmT T t.1 f.1) = some (j, l)) (hj : jrow (evP (EMx T t tr k0 f.1) (psC T t rs z tr k0 cs f.1)) r j = some (j', l1)) : gIn T t.1 (pfC T t rs z tr k0 cs) wm cm d r (H, f :: fs, k + 1, st, sc) (aStep T t.1 (EMx T t tr k0 f.1) j (i0T t f.1) wm cm r (H, f :: fs, k + 1, st, sc)) s l1 := by
  have Ac := P.1.1
  have hn := Ac.1
  have m384 := P.2.1
  obtain ⟨j0, l0, seg, rest, ej0, F, hk, ty0, est, sl, fm, im⟩ := AOK.info P hA ph
  have ejj : j0 = j := (Prod.mk.inj (Option.some.inj (ej0.symm.trans ej))).1
  rw [ejj] at ty0
  have ty : TYS T t.1 H seg (jRS j) := ty0
  have hH : HOK T t.1 H := hA.1
  have hw : bsH T t.1 H H.1 ≤ wm := hA.2.1
  have hl : (f :: fs).length ≤ cm := hA.2.2.1
  have fl1 : (f :: fs).length = fs.length + 1 := rfl
  have hfl : fs.length < 40 := by omega
  have hc : ∀ o, 1 ≤ o → o ≤ H.1 → (H.2 o).1 < t.1.length := fun o o1 o2 => (hH o o1 o2).1
  have B : HBs T t.1 H := ⟨by omega, bs_3 hn H H.1 hc⟩
  have b1 := B.1
  have b2' := B.2
  have FC : FCL T t.1 H f := F.1
  have i5 := P.2.2 f.1 fm im
  have stl : st.length < 5000 := by omega
  have kl := (List.getElem?_eq_some_iff.mp hkr).1
  obtain ⟨_, _, _, _, ok, J, _⟩ := P.step fm im hkr ej
  have hps : ∀ x jx lx, jrun (EMx T t tr k0 f.1) ((osM rs z f.1).take x) (jmT T t.1 f.1) = some (jx, lx) → psC T t rs z tr k0 cs f.1 (i0T t f.1 + x) = pfC T t rs z tr k0 cs f.1 x := fun x jx lx h => psC_of h
  have hst : ∀ x, x < nMem t.1 → mSM t.1 x = true → s.1 (q + 23) x = nI (pfC T t rs z tr k0 cs x 0) := by
    intro x hx hm
    have imx : isMT t.1 x = true := by
      unfold isMT
      rw [decide_eq_true hx, hm]
      exact Bool.or_true _
    obtain ⟨sz, _, _, G⟩ := Cc
    rw [(G x (by omega) imx).1]
    rfl
  obtain ⟨pf, hpf⟩ : ∃ y, y = pfC T t rs z tr k0 cs := ⟨_, rfl⟩
  obtain ⟨ps, hpse⟩ : ∃ y, y = psC T t rs z tr k0 cs f.1 := ⟨_, rfl⟩
  rw [← hpf] at M hps hst
  rw [← hpf]
  rw [← hpse] at hj hps
  obtain ⟨E, hE⟩ : ∃ E, E = EMx T t tr k0 f.1 := ⟨_, rfl⟩
  have E1 : E.1 = T := by rw [hE]; exact EMx_1.1
  have E2 : E.2.1 = t.1 := by rw [hE]; exact EMx_1.2
  have kdv : ∀ kk a, kdE E a = some kk → vK t.1 kk := fun kk a h => kdE_vK P F (by rw [hE] at h; exact h)
  rw [← hE] at hj
  rw [← hE]
  obtain ⟨G, hG⟩ : ∃ G, G = fdG ((osM rs z f.1).take k) [] := ⟨_, rfl⟩
  rw [← hG] at ok J
  obtain ⟨R, K, V⟩ := J
  have jmp : ∀ x, r.2.2.1 = nI (i0T t f.1 + x) → x ≤ (osM rs z f.1).length → r.2.2.1.toNatClampNeg = i0T t f.1 + x := fun x h1 h2 => by rw [h1]; exact nI_clamp (by omega)
  rcases ok with o | ⟨o, G', eG⟩ | ⟨o, G', eG⟩ | ⟨o, n, G', n6, ob, eG⟩ | ⟨o, n, i, w, G', eG, hi, n6, oa⟩ | ⟨o, n, G', n6, oa, eG⟩ | ⟨o, eG⟩ | ⟨o, eG⟩ | ⟨o, eG⟩ | ⟨o, eG⟩ | ⟨o, eG⟩ | ⟨o, eG⟩
  · rcases o with o | o | o | o | o
    · rw [jr_3 o] at hj
      exact gIn.a (inj2 hj) (by dsimp only; decide) (by unfold costs; rw [o]; decide) (by rw [as_3 o]; exact i_push (d := d + 4) M (by omega))
    · rw [jr_4 o] at hj
      exact gIn.a (inj2 hj) (by dsimp only; decide) (by unfold costs; rw [o]; decide) (by rw [as_4 o]; exact i_push (d := d + 4) M (by omega))
    · rw [jr_5 o] at hj
      cases hv : (evP E ps).2.2.2.2.1 with
      | none => rw [hv] at hj; cases hj
      | some c =>
        rw [hv] at hj
        exact gIn.a (inj2 hj) (by dsimp only; decide) (by unfold costs; rw [o]; decide) (by rw [as_5 o]; exact i_self (d := d + 3) M (by omega) hfl)
    · rw [jr_6 o] at hj
      cases hv : vsK j.2.2.1 r.2.2.2.2 with
      | none => rw [hv] at hj; cases hj
      | some e =>
        rw [hv] at hj
        have v1 : varJ r j = e.2.2.1 := by unfold varJ; rw [hv]
        exact gIn.a (inj2 hj) (by dsimp only; decide) (by unfold costs; rw [o]; decide) (by rw [as_6 o, v1]; exact i_load (d := d + 3) M (by omega) hfl (V.1 e (List.mem_of_find?_eq_some hv)).2.1)
    · rw [jr_7 o] at hj
      cases hv : kdE E r.2.2.1 with
      | none => rw [show kdE (evP E ps) r.2.2.1 = kdE E r.2.2.1 from rfl, hv] at hj; cases hj
      | some kd =>
        rw [show kdE (evP E ps) r.2.2.1 = kdE E r.2.2.1 from rfl, hv] at hj
        refine gIn.b (inj2 hj) (by dsimp only; decide) (by dsimp only; decide) (by unfold costs; rw [o]; decide) ?_
        rw [as_7 o, hv]
        dsimp only
        obtain ⟨n1, n2⟩ := x_91 (d := d) hn M C hH hw wm4 FC hfl (by omega) (kdv kd _ hv) h384 r.2.1
        by_cases g : wm < bsH T t.1 H H.1 + szO T t.1 (cK kd)
        · obtain ⟨s', a1, a2, a3⟩ := n1 g
          rw [if_pos g]
          exact ⟨s', by rw [i_new _ a1, bN_s], a2, a3 _⟩
        · obtain ⟨s', a1, a2, a3⟩ := n2 g
          rw [if_neg g]
          exact ⟨s', by rw [i_new _ a1, bN_s], a2, a3⟩
  · subst eG
    obtain ⟨t2, st1, rs1, q1, q2, t1, st2, rs2, q3, q4, R2⟩ := R
    rw [q2, q4] at ty
    obtain ⟨b', seg1, s1, y1, ty1⟩ := TYS.cons ty
    obtain ⟨a', seg2, s2, y2, ty2⟩ := TYS.cons ty1
    have st' : st = b' :: a' :: (seg2 ++ rest) := by rw [est, s1, s2]; rfl
    rw [st', List.length_cons, List.length_cons] at stl
    rw [st'] at M ⊢
    rw [jr_9 o, q1, q3] at hj
    dsimp only at hj
    have el : [((opr r.2.2.1, 0, r.2.1) : Ins)] = l1 := by
      split at hj
      · split at hj
        · exact inj2 hj
        · cases hj
      · split at hj
        · exact inj2 hj
        · cases hj
    refine gIn.c el (opr_17 _).1 (opr_17 _).2 (by unfold costs; rw [o]; decide) ?_
    rw [as_9 o]
    show gWk T t.1 pf wm cm (match two2 r.2.2.1 a' b' with
      | none => aFail (H, f :: fs, k + 1, b' :: a' :: (seg2 ++ rest), sc) 2 r.2.1
      | some v => (H, f :: fs, k + 1, v :: (seg2 ++ rest), sc)) s _
    obtain ⟨s', c1, c2, c3, c4⟩ := i_op (d := d + 2) (op := r.2.2.1) (p := r.2.1) M (by omega)
    cases hv : two2 r.2.2.1 a' b' with
    | none => exact ⟨s', c1, c2, c3 hv _ _ _⟩
    | some v => exact ⟨s', c1, c2, c4 v hv⟩
  · subst eG
    obtain ⟨t1, st1, rs1, q1, q2, R1⟩ := R
    have tk : tOK t.1 t1.1 := K t1.1 (by rw [q2]; exact List.mem_cons_self)
    rw [q2] at ty
    obtain ⟨v, seg1, s1, y1, ty1⟩ := TYS.cons ty
    have st' : st = v :: (seg1 ++ rest) := by rw [est, s1]; rfl
    rw [st', List.length_cons] at stl
    rw [st'] at M ⊢
    rcases o with o | o | o | o
    · rw [jr_8 o, q1] at hj
      dsimp only at hj
      split at hj
      · exact gIn.b (inj2 hj) (by dsimp only; decide) (by dsimp only; decide) (by unfold costs; rw [o]; decide) (by rw [as_8 o]; exact i_neg (d := d + 4) M (show (seg1 ++ rest).length < 5120 by omega))
      · cases hj
    · rw [jr_10 o, q1] at hj
      dsimp only at hj
      cases hp : prtE E t1 r.2.2.2.2 false with
      | none => rw [show prtE (evP E ps) t1 r.2.2.2.2 false = prtE E t1 r.2.2.2.2 false from rfl, hp] at hj; cases hj
      | some p =>
        rw [show prtE (evP E ps) t1 r.2.2.2.2 false = prtE E t1 r.2.2.2.2 false from rfl, hp] at hj
        dsimp only at hj
        obtain ⟨kk, k1, k2, k3⟩ := prt_c hp (by rw [E2]; exact tk)
        rw [E2] at k2
        rw [E1, E2] at k3
        obtain ⟨p1, p2, p3, p4, _⟩ := mem_in Ac k2 k3
        have esl : slotJ E r j = numM T t.1 p.1 := by
          unfold slotJ
          rw [q1]
          dsimp only
          rw [hp]
          dsimp only
          rw [E1, E2]
        have een : numM (evP E ps).1 (evP E ps).2.1 p.1 = numM T t.1 p.1 := by
          show numM E.1 E.2.1 p.1 = _
          rw [E1, E2]
        rw [een] at hj
        rw [k1] at y1
        refine gIn.b (inj2 hj) (by dsimp only; decide) (by dsimp only; decide) (by unfold costs; rw [o]; decide) ?_
        rw [as_10 o, esl]
        obtain ⟨s', c1, c2, c3, c4⟩ := i_get (d := d + 2) (i := numM T t.1 p.1) (p := r.2.1) M B (by omega) (by
          rcases vOK_obj y1 with h | ⟨o1, w1, w2, w3, w4⟩
          · exact Or.inl h
          · exact Or.inr ⟨o1, w1, w2, w3, num_lt2 Ac (hc o1 w2 w3) p1 p4 (mem_vw Ac (hc o1 w2 w3) k2 w4 k3)⟩)
        show gWk T t.1 pf wm cm (if v = 0 then aFail (H, f :: fs, k + 1, v :: (seg1 ++ rest), sc) 1 r.2.1 else (H, f :: fs, k + 1, (H.2 (nN v)).2.2 (numM T t.1 p.1) :: (seg1 ++ rest), sc)) s _
        by_cases g : v = 0
        · rw [if_pos g]; exact ⟨s', c1, c2, c3 g _ _ _⟩
        · rw [if_neg g]; exact ⟨s', c1, c2, c4 g⟩
    · rw [jr_14 o, q1] at hj
      dsimp only at hj
      cases hv : kdE E r.2.2.1 with
      | none => rw [show kdE (evP E ps) r.2.2.1 = kdE E r.2.2.1 from rfl, hv] at hj; cases hj
      | some kd =>
        rw [show kdE (evP E ps) r.2.2.1 = kdE E r.2.2.1 from rfl, hv] at hj
        dsimp only at hj
        by_cases g0 : t1.1 = 0
        · rw [if_pos g0] at hj; cases hj
        · rw [if_neg g0] at hj
          refine gIn.b (inj2 hj) (by dsimp only; decide) (by dsimp only; decide) (by unfold costs; rw [o]; decide) ?_
          obtain ⟨s', c1, c2, c3, c4⟩ := i_as (d := d + 1) (p := r.2.1) hn M C B hH FC hfl (by omega) (kdv kd _ hv) (by
            obtain ⟨x1', al⟩ := t1
            match x1', y1, g0 with
            | 0, _, g0 => exact absurd rfl g0
            | 1, y1, _ => exact Or.inl y1
            | kk + 2, y1, _ =>
              rcases vOK_obj y1 with h | ⟨o1, w1, w2, w3, _⟩
              · exact Or.inl h
              · exact Or.inr ⟨o1, w1, w2, w3⟩)
          rw [as_14 o, hv]
          show gWk T t.1 pf wm cm (if asO T t.1 H f.1 f.2.1 v kd = true then (H, f :: fs, k + 1, v :: (seg1 ++ rest), sc) else aFail (H, f :: fs, k + 1, v :: (seg1 ++ rest), sc) 3 r.2.1) s _
          by_cases g : asO T t.1 H f.1 f.2.1 v kd = true
          · rw [if_pos g]; exact ⟨s', c1, c2, c3 g⟩
          · rw [if_neg g]; exact ⟨s', c1, c2, c4 g _ _ _⟩
    · rw [jr_30 o, q1] at hj
      exact gIn.n (inj2 hj) rfl (by unfold costs; rw [o]; decide) (as_n (by rw [o]; decide))
  · rw [jr_11 o] at hj
    cases hq : j.1 with
    | nil => rw [hq] at hj; cases hj
    | cons a as =>
      rw [hq] at hj
      dsimp only at hj
      split at hj
      · cases hj
      · split at hj
        · exact gIn.n (inj2 hj) rfl (by unfold costs; rw [o]; decide) (as_n (by rw [o]; decide))
        · cases hj
  · rw [jr_12 o] at hj
    split at hj
    · split at hj
      · exact gIn.n (inj2 hj) rfl (by unfold costs; rw [o]; decide) (as_n (by rw [o]; decide))
      · cases hj
    · cases hj
  · subst eG
    obtain ⟨p, pd1, as, x, rs1, q3, q4, ⟨kx, c1, c2, c3, c4, c5⟩, R1⟩ := R
    rw [q4] at ty
    obtain ⟨us, ws, s1, tyu, tyw⟩ := TYS.app ty
    obtain ⟨ov, ws', s2, yo, tyw'⟩ := TYS.cons tyw
    have ul : us.length = n := (TYS.len _ _ tyu).trans c4
    have xk : tOK t.1 x := K x (by rw [q4]; exact List.mem_append_right _ List.mem_cons_self)
    rw [c1] at xk yo
    have kxl := tOK.k xk
    obtain ⟨p1, p2, p3, p4, _⟩ := mem_in Ac kxl c2
    have st' : st = us ++ (ov :: (ws' ++ rest)) := by rw [est, s1, s2, List.append_assoc]; rfl
    have hs' : st[n]?.getD 0 = ov := by
      rw [st', List.getElem?_append_right (by omega), ul, Nat.sub_self]
      rfl
    have ln : n + 1 ≤ st.length := by
      rw [st', List.length_append, List.length_cons]
      omega
    rw [jr_13 o, q3] at hj
    dsimp only at hj
    refine gIn.b (inj2 hj) (by dsimp only; decide) (by dsimp only; decide) (by unfold costs; rw [o]; decide) ?_
    rw [as_13 o, q3]
    have en : nN r.2.2.1 = (psM t.1 p.1).length := by rw [oa, nN_nI (by omega), c3]
    show gWk T t.1 pf wm cm (aCall T t.1 cm (nN r.2.2.1) p.1 r.2.1 (H, f :: fs, k + 1, st, sc) (f :: fs)) s _
    rw [en]
    obtain ⟨s', d1, d2, d3⟩ := x_89 (d := d) (m := p.1) Ac M C B hH hl cm4 ms4 (by omega) p1 (by omega) (by omega) rfl hst (by
      rw [c3, hs']
      rcases vOK_obj yo with h | ⟨o1, w1, w2, w3, w4⟩
      · exact Or.inl h
      · exact Or.inr ⟨o1, w1, w2, w3⟩) r.2.1
    exact ⟨s', by rw [i_call _ d1, bN_s], d2, d3⟩
  · rw [jr_15 o] at hj
    split at hj
    · cases hj
    · exact gIn.n (inj2 hj) rfl (by unfold costs; rw [o]; decide) (as_n (by rw [o]; decide))
  · rw [jr_16 o] at hj
    cases hq : j.1 with
    | nil => rw [hq] at hj; cases hj
    | cons a as =>
      rw [hq] at hj
      dsimp only at hj
      split at hj
      · cases hj
      · exact gIn.n (inj2 hj) rfl (by unfold costs; rw [o]; decide) (as_n (by rw [o]; decide))
  · subst eG
    obtain ⟨t2, st1, rs1, q1, q2, t1, st2, q3, ⟨vl, lf16⟩, r1, r2, r3⟩ := R
    rw [q2, r3] at ty
    obtain ⟨v, seg1, s1, y1, ty1⟩ := TYS.cons ty
    have st' : st = v :: (seg1 ++ rest) := by rw [est, s1]; rfl
    rw [st', List.length_cons] at stl
    rw [st'] at M ⊢
    rw [jr_17 o, q1, q3] at hj
    dsimp only at hj
    split at hj
    · exact gIn.a (inj2 hj) (by dsimp only; decide) (by unfold costs; rw [o]; decide) (by rw [as_17 o]; exact i_store (d := d + 2) M (show (seg1 ++ rest).length < 5120 by omega) hfl lf16)
    · cases hj
  · subst eG
    obtain ⟨t2, st1, rs1, q1, q2, t1, st2, x, rs2, q3, q4, ⟨kx, fm2, w, c1, c2, c3, c4⟩, r1, r2, r3⟩ := R
    have xk : tOK t.1 x := K x (by rw [q2, q4]; exact List.mem_cons_of_mem _ List.mem_cons_self)
    rw [q2, q4, r3] at ty
    obtain ⟨v, seg1, s1, y1, ty1⟩ := TYS.cons ty
    obtain ⟨ov, seg2, s2, y2, ty2⟩ := TYS.cons ty1
    rw [c1] at xk y2
    have kxl := tOK.k xk
    obtain ⟨p1, p2, p3, p4, _⟩ := mem_in Ac kxl c2
    have st' : st = v :: ov :: (seg2 ++ rest) := by rw [est, s1, s2]; rfl
    rw [st', List.length_cons, List.length_cons] at stl
    rw [st'] at M ⊢
    rw [jr_18 o, q1, q3] at hj
    dsimp only at hj
    split at hj
    · refine gIn.a (inj2 hj) (by dsimp only; decide) (by unfold costs; rw [o]; decide) ?_
      obtain ⟨s', e1, e2, e3, e4⟩ := i_put (d := d + 2) (i := j.2.2.2.2.2.2.1) (p := r.2.2.2.1) M B (by omega) (by
        rcases vOK_obj y2 with h | ⟨o1, w1, w2, w3, w4⟩
        · exact Or.inl h
        · exact Or.inr ⟨o1, w1, w2, w3, by rw [c3]; exact num_lt2 Ac (hc o1 w2 w3) p1 p4 (mem_vw Ac (hc o1 w2 w3) kxl w4 c2)⟩)
      rw [as_18 o]
      show gWk T t.1 pf wm cm (if ov = 0 then aFail (H, f :: fs, k + 1, v :: ov :: (seg2 ++ rest), sc) 1 r.2.2.2.1 else (setF H (nN ov) j.2.2.2.2.2.2.1 v, f :: fs, k + 1, seg2 ++ rest, sc)) s _
      by_cases g : ov = 0
      · rw [if_pos g]; exact ⟨s', e1, e2, e3 g _ _ _⟩
      · rw [if_neg g]; exact ⟨s', e1, e2, e4 g⟩
    · cases hj
  · subst eG
    obtain ⟨t1, st1, rs1, q1, q2, r1, r2, r3⟩ := R
    rw [q2, r3] at ty
    obtain ⟨v, seg1, s1, y1, ty1⟩ := TYS.cons ty
    have st' : st = v :: (seg1 ++ rest) := by rw [est, s1]; rfl
    rw [st', List.length_cons] at stl
    rw [st'] at M ⊢
    rcases o with o | o | o | o | o
    · rw [jr_20 o, q1] at hj
      dsimp only at hj
      split at hj
      · obtain ⟨j2, l2, hj2, _, _, _, J2⟩ := P.step fm im hkr ej
        have vv : j.2.2.2.1 < 16 := by
          rw [jr_20 o, q1] at hj2
          dsimp only at hj2
          split at hj2
          · have ejp := (Prod.mk.inj (Option.some.inj hj2)).1
            exact (J2.2.2.1 (j.2.2.2.2.2.1.1, j.2.2.2.2.2.1.2, j.2.2.2.1, j.2.2.2.2.1) (by rw [← ejp]; exact List.mem_append_right _ (List.mem_singleton.mpr rfl))).2.1
          · cases hj2
        exact gIn.a (inj2 hj) (by dsimp only; decide) (by unfold costs; rw [o]; decide) (by rw [as_20 o]; exact i_store (d := d + 2) M (show (seg1 ++ rest).length < 5120 by omega) hfl vv)
      · cases hj
    · obtain ⟨x, x1, x2, x3, ⟨jx, lx, x4, _⟩, _⟩ := P.jump fm im hkr (Or.inl o)
      rw [jr_21 o, q1] at hj
      dsimp only at hj
      split at hj
      · have ep : (evP E ps).2.2.2.2.2.2 r.2.2.1.toNatClampNeg = pf f.1 x := by
          show ps r.2.2.1.toNatClampNeg = _
          rw [jmp x x2 x1]
          exact hps x jx lx x4
        rw [ep] at hj
        refine gIn.a (inj2 hj) (by dsimp only; decide) (by unfold costs; rw [o]; decide) ?_
        obtain ⟨s', e1, e2, e3⟩ := i_jz (d := d + 4) (y := pf f.1 x) (p := -1) M (by omega)
        refine ⟨s', e1, e2, ?_⟩
        rw [as_21 o, x3]
        show CRn T t.1 pf wm cm (pcO pf (aSt (if v = 0 then (H, f :: fs, x, v :: (seg1 ++ rest), sc) else (H, f :: fs, k + 1, v :: (seg1 ++ rest), sc)) (seg1 ++ rest))) (aSt (if v = 0 then (H, f :: fs, x, v :: (seg1 ++ rest), sc) else (H, f :: fs, k + 1, v :: (seg1 ++ rest), sc)) (seg1 ++ rest)) s'
        by_cases g : v = 0
        · rw [if_pos g]
          rw [if_pos g] at e3
          exact e3
        · rw [if_neg g]
          rw [if_neg g] at e3
          exact e3
      · cases hj
    · rw [jr_24 o, q1] at hj
      dsimp only at hj
      split at hj
      · exact gIn.a (inj2 hj) (by dsimp only; decide) (by unfold costs; rw [o]; decide) (by rw [as_24 o]; exact i_say (d := d + 4) M (show (seg1 ++ rest).length < 5120 by omega) hs)
      · cases hj
    · rw [jr_25 o, q1] at hj
      exact gIn.a (inj2 hj) (by dsimp only; decide) (by unfold costs; rw [o]; decide) (by rw [as_25 o]; exact i_pop (d := d + 4) M (show (seg1 ++ rest).length < 5120 by omega))
    · rw [jr_28 o.1, q1] at hj
      dsimp only at hj
      split at hj
      · exact gIn.a (inj2 hj) (by dsimp only; decide) (by unfold costs; rw [o.1]; decide) (by rw [as_28 o.1, if_pos o.2]; exact i_ret (d := d + 2) M (show (seg1 ++ rest).length < 5120 by omega) hfl)
      · cases hj
  · rcases o with o | o | o | o | o | o | o
    · rw [jr_1 o] at hj
      exact gIn.b (inj2 hj) (by dsimp only; decide) (by dsimp only; decide) (by unfold costs; rw [o]; decide) (by rw [as_1 o]; exact i_stmt (d := d + 3) M hfl)
    · rw [jr_2 o] at hj
      exact gIn.b (inj2 hj) (by dsimp only; decide) (by dsimp only; decide) (by unfold costs; rw [o]; decide) (by rw [as_n (Or.inl o)]; exact ⟨s, i_loop (d := d + 5), offG.rf, M⟩)
    · rw [jr_19 o] at hj
      split at hj
      · cases hj
      · split at hj
        · exact gIn.n (inj2 hj) rfl (by unfold costs; rw [o]; decide) (as_n (by rw [o]; decide))
        · cases hj
    · obtain ⟨x, x1, x2, x3, ⟨jx, lx, x4, _⟩, _⟩ := P.jump fm im hkr (Or.inr (Or.inl o))
      rw [jr_22 o] at hj
      have ep : (evP E ps).2.2.2.2.2.2 r.2.2.1.toNatClampNeg = pf f.1 x := by
        show ps r.2.2.1.toNatClampNeg = _
        rw [jmp x x2 x1]
        exact hps x jx lx x4
      rw [ep] at hj
      exact gIn.a (inj2 hj) (by dsimp only; decide) (by unfold costs; rw [o]; decide) (by rw [as_22 (Or.inl o), x3]; exact i_jump (d := d + 5) M)
    · obtain ⟨x, x1, x2, x3, ⟨jx, lx, x4, _⟩, _⟩ := P.jump fm im hkr (Or.inr (Or.inr o))
      rw [jr_23 o] at hj
      have ep : (evP E ps).2.2.2.2.2.2 r.2.2.1.toNatClampNeg = pf f.1 x := by
        show ps r.2.2.1.toNatClampNeg = _
        rw [jmp x x2 x1]
        exact hps x jx lx x4
      rw [ep] at hj
      exact gIn.a (inj2 hj) (by dsimp only; decide) (by unfold costs; rw [o]; decide) (by rw [as_22 (Or.inr o), x3]; exact i_jump (d := d + 5) M)
    · rw [jr_26 o] at hj
      exact gIn.n (inj2 hj) rfl (by unfold costs; rw [o]; decide) (as_n (by rw [o]; decide))
    · rw [jr_27 o] at hj
      exact gIn.n (inj2 hj) rfl (by unfold costs; rw [o]; decide) (as_n (by rw [o]; decide))
end MJB65
end
section
/-! ===== a RUN ends: between two STEPS, and in all ===== -/
def cwA (rs : List RcM) (z : PB) (A : AMS) : Nat := match A.2.1 with
  | [] => 0
  | f :: fs => (f :: fs).length * 5001 + (if (aOrd rs z A).1 = 2 then 0 else 5000 - A.2.2.1)
/-- all that has no STEP -/
def aCo (T : TT) (t : PT) (rs : List RcM) (z : PB) (tr : Bool) (k0 wm cm : Nat) : Nat → AMS → Option AMS
  | 0, _ => none
  | n + 1, A => if ¬ A.2.2.2.2.2.2.2.2.1 = 1 then some A else if costs (aOrd rs z A) = true then some A else aCo T t rs z tr k0 wm cm n (aOne T t rs z tr k0 wm cm A)
section MJB66
variable {T : TT} {N k0 kb wm cm k kk : Nat} {L : List CD} {t : PT} {rs : List RcM} {z : PB} {tr : Bool} {H : HEAP} {r : Row} {j : JS} {l : List Ins} {f : FRM} {fs : List FRM} {st : List Int32} {sc : SCL} {A B C : AMS}
theorem cw_le (A : AMS) : cwA rs z A ≤ A.2.1.length * 5001 + 5000 := by
  unfold cwA
  cases A.2.1 with
  | nil => exact Nat.zero_le _
  | cons f fs =>
    dsimp only
    by_cases h : (aOrd rs z A).1 = 2
    · rw [if_pos h]; omega
    · rw [if_neg h]; omega
theorem cw_fr : cwA rs z (H, f :: fs, kk, st, sc) ≤ (f :: fs).length * 5001 + (5000 - kk) := by
  show (f :: fs).length * 5001 + (if (aOrd rs z (H, f :: fs, kk, st, sc)).1 = 2 then 0 else 5000 - kk) ≤ _
  by_cases h : (aOrd rs z (H, f :: fs, kk, st, sc)).1 = 2
  · rw [if_pos h]; omega
  · rw [if_neg h]; omega
theorem cw_nil : cwA rs z (H, [], kk, st, sc) = 0 := rfl
theorem cw_ret (v : Int32) : cwA rs z (aRet (H, f :: fs, kk, st, sc) f fs v) ≤ (f :: fs).length * 5001 - 1 := by
  have e : (f :: fs).length = fs.length + 1 := rfl
  cases fs with
  | nil =>
    show 0 ≤ _
    exact Nat.zero_le _
  | cons g gs =>
    have := cw_fr (rs := rs) (z := z) (H := H) (f := g) (fs := gs) (kk := f.2.2.2.2) (st := v :: st) (sc := sc)
    show cwA rs z (H, g :: gs, f.2.2.2.2, v :: st, sc) ≤ _
    omega
/-- an order without a STEP -/
theorem cw_dec (P : PRX T N k0 t rs kb z tr) (hA : AOK T t rs z tr k0 wm cm (H, f :: fs, k, st, sc)) (ph : sc.2.2.2.2.1 = 1) (hc : costs (aOrd rs z (H, f :: fs, k, st, sc)) = false) : cwA rs z (aOne T t rs z tr k0 wm cm (H, f :: fs, k, st, sc)) < cwA rs z (H, f :: fs, k, st, sc) := by
  obtain ⟨j, l, seg, rest, ej, F, hk, ty, est, sl, fm, im⟩ := AOK.info P hA ph
  have i5 := P.2.2 f.1 fm im
  obtain ⟨r, hr⟩ : ∃ r, r = aOrd rs z (H, f :: fs, k, st, sc) := ⟨_, rfl⟩
  have hr' : r = ((osM rs z f.1)[k]?).getD oOver := hr
  rw [← hr] at hc
  have hd := of_decide_eq_false hc
  have r2 : ¬ r.1 = 2 := fun h => hd (Or.inr (Or.inl h))
  have big : cwA rs z (H, f :: fs, k, st, sc) = (f :: fs).length * 5001 + (5000 - k) := by
    show (f :: fs).length * 5001 + (if (aOrd rs z (H, f :: fs, k, st, sc)).1 = 2 then 0 else 5000 - k) = _
    rw [← hr, if_neg r2]
  rw [big]
  have fl : (f :: fs).length = fs.length + 1 := rfl
  obtain ⟨sc', hsc⟩ : ∃ y, y = aTick sc (costs r) := ⟨_, rfl⟩
  have eone : aOne T t rs z tr k0 wm cm (H, f :: fs, k, st, sc) = aStep T t.1 (EMx T t tr k0 f.1) j (i0T t f.1) wm cm r (H, f :: fs, k + 1, st, sc') := by
    show aStep T t.1 (EMx T t tr k0 f.1) (jX T t rs z tr k0 f.1 k) (i0T t f.1) wm cm (aOrd rs z (H, f :: fs, k, st, sc)) (H, f :: fs, k + 1, st, aTick sc (costs (aOrd rs z (H, f :: fs, k, st, sc)))) = _
    rw [jX_of ej, ← hr, ← hsc]
  rw [eone]
  have nx : ∀ (H' : HEAP) (f' : FRM) (st' : List Int32) (sc'' : SCL), cwA rs z (H', f' :: fs, k + 1, st', sc'') < (f :: fs).length * 5001 + (5000 - k) := by
    intro H' f' st' sc''
    have := cw_fr (rs := rs) (z := z) (H := H') (f := f') (fs := fs) (kk := k + 1) (st := st') (sc := sc'')
    have e : (f' :: fs).length = fs.length + 1 := rfl
    omega
  have fl0 : ∀ (n p : Int32), cwA rs z (aFail (H, f :: fs, k + 1, st, sc') n p) < (f :: fs).length * 5001 + (5000 - k) := by
    intro n p
    show 0 < _
    omega
  have rt : ∀ (v : Int32) (st' : List Int32), cwA rs z (aRet (H, f :: fs, k + 1, st', sc') f fs v) < (f :: fs).length * 5001 + (5000 - k) := by
    intro v st'
    have := cw_ret (rs := rs) (z := z) (H := H) (f := f) (fs := fs) (kk := k + 1) (st := st') (sc := sc') v
    omega
  have jp : ∀ x r' (st' : List Int32), (x ≤ (osM rs z f.1).length) → ((k < x) ∨ (x ≤ k ∧ (osM rs z f.1)[x]? = some r' ∧ r'.1 = 2)) → cwA rs z (H, f :: fs, x, st', sc') < (f :: fs).length * 5001 + (5000 - k) := by
    intro x r' st' hx h
    rcases h with h | ⟨h1, h2, h3⟩
    · have := cw_fr (rs := rs) (z := z) (H := H) (f := f) (fs := fs) (kk := x) (st := st') (sc := sc')
      omega
    · show (f :: fs).length * 5001 + (if (((osM rs z f.1)[x]?).getD oOver).1 = 2 then 0 else 5000 - x) < _
      rw [h2, if_pos (show (Option.getD (some r') oOver).1 = 2 from h3)]
      omega
  by_cases c1 : r.1 = 1
  · exact absurd (Or.inl c1) hd
  by_cases c3 : r.1 = 3
  · rw [as_3 c3]; exact nx _ _ _ _
  by_cases c4 : r.1 = 4
  · rw [as_4 c4]; exact nx _ _ _ _
  by_cases c5 : r.1 = 5
  · rw [as_5 c5]; exact nx _ _ _ _
  by_cases c6 : r.1 = 6
  · rw [as_6 c6]; exact nx _ _ _ _
  by_cases c7 : r.1 = 7
  · exact absurd (Or.inr (Or.inr (Or.inl c7))) hd
  by_cases c8 : r.1 = 8
  · exact absurd (Or.inr (Or.inr (Or.inr (Or.inl c8)))) hd
  by_cases c9 : r.1 = 9
  · exact absurd (Or.inr (Or.inr (Or.inr (Or.inr (Or.inl c9))))) hd
  by_cases c10 : r.1 = 10
  · exact absurd (Or.inr (Or.inr (Or.inr (Or.inr (Or.inr (Or.inl c10)))))) hd
  by_cases c13 : r.1 = 13
  · exact absurd (Or.inr (Or.inr (Or.inr (Or.inr (Or.inr (Or.inr (Or.inl c13))))))) hd
  by_cases c14 : r.1 = 14
  · exact absurd (Or.inr (Or.inr (Or.inr (Or.inr (Or.inr (Or.inr (Or.inr c14))))))) hd
  by_cases c17 : r.1 = 17
  · rw [as_17 c17]; exact nx _ _ _ _
  by_cases c18 : r.1 = 18
  · rw [as_18 c18]
    by_cases g : st.tail.headD 0 = 0
    · rw [if_pos g]; exact fl0 _ _
    · rw [if_neg g]; exact nx _ _ _ _
  by_cases c20 : r.1 = 20
  · rw [as_20 c20]; exact nx _ _ _ _
  by_cases cj : r.1 = 21 ∨ r.1 = 22 ∨ r.1 = 23
  · have hkr : (osM rs z f.1)[k]? = some r := by
      cases h : (osM rs z f.1)[k]? with
      | none =>
        rw [h] at hr'
        have e28 : r.1 = 28 := by rw [hr']; rfl
        rw [e28] at cj
        exact absurd cj (by decide)
      | some r0 => rw [h] at hr'; rw [hr']; rfl
    obtain ⟨x, x1, x2, x3, _, x5⟩ := P.jump fm im hkr cj
    have x6 : ∃ r', (k < x) ∨ (x ≤ k ∧ (osM rs z f.1)[x]? = some r' ∧ r'.1 = 2) := by
      rcases x5 with ⟨_, h⟩ | ⟨_, h1, r', h2, h3⟩
      · exact ⟨r, Or.inl h⟩
      · exact ⟨r', Or.inr ⟨h1, h2, h3⟩⟩
    obtain ⟨r', x7⟩ := x6
    rcases cj with cj | cj | cj
    · rw [as_21 cj, x3]
      by_cases g : st.headD 0 = 0
      · rw [if_pos g]; exact jp x r' _ x1 x7
      · rw [if_neg g]; exact nx _ _ _ _
    · rw [as_22 (Or.inl cj), x3]; exact jp x r' _ x1 x7
    · rw [as_22 (Or.inr cj), x3]; exact jp x r' _ x1 x7
  by_cases c24 : r.1 = 24
  · rw [as_24 c24]; exact nx _ _ _ _
  by_cases c25 : r.1 = 25
  · rw [as_25 c25]; exact nx _ _ _ _
  by_cases c28 : r.1 = 28
  · rw [as_28 c28]
    by_cases g : r.2.2.1 = 1
    · rw [if_pos g]; exact rt _ _
    · rw [if_neg g]; exact rt _ _
  · have c22 : ¬ (r.1 = 22 ∨ r.1 = 23) := fun h => cj (Or.inr h)
    have c21 : ¬ r.1 = 21 := fun h => cj (Or.inl h)
    have e : aStep T t.1 (EMx T t tr k0 f.1) j (i0T t f.1) wm cm r (H, f :: fs, k + 1, st, sc') = (H, f :: fs, k + 1, st, sc') := by
      unfold aStep
      dsimp only
      rw [if_neg c1, if_neg c3, if_neg c4, if_neg c5, if_neg c6, if_neg c7, if_neg c8, if_neg c9, if_neg c10, if_neg c13, if_neg c14, if_neg c17, if_neg c18, if_neg c20, if_neg c21, if_neg c22, if_neg c24, if_neg c25, if_neg c28]
    rw [e]
    exact nx _ _ _ _
/-- what an order may do, by cases -/
theorem aStep_cs {E : EV} {i0 : Nat} {Pd : AMS → Prop} (nx : ∀ (H' : HEAP) (f' : FRM) (k' : Nat) (st' : List Int32), Pd (H', f' :: fs, k', st', sc)) (sy : ∀ (st' : List Int32) (w : Nat → Int32), Pd (H, f :: fs, kk, st', sc.1, sc.2.1 + 1, w, sc.2.2.2)) (fl : ∀ (n p : Int32), Pd (aFail (H, f :: fs, kk, st, sc) n p)) (rt : ∀ (v : Int32) (st' : List Int32), Pd (aRet (H, f :: fs, kk, st', sc) f fs v)) (cl : ∀ (d o : Nat) (w : Nat → Int32) (st' : List Int32) (mx : Nat), Pd (H, (d, o, -1, w, kk) :: f :: fs, 0, st', mx, sc.2)) : Pd (aStep T L E j i0 wm cm r (H, f :: fs, kk, st, sc)) := by
  by_cases c1 : r.1 = 1
  · rw [as_1 c1]; exact nx _ _ _ _
  by_cases c3 : r.1 = 3
  · rw [as_3 c3]; exact nx _ _ _ _
  by_cases c4 : r.1 = 4
  · rw [as_4 c4]; exact nx _ _ _ _
  by_cases c5 : r.1 = 5
  · rw [as_5 c5]; exact nx _ _ _ _
  by_cases c6 : r.1 = 6
  · rw [as_6 c6]; exact nx _ _ _ _
  by_cases c7 : r.1 = 7
  · rw [as_7 c7]
    cases kdE E r.2.2.1 with
    | none => exact nx _ _ _ _
    | some kx =>
      dsimp only
      by_cases q : wm < bsH T L H H.1 + szO T L (cK kx)
      · rw [if_pos q]; exact fl _ _
      · rw [if_neg q]; exact nx _ _ _ _
  by_cases c8 : r.1 = 8
  · rw [as_8 c8]; exact nx _ _ _ _
  by_cases c9 : r.1 = 9
  · rw [as_9 c9]
    cases two2 r.2.2.1 (st.tail.headD 0) (st.headD 0) with
    | none => exact fl _ _
    | some v => exact nx _ _ _ _
  by_cases c10 : r.1 = 10
  · rw [as_10 c10]
    by_cases q : st.headD 0 = 0
    · rw [if_pos q]; exact fl _ _
    · rw [if_neg q]; exact nx _ _ _ _
  by_cases c13 : r.1 = 13
  · rw [as_13 c13]
    rw [aCall_eq]
    by_cases g1 : st[nN r.2.2.1]?.getD 0 = 0
    · rw [if_pos g1]; exact fl _ _
    rw [if_neg g1]
    by_cases g2 : (f :: fs).length = cm
    · rw [if_pos g2]; exact fl _ _
    rw [if_neg g2]
    cases memT T L (H.2 (nN (st[nN r.2.2.1]?.getD 0))).1 (nkM T L (j.2.1.headD (0, 0)).1) true with
    | none => exact nx _ _ _ _
    | some dd => exact cl _ _ _ _ _
  by_cases c14 : r.1 = 14
  · rw [as_14 c14]
    cases kdE E r.2.2.1 with
    | none => exact nx _ _ _ _
    | some kx =>
      dsimp only
      by_cases q : asO T L H f.1 f.2.1 (st.headD 0) kx = true
      · rw [if_pos q]; exact nx _ _ _ _
      · rw [if_neg q]; exact fl _ _
  by_cases c17 : r.1 = 17
  · rw [as_17 c17]; exact nx _ _ _ _
  by_cases c18 : r.1 = 18
  · rw [as_18 c18]
    by_cases q : st.tail.headD 0 = 0
    · rw [if_pos q]; exact fl _ _
    · rw [if_neg q]; exact nx _ _ _ _
  by_cases c20 : r.1 = 20
  · rw [as_20 c20]; exact nx _ _ _ _
  by_cases c21 : r.1 = 21
  · rw [as_21 c21]
    by_cases q : st.headD 0 = 0
    · rw [if_pos q]; exact nx _ _ _ _
    · rw [if_neg q]; exact nx _ _ _ _
  by_cases c22 : r.1 = 22 ∨ r.1 = 23
  · rw [as_22 c22]; exact nx _ _ _ _
  by_cases c24 : r.1 = 24
  · rw [as_24 c24]; exact sy _ _
  by_cases c25 : r.1 = 25
  · rw [as_25 c25]; exact nx _ _ _ _
  by_cases c28 : r.1 = 28
  · rw [as_28 c28]
    by_cases g : r.2.2.1 = 1
    · rw [if_pos g]; exact rt _ _
    · rw [if_neg g]; exact rt _ _
  have e : aStep T L E j i0 wm cm r (H, f :: fs, kk, st, sc) = (H, f :: fs, kk, st, sc) := by
    unfold aStep
    dsimp only
    rw [if_neg c1, if_neg c3, if_neg c4, if_neg c5, if_neg c6, if_neg c7, if_neg c8, if_neg c9, if_neg c10, if_neg c13, if_neg c14, if_neg c17, if_neg c18, if_neg c20, if_neg c21, if_neg c22, if_neg c24, if_neg c25, if_neg c28]
  rw [e]
  exact nx _ _ _ _
theorem aRet_len {v : Int32} : (aRet (H, f :: fs, kk, st, sc) f fs v).2.1.length ≤ (f :: fs).length + 1 := by
  cases fs with
  | nil => exact Nat.zero_le _
  | cons g gs =>
    show (g :: gs).length ≤ _
    have e0 : (f :: g :: gs).length = (g :: gs).length + 1 := rfl
    omega
/-- any order opens at most one CALL -/
theorem aStep_len {E : EV} {i0 : Nat} : (aStep T L E j i0 wm cm r (H, f :: fs, kk, st, sc)).2.1.length ≤ (f :: fs).length + 1 :=
  aStep_cs (Pd := fun A => A.2.1.length ≤ (f :: fs).length + 1) (fun _ _ _ _ => Nat.le_succ _) (fun _ _ => Nat.le_succ _) (fun _ _ => Nat.zero_le _) (fun _ _ => aRet_len) (fun _ _ _ _ _ => Nat.le_refl _)
end MJB66
end
section
/-! ===== a number is said only behind its STATEMENT's STEP: the orders ===== -/
/-- inside a say: behind its STATEMENT's beginning, up to the order that says -/
def inY (os : List Row) (k : Nat) : Prop := ∃ (p q : Nat) (rp rq : Row), p < k ∧ k ≤ q ∧ os[p]? = some rp ∧ rp.1 = 1 ∧ os[q]? = some rq ∧ rq.1 = 24 ∧ ∀ (i : Nat) (y : Row), p < i → i < q → os[i]? = some y → isE y
def syA (os : List Row) : Prop := ∀ (q : Nat) (r : Row), os[q]? = some r → r.1 = 24 → ∃ (p : Nat) (rp : Row), p < q ∧ os[p]? = some rp ∧ rp.1 = 1 ∧ ∀ (i : Nat) (y : Row), p < i → i < q → os[i]? = some y → isE y
/-- no jump goes to behind a STATEMENT's beginning -/
def syB (i0 : Nat) (big os : List Row) : Prop := ∀ r, r ∈ os → (r.1 = 21 ∨ r.1 = 22) → ∃ (x : Nat) (rx : Row), r.2.2.1 = nI (i0 + (x + 1)) ∧ big[x]? = some rx ∧ ¬ rx.1 = 1
def SYo (i0 : Nat) (os : List Row) : Prop := syA os ∧ syB i0 os os
def SYb (i0 : Nat) (os : List Row) : Prop := SYo i0 os ∧ ∃ a x, os = a ++ [x] ∧ ¬ x.1 = 1
def nY (r : Row) : Prop := ¬ (r.1 = 21 ∨ r.1 = 22 ∨ r.1 = 24)
section MJB67
variable {T : TT} {M : Nat}
theorem syA.app {a b : List Row} (ha : syA a) (hb : syA b) : syA (a ++ b) := by
  intro q r hq h24
  by_cases g : q < a.length
  · rw [List.getElem?_append_left g] at hq
    obtain ⟨p, rp, p1, p2, p3, p4⟩ := ha q r hq h24
    refine ⟨p, rp, p1, by rw [List.getElem?_append_left (by omega)]; exact p2, p3, fun i y i1 i2 hi => p4 i y i1 i2 ?_⟩
    rw [List.getElem?_append_left (by omega)] at hi
    exact hi
  · rw [List.getElem?_append_right (by omega)] at hq
    obtain ⟨p, rp, p1, p2, p3, p4⟩ := hb (q - a.length) r hq h24
    refine ⟨a.length + p, rp, by omega, by rw [List.getElem?_append_right (by omega), show a.length + p - a.length = p by omega]; exact p2, p3, fun i y i1 i2 hi => p4 (i - a.length) y (by omega) (by omega) ?_⟩
    rw [List.getElem?_append_right (by omega)] at hi
    exact hi
theorem syA.n {os : List Row} (h : ∀ r, r ∈ os → ¬ r.1 = 24) : syA os := fun q r hq h24 => absurd h24 (h r (List.mem_of_getElem? hq))
theorem syB.n {i0 : Nat} {big os : List Row} (h : ∀ r, r ∈ os → ¬ (r.1 = 21 ∨ r.1 = 22)) : syB i0 big os := fun r hr hj => absurd hj (h r hr)
theorem syB.app {i0 : Nat} {big a b : List Row} (ha : syB i0 big a) (hb : syB i0 big b) : syB i0 big (a ++ b) := fun r hr hj => (List.mem_append.mp hr).elim (fun h => ha r h hj) (fun h => hb r h hj)
theorem syB.sub {i0 : Nat} {a os c : List Row} (h : syB (i0 + a.length) os os) : syB i0 (a ++ (os ++ c)) os := by
  intro r hr hj
  obtain ⟨x, rx, x1, x2, x3⟩ := h r hr hj
  have xl := (List.getElem?_eq_some_iff.mp x2).1
  refine ⟨a.length + x, rx, by rw [x1]; exact congrArg nI (by omega), ?_, x3⟩
  rw [List.getElem?_append_right (by omega), show a.length + x - a.length = x by omega, List.getElem?_append_left xl]
  exact x2
theorem SYo.app {i0 : Nat} {a b : List Row} (ha : SYo i0 a) (hb : SYo (i0 + a.length) b) : SYo i0 (a ++ b) := by
  refine ⟨ha.1.app hb.1, syB.app ?_ ?_⟩
  · have := syB.sub (i0 := i0) (a := []) (os := a) (c := b) ha.2
    exact this
  · have := syB.sub (i0 := i0) (a := a) (os := b) (c := []) hb.2
    rw [List.append_nil] at this
    exact this
theorem nY.e {r : Row} (h : isE r) : nY r := by
  unfold nY
  rcases h with h | h | h | h | h | h | h | h | h | h | h | h | h <;> rw [h] <;> decide
theorem SYo.ny {i0 : Nat} {os : List Row} (h : ∀ r, r ∈ os → nY r) : SYo i0 os := ⟨syA.n (fun r hr e => h r hr (Or.inr (Or.inr e))), syB.n (fun r hr e => h r hr (e.elim Or.inl (fun e => Or.inr (Or.inl e))))⟩
theorem ny_app {a b : List Row} (ha : ∀ r, r ∈ a → nY r) (hb : ∀ r, r ∈ b → nY r) : ∀ r, r ∈ a ++ b → nY r := fun r hr => (List.mem_append.mp hr).elim (ha r) (hb r)
theorem ny_one {r : Row} (h : nY r) : ∀ y, y ∈ [r] → nY y := fun y hy => by
  have e : y = r := by simpa using hy
  rw [e]
  exact h
theorem ny_cons {r : Row} {l : List Row} (h : nY r) (hl : ∀ y, y ∈ l → nY y) : ∀ y, y ∈ r :: l → nY y := fun y hy => (List.mem_cons.mp hy).elim (fun e => by rw [e]; exact h) (hl y)
theorem prV_isE {o c kq : Nat} {y : PZ} (ho : o ≤ 12) (h : prV T M o c kq = .inr y) : ∀ r, r ∈ y.2.2.2.1 → isE r := fun r hr => scE_isE _ _ ((prV_gd ho h).2 0 [] 0 60 20 120 (by omega) (by show 0 + 12 ≤ 20; omega) (by omega)).1 r hr
/-- a STATEMENT's beginning, an E, an order -/
theorem syA.say {e : List Row} {l w : Row} (hl : l.1 = 1) (he : ∀ r, r ∈ e → isE r) : syA (l :: (e ++ [w])) := by
  intro q r hq h24
  cases q with
  | zero =>
    have e1 : l = r := by simpa using hq
    rw [← e1, hl] at h24
    exact absurd h24 (by decide)
  | succ q =>
    have hq' : (e ++ [w])[q]? = some r := hq
    have ql := (List.getElem?_eq_some_iff.mp hq').1
    rw [List.length_append, List.length_singleton] at ql
    refine ⟨0, l, by omega, rfl, hl, fun i y i1 i2 hi => ?_⟩
    obtain ⟨i', ei⟩ : ∃ i', i = i' + 1 := ⟨i - 1, by omega⟩
    rw [ei] at hi
    have hi' : (e ++ [w])[i']? = some y := hi
    rw [List.getElem?_append_left (by omega)] at hi'
    exact he y (List.mem_of_getElem? hi')
theorem ny_l {c : Nat} : nY (oLine T c) := by unfold nY; show ¬ ((1 : Int32) = 21 ∨ (1 : Int32) = 22 ∨ (1 : Int32) = 24); decide
theorem pDecl_sy {o c td kq i0 : Nat} {y : PB} (ho : o ≤ 12) (h : pDecl T M o c td kq = .inr y) : SYo i0 y.2.2.2.1 := by
  unfold pDecl at h
  cases hp : pType T c with
  | inl x => rw [hp] at h; cases h
  | inr c1 =>
    rw [hp] at h
    dsimp only at h
    by_cases h3 : (T c1).1 = 3
    · rw [if_pos h3] at h
      by_cases t16 : td = 16
      · rw [if_pos t16] at h; cases h
      rw [if_neg t16] at h
      by_cases h61 : (T (c1 + 1)).1 = 61
      · rw [if_pos h61] at h
        cases hv : prV T M o (c1 + 2) (kq + (if (T c).1 = 10 then 0 else 1)) with
        | inl x => rw [hv] at h; cases h
        | inr v =>
          rw [hv] at h
          dsimp only at h
          by_cases h59 : (T v.1).1 = 59
          · rw [if_pos h59] at h
            cases h
            have key : ∀ (r19 r20 : Row), r19.1 = 19 → r20.1 = 20 → SYo i0 (oLine T c :: r19 :: (v.2.2.2.1 ++ [r20])) := fun r19 r20 e1 e2 => SYo.ny (ny_cons ny_l (ny_cons (by unfold nY; rw [e1]; decide) (ny_app (fun r hr => nY.e (prV_isE ho hv r hr)) (ny_one (by unfold nY; rw [e2]; decide)))))
            by_cases g10 : (T c).1 = 10
            · simp only [if_pos g10]
              exact key _ _ rfl rfl
            · simp only [if_neg g10]
              exact key _ _ rfl rfl
          · rw [if_neg h59] at h; cases h
      · rw [if_neg h61] at h; cases h
    · rw [if_neg h3] at h; cases h
theorem pGrd_sy {bl : Nat → Nat → Nat → Nat → PY} {o c td kq i0 : Nat} {x : PZ × PB} (ho : o ≤ 12) (hr : ∀ c td kq i0 x, bl c td kq i0 = .inr x → SYb i0 x.2.2.2.1) (h : pGrd T M bl o c td kq i0 = .inr x) : (∀ y, y ∈ x.1.2.2.2.1 → isE y) ∧ SYb (i0 + x.1.2.2.2.1.length + 1) x.2.2.2.2.1 := by
  unfold pGrd at h
  by_cases a : (T (c + 1)).1 = 40
  · rw [if_pos a] at h
    by_cases b : o = 12
    · rw [if_pos b] at h; cases h
    rw [if_neg b] at h
    cases hv : prV T M (o + 1) (c + 2) kq with
    | inl e => rw [hv] at h; cases h
    | inr v =>
      rw [hv] at h
      dsimp only at h
      by_cases g : (T v.1).1 = 41
      · rw [if_pos g] at h
        cases hb : bl (v.1 + 1) td (kq + v.2.2.1.length) (i0 + v.2.2.2.1.length + 1) with
        | inl e => rw [hb] at h; cases h
        | inr w =>
          rw [hb] at h
          cases h
          exact ⟨prV_isE (by omega) hv, hr _ _ _ _ _ hb⟩
      · rw [if_neg g] at h; cases h
  · rw [if_neg a] at h; cases h
/-- if without else -/
theorem SYo.if1 {i0 : Nat} {v w : List Row} {l r : Row} (hl : l.1 = 1) (hv : ∀ y, y ∈ v → isE y) (hw : SYb (i0 + (v.length + 2)) w) (ha : r.2.2.1 = nI (i0 + (v.length + 2 + w.length))) : SYo i0 (l :: (v ++ r :: w)) := by
  obtain ⟨⟨w1, w2⟩, a, x, ew, hx⟩ := hw
  obtain ⟨A, hA⟩ : ∃ A, A = l :: (v ++ [r]) := ⟨_, rfl⟩
  have Al : A.length = v.length + 2 := by rw [hA, List.length_cons, List.length_append, List.length_singleton]
  have big : l :: (v ++ r :: w) = A ++ (w ++ []) := by
    rw [hA, List.append_nil, List.cons_append, List.append_assoc]
    rfl
  have wl : w.length = a.length + 1 := by rw [ew, List.length_append, List.length_singleton]
  have lst : (A ++ (w ++ []))[A.length + a.length]? = some x := by
    rw [List.append_nil, List.getElem?_append_right (by omega), show A.length + a.length - A.length = a.length by omega, ew, List.getElem?_append_right (Nat.le_refl _), Nat.sub_self]
    rfl
  have sA : syA A := by rw [hA]; exact syA.say hl hv
  have w1' : syA (w ++ []) := by rw [List.append_nil]; exact w1
  rw [big]
  refine ⟨sA.app w1', syB.app (fun y hy hj => ?_) (syB.app (syB.sub (by rw [Al]; exact w2)) (fun y hy => by cases hy))⟩
  rw [hA] at hy
  rcases List.mem_cons.mp hy with e | e
  · rw [e, hl] at hj
    exact absurd hj (by decide)
  · rcases List.mem_append.mp e with e | e
    · exact absurd (hj.elim Or.inl (fun q => Or.inr (Or.inl q))) (nY.e (hv y e))
    · have e' : y = r := by simpa using e
      exact ⟨A.length + a.length, x, by rw [e', ha]; exact congrArg nI (by omega), lst, hx⟩
/-- if with else; while -/
theorem SYo.if2 {i0 : Nat} {p v w u : List Row} {r j : Row} (hp : ∀ y, y ∈ p → y.1 = 1 ∨ y.1 = 2) (hv : ∀ y, y ∈ v → isE y) (hr : r.1 = 21) (hj : j.1 = 22 ∨ j.1 = 23) (hw : SYb (i0 + (p.length + v.length + 1)) w) (hu : SYo (i0 + (p.length + v.length + 1 + w.length + 1)) u) (ha : r.2.2.1 = nI (i0 + (p.length + v.length + 1 + w.length + 1))) (hj2 : j.1 = 22 → j.2.2.1 = nI (i0 + (p.length + v.length + 1 + w.length + 1 + u.length)) ∧ ∃ a x, u = a ++ [x] ∧ ¬ x.1 = 1) : SYo i0 ((p ++ v ++ [r]) ++ (w ++ ([j] ++ u))) := by
  obtain ⟨⟨w1, w2⟩, _⟩ := hw
  obtain ⟨u1, u2⟩ := hu
  obtain ⟨A, hA⟩ : ∃ A, A = p ++ v ++ [r] := ⟨_, rfl⟩
  have Al : A.length = p.length + v.length + 1 := by rw [hA, List.length_append, List.length_append, List.length_singleton]
  obtain ⟨B, hB⟩ : ∃ B, B = A ++ w ++ [j] := ⟨_, rfl⟩
  have Bl : B.length = p.length + v.length + 1 + w.length + 1 := by rw [hB, List.length_append, List.length_append, List.length_singleton, Al]
  have big : A ++ (w ++ ([j] ++ u)) = B ++ (u ++ []) := by rw [hB, List.append_nil, List.append_assoc, List.append_assoc]
  have Am : ∀ y, y ∈ A → y = r ∨ (¬ (y.1 = 21 ∨ y.1 = 22) ∧ ¬ y.1 = 24) := by
    intro y hy
    rw [hA] at hy
    rcases List.mem_append.mp hy with e | e
    · rcases List.mem_append.mp e with e | e
      · rcases hp y e with q | q <;> rw [q] <;> exact Or.inr (by decide)
      · have n := nY.e (hv y e)
        exact Or.inr ⟨fun q => n (q.elim Or.inl (fun q => Or.inr (Or.inl q))), fun q => n (Or.inr (Or.inr q))⟩
    · exact Or.inl (by simpa using e)
  have sA : syA A := syA.n (fun y hy => by
    rcases Am y hy with e | e
    · rw [e, hr]; decide
    · exact e.2)
  have sJ : syA [j] := syA.n (fun y hy => by
    have e : y = j := by simpa using hy
    rw [e]
    rcases hj with q | q <;> rw [q] <;> decide)
  have jn : ¬ j.1 = 1 := by rcases hj with q | q <;> rw [q] <;> decide
  rw [← hA]
  refine ⟨sA.app (w1.app (sJ.app u1)), syB.app (fun y hy hk => ?_) (syB.app (syB.sub (by rw [Al]; exact w2)) (syB.app (fun y hy hk => ?_) ?_))⟩
  · rcases Am y hy with e | e
    · refine ⟨A.length + w.length, j, by rw [e, ha]; exact congrArg nI (by omega), ?_, jn⟩
      rw [List.getElem?_append_right (by omega), show A.length + w.length - A.length = w.length by omega, List.getElem?_append_right (Nat.le_refl _), Nat.sub_self]
      rfl
    · exact absurd hk e.1
  · have e : y = j := by simpa using hy
    rw [e] at hk
    have j22 : j.1 = 22 := by
      rcases hk with q | q
      · rcases hj with q' | q'
        · exact q'
        · rw [q'] at q; exact absurd q (by decide)
      · exact q
    obtain ⟨x1, a, x, eu, hx⟩ := hj2 j22
    have ul : u.length = a.length + 1 := by rw [eu, List.length_append, List.length_singleton]
    refine ⟨B.length + a.length, x, by rw [e, x1]; exact congrArg nI (by omega), ?_, hx⟩
    rw [big, List.append_nil, List.getElem?_append_right (by omega), show B.length + a.length - B.length = a.length by omega, eu, List.getElem?_append_right (Nat.le_refl _), Nat.sub_self]
    rfl
  · rw [big]
    exact syB.sub (by rw [Bl]; exact u2)
theorem pIf_sy {bl : Nat → Nat → Nat → Nat → PY} {o c td kq i0 : Nat} {y : PB} (ho : o ≤ 12) (hr : ∀ c td kq i0 x, bl c td kq i0 = .inr x → SYb i0 x.2.2.2.1) (h : pIf T M bl o c td kq i0 = .inr y) : SYo i0 y.2.2.2.1 := by
  unfold pIf at h
  cases hg : pGrd T M bl o c td kq (i0 + 1) with
  | inl e => rw [hg] at h; cases h
  | inr x =>
    rw [hg] at h
    obtain ⟨g2, g3⟩ := pGrd_sy ho hr hg
    obtain ⟨v, w⟩ := x
    dsimp only at h g2 g3
    by_cases e16 : (T w.1).1 = 16
    · rw [if_pos e16] at h
      cases hb : bl (w.1 + 1) w.2.1 (kq + v.2.2.1.length + w.2.2.1.length) (i0 + 3 + v.2.2.2.1.length + w.2.2.2.1.length) with
      | inl e => rw [hb] at h; cases h
      | inr u =>
        rw [hb] at h
        obtain ⟨u3, u4⟩ := hr _ _ _ _ _ hb
        cases h
        have k := SYo.if2 (i0 := i0) (p := [oLine T c]) (v := v.2.2.2.1) (w := w.2.2.2.1) (u := u.2.2.2.1) (r := (21, (T c).2.1, nI (i0 + 3 + v.2.2.2.1.length + w.2.2.2.1.length), 0, 0)) (j := (22, -1, nI (i0 + 3 + v.2.2.2.1.length + w.2.2.2.1.length + u.2.2.2.1.length), 0, 0)) (fun y hy => by
          have e : y = oLine T c := by simpa using hy
          rw [e]
          exact Or.inl rfl) g2 rfl (Or.inl rfl) (by rw [List.length_singleton, show i0 + (1 + v.2.2.2.1.length + 1) = i0 + 1 + v.2.2.2.1.length + 1 by omega]; exact g3) (by rw [List.length_singleton, show i0 + (1 + v.2.2.2.1.length + 1 + w.2.2.2.1.length + 1) = i0 + 3 + v.2.2.2.1.length + w.2.2.2.1.length by omega]; exact u3) (by rw [List.length_singleton]; exact congrArg nI (by omega)) (fun _ => ⟨by rw [List.length_singleton]; exact congrArg nI (by omega), u4⟩)
        simp only [List.append_assoc, List.cons_append, List.nil_append] at k ⊢
        exact k
    · rw [if_neg e16] at h
      cases h
      exact SYo.if1 rfl g2 (by rw [show i0 + (v.2.2.2.1.length + 2) = i0 + 1 + v.2.2.2.1.length + 1 by omega]; exact g3) (congrArg nI (by omega))
theorem pWhile_sy {bl : Nat → Nat → Nat → Nat → PY} {o c td kq i0 : Nat} {y : PB} (ho : o ≤ 12) (hr : ∀ c td kq i0 x, bl c td kq i0 = .inr x → SYb i0 x.2.2.2.1) (h : pWhile T M bl o c td kq i0 = .inr y) : SYo i0 y.2.2.2.1 := by
  unfold pWhile at h
  cases hg : pGrd T M bl o c td kq (i0 + 2) with
  | inl e => rw [hg] at h; cases h
  | inr x =>
    rw [hg] at h
    obtain ⟨g2, g3⟩ := pGrd_sy ho hr hg
    obtain ⟨v, w⟩ := x
    dsimp only at g2 g3
    cases h
    have k := SYo.if2 (i0 := i0) (p := [oLine T c, (2, (T c).2.1, 0, 0, 0)]) (v := v.2.2.2.1) (w := w.2.2.2.1) (u := []) (r := (21, (T c).2.1, nI (i0 + 4 + v.2.2.2.1.length + w.2.2.2.1.length), 0, 0)) (j := (23, -1, nI (i0 + 1), 0, 0)) (fun y hy => by
      rcases List.mem_cons.mp hy with e | e
      · rw [e]; exact Or.inl rfl
      · have e' : y = (2, (T c).2.1, 0, 0, 0) := by simpa using e
        rw [e']
        exact Or.inr rfl) g2 rfl (Or.inr rfl) (by rw [show [oLine T c, (2, (T c).2.1, 0, 0, 0)].length = 2 from rfl, show i0 + (2 + v.2.2.2.1.length + 1) = i0 + 2 + v.2.2.2.1.length + 1 by omega]; exact g3) (SYo.ny (fun y hy => by cases hy)) (by rw [show [oLine T c, (2, (T c).2.1, 0, 0, 0)].length = 2 from rfl]; exact congrArg nI (by omega)) (fun e => absurd (show (23 : Int32) = 22 from e) (by decide))
    simp only [List.append_assoc, List.cons_append, List.nil_append, List.append_nil] at k ⊢
    exact k
theorem pGive_sy {o c td kq i0 : Nat} {w : Int32} {y : PB} (ho : o ≤ 12) (hw : w = 28 ∨ w = 24) (h : pGive T M o c td kq w = .inr y) : SYo i0 y.2.2.2.1 := by
  unfold pGive at h
  cases hv : prV T M o (c + 1) kq with
  | inl e => rw [hv] at h; cases h
  | inr v =>
    rw [hv] at h
    dsimp only at h
    by_cases g : (T v.1).1 = 59
    · rw [if_pos g] at h
      cases h
      refine ⟨syA.say rfl (prV_isE ho hv), syB.n (fun r hr => ?_)⟩
      rcases List.mem_cons.mp hr with e | e
      · rw [e]; show ¬ ((1 : Int32) = 21 ∨ (1 : Int32) = 22); decide
      · rcases List.mem_append.mp e with e | e
        · exact fun q => nY.e (prV_isE ho hv r e) (q.elim Or.inl (fun q => Or.inr (Or.inl q)))
        · have e' : r = (w, (T c).2.1, 1, 0, 0) := by simpa using e
          rw [e']
          show ¬ (w = 21 ∨ w = 22)
          rcases hw with q | q <;> rw [q] <;> decide
    · rw [if_neg g] at h; cases h
theorem mem_dl : ∀ (l : List Row) (r : Row), r ∈ l.dropLast → r ∈ l
  | [], r, h => h
  | [a], r, h => by cases h
  | a :: b :: l, r, h => by
    have h' : r ∈ a :: (b :: l).dropLast := h
    rcases List.mem_cons.mp h' with e | e
    · rw [e]; exact List.mem_cons_self
    · exact List.mem_cons_of_mem _ (mem_dl (b :: l) r e)
theorem ny_left {sh : Int32} {l : List Row} (h : ∀ r, r ∈ l → isE r) : ∀ r, r ∈ oLeft sh l → nY r := by
  intro r hr
  unfold oLeft at hr
  rcases List.mem_append.mp hr with e | e
  · exact nY.e (h r (mem_dl l r e))
  · have e' : r = (if sh = 1 then 15 else 16, (oLast l).2) := by simpa using e
    rw [e']
    unfold nY
    by_cases q : sh = 1
    · rw [if_pos q]; show ¬ ((15 : Int32) = 21 ∨ (15 : Int32) = 22 ∨ (15 : Int32) = 24); decide
    · rw [if_neg q]; show ¬ ((16 : Int32) = 21 ∨ (16 : Int32) = 22 ∨ (16 : Int32) = 24); decide
theorem pUse_sy {o c td kq i0 : Nat} {y : PB} (ho : o ≤ 12) (h : pUse T M o c td kq i0 = .inr y) : SYo i0 y.2.2.2.1 := by
  unfold pUse at h
  cases hv : prV T M o c kq with
  | inl e => rw [hv] at h; cases h
  | inr v =>
    rw [hv] at h
    dsimp only at h
    by_cases g : (T v.1).1 = 61 ∧ (v.2.1 = 1 ∨ v.2.1 = 2)
    · rw [if_pos g] at h
      cases hv2 : prV T M o (v.1 + 1) (kq + v.2.2.1.length) with
      | inl e => rw [hv2] at h; cases h
      | inr w =>
        rw [hv2] at h
        dsimp only at h
        by_cases g2 : (T w.1).1 = 59
        · rw [if_pos g2] at h
          cases h
          refine SYo.ny (ny_cons ny_l (ny_app (ny_app (ny_left (prV_isE ho hv)) (fun r hr => nY.e (prV_isE ho hv2 r hr))) (ny_one ?_)))
          unfold nY
          by_cases q : v.2.1 = 1
          · simp only [if_pos q]; decide
          · simp only [if_neg q]; decide
        · rw [if_neg g2] at h; cases h
    · rw [if_neg g] at h
      by_cases g2 : (T v.1).1 = 59 ∧ v.2.1 = 3
      · rw [if_pos g2] at h
        cases h
        refine SYo.ny (ny_cons ny_l (ny_app (fun r hr => nY.e (prV_isE ho hv r hr)) (ny_one ?_)))
        unfold nY
        show ¬ ((25 : Int32) = 21 ∨ (25 : Int32) = 22 ∨ (25 : Int32) = 24)
        decide
      · rw [if_neg g2] at h; cases h
theorem pSeq_sy {rd : Nat → Nat → Nat → Nat → PY} {kq i0 : Nat} (hr : ∀ c td kq i0 x, rd c td kq i0 = .inr x → SYo i0 x.2.2.2.1) : ∀ (k : Nat) (z y : PB), SYo i0 z.2.2.2.1 → pSeq T rd kq i0 k z = .inr y → SYo i0 y.2.2.2.1
  | 0, z, y, hz, h => by cases h; exact hz
  | k + 1, z, y, hz, h => by
    unfold pSeq at h
    by_cases g : (T z.1).1 = 125
    · rw [if_pos g] at h
      cases h
      exact hz
    · rw [if_neg g] at h
      cases hd : rd z.1 z.2.1 (kq + z.2.2.1.length) (i0 + z.2.2.2.1.length) with
      | inl e => rw [hd] at h; cases h
      | inr x =>
        rw [hd] at h
        exact pSeq_sy hr k (x.1, x.2.1, z.2.2.1 ++ x.2.2.1, z.2.2.2.1 ++ x.2.2.2.1, z.2.2.2.2 ++ x.2.2.2.2) y (hz.app (hr _ _ _ _ _ hd)) h
/-- EVERY STATEMENT, EVERY BLOCK -/
theorem prS_sy : ∀ (f tag o c td kq i0 : Nat) (y : PB), tag ≤ 1 → o ≤ 12 → prS T M f tag o c td kq i0 = .inr y → SYo i0 y.2.2.2.1 ∧ (tag = 0 → ∃ a x, y.2.2.2.1 = a ++ [x] ∧ ¬ x.1 = 1)
  | 0, _, _, _, _, _, _, _, _, _, h => by cases h
  | f + 1, 0, o, c, td, kq, i0, y, _, ho, h => by
    rw [prS_0] at h
    unfold pBlk at h
    by_cases a : (T c).1 = 123
    · rw [if_pos a] at h
      by_cases b : o = 12
      · rw [if_pos b] at h; cases h
      rw [if_neg b] at h
      cases hd : pSeq T (prS T M f 1 (o + 1)) kq i0 M (c + 1, td, [], [(26, (T (c + 1)).2.1, 0, 0, 0)], []) with
      | inl e => rw [hd] at h; cases h
      | inr z =>
        rw [hd] at h
        dsimp only at h
        have hz := pSeq_sy (fun c td kq i0 x hx => (prS_sy f 1 (o + 1) c td kq i0 x (by omega) (by omega) hx).1) _ _ _ (SYo.ny (i0 := i0) (os := [(26, (T (c + 1)).2.1, 0, 0, 0)]) (ny_one (by unfold nY; show ¬ ((26 : Int32) = 21 ∨ (26 : Int32) = 22 ∨ (26 : Int32) = 24); decide))) hd
        by_cases g : (T z.1).1 = 125
        · rw [if_pos g] at h
          cases h
          refine ⟨hz.app (SYo.ny (ny_one (by unfold nY; show ¬ ((27 : Int32) = 21 ∨ (27 : Int32) = 22 ∨ (27 : Int32) = 24); decide))), fun _ => ⟨z.2.2.2.1, (27, (T (z.1 + 1)).2.1, 0, 0, 0), rfl, ?_⟩⟩
          show ¬ (27 : Int32) = 1
          decide
        · rw [if_neg g] at h; cases h
    · rw [if_neg a] at h; cases h
  | f + 1, 1, o, c, td, kq, i0, y, _, ho, h => by
    refine ⟨?_, fun e => by omega⟩
    rw [prS_1] at h
    have bl : ∀ c td kq i0 x, prS T M f 0 o c td kq i0 = .inr x → SYb i0 x.2.2.2.1 := fun c td kq i0 x hx => ⟨(prS_sy f 0 o c td kq i0 x (by omega) ho hx).1, (prS_sy f 0 o c td kq i0 x (by omega) ho hx).2 rfl⟩
    by_cases e1 : (T c).1 = 2 ∨ (T c).1 = 10
    · rw [if_pos e1] at h; exact pDecl_sy ho h
    rw [if_neg e1] at h
    by_cases e15 : (T c).1 = 15
    · rw [if_pos e15] at h; exact pIf_sy ho bl h
    rw [if_neg e15] at h
    by_cases e17 : (T c).1 = 17
    · rw [if_pos e17] at h; exact pWhile_sy ho bl h
    rw [if_neg e17] at h
    by_cases e18 : (T c).1 = 18
    · rw [if_pos e18] at h; exact pGive_sy ho (Or.inl rfl) h
    rw [if_neg e18] at h
    by_cases e19 : (T c).1 = 19
    · rw [if_pos e19] at h; exact pGive_sy ho (Or.inr rfl) h
    rw [if_neg e19] at h
    by_cases e123 : (T c).1 = 123
    · rw [if_pos e123] at h
      exact (prS_sy f 0 o c td kq i0 y (by omega) ho h).1
    rw [if_neg e123] at h
    exact pUse_sy ho h
  | f + 1, t + 2, o, c, td, kq, i0, y, ht, _, h => by omega
end MJB67
end
section
/-! ===== no more numbers are said than STEPS are taken ===== -/
/-- e is no less than how many CALLS are inside a say -/
def YB (rs : List RcM) (z : PB) : List FRM → Nat → Nat → Prop
  | [], _, _ => True
  | f :: fs, k, e => ∃ e1 e2, e1 + e2 ≤ e ∧ (inY (osM rs z f.1) k → 1 ≤ e1) ∧ YB rs z fs f.2.2.2.2 e2
def YI (rs : List RcM) (z : PB) (A : AMS) : Prop := ∃ e, YB rs z A.2.1 A.2.2.1 e ∧ A.2.2.2.2.2.1 + e ≤ A.2.2.2.2.2.2.2.1
def SYX (t : PT) (rs : List RcM) (z : PB) : Prop := ∀ m, m ≤ 384 → isMT t.1 m = true → SYo (i0T t m) (osM rs z m)
section MJB68
variable {T : TT} {N k0 kb wm cm k kk m i0 : Nat} {L : List CD} {t : PT} {rs : List RcM} {z : PB} {tr : Bool} {H : HEAP} {r : Row} {j : JS} {f : FRM} {fs : List FRM} {st : List Int32} {sc : SCL} {A : AMS} {os : List Row}
theorem YI.le (h : YI rs z A) : A.2.2.2.2.2.1 ≤ A.2.2.2.2.2.2.2.1 := by
  obtain ⟨e, _, h⟩ := h
  omega
theorem inY_next (hk : os[k]? = some r) (n1 : ¬ r.1 = 1) (h : inY os (k + 1)) : inY os k := by
  obtain ⟨p, q, rp, rq, h1, h2, h3, h4, h5, h6, h7⟩ := h
  by_cases e : p = k
  · rw [e, hk] at h3
    have e2 := Option.some.inj h3
    rw [← e2] at h4
    exact absurd h4 n1
  · exact ⟨p, q, rp, rq, by omega, by omega, h3, h4, h5, h6, h7⟩
theorem inY_24 (hk : os[k]? = some r) (h24 : r.1 = 24) : ¬ inY os (k + 1) := by
  intro ⟨p, q, rp, rq, h1, h2, h3, h4, h5, h6, h7⟩
  by_cases e : p = k
  · rw [e, hk] at h3
    have e2 := Option.some.inj h3
    rw [← e2, h24] at h4
    exact absurd h4 (by decide)
  · have := nY.e (h7 k r (by omega) (by omega) hk)
    exact this (Or.inr (Or.inr h24))
theorem inY_of (ha : syA os) (hk : os[k]? = some r) (h24 : r.1 = 24) : inY os k := by
  obtain ⟨p, rp, p1, p2, p3, p4⟩ := ha k r hk h24
  exact ⟨p, k, rp, r, p1, Nat.le_refl _, p2, p3, hk, h24, p4⟩
theorem inY_0 : ¬ inY os 0 := by
  intro ⟨p, q, rp, rq, h1, _⟩
  omega
/-- an order of an E leaves something that waits -/
theorem isE_ne {G : GS} (h : isE r) (ok : okG r G) : nxG r G ≠ [] := by
  rcases ok with o | ⟨o, G', eG⟩ | ⟨o, G', eG⟩ | ⟨o, n, G', n6, ob, eG⟩ | ⟨o, n, i, w, G', eG, hi, n6, oa⟩ | ⟨o, n, G', n6, oa, eG⟩ | ⟨o, eG⟩ | ⟨o, eG⟩ | ⟨o, eG⟩ | ⟨o, eG⟩ | ⟨o, eG⟩ | ⟨o, eG⟩
  · rw [nxG_a o]; exact List.cons_ne_nil _ _
  · rw [nxG_9 o, eG]; exact List.cons_ne_nil _ _
  · rw [nxG_n (by rcases o with o | o | o | o <;> rw [o] <;> decide), eG]; exact List.cons_ne_nil _ _
  · rw [nxG_11 o]; exact List.cons_ne_nil _ _
  · rw [nxG_12 o, eG]; exact List.cons_ne_nil _ _
  · rw [nxG_13 o]; exact List.cons_ne_nil _ _
  all_goals
    exfalso
    unfold isE at h
  · rw [o] at h; exact absurd h (by decide)
  · rw [o] at h; exact absurd h (by decide)
  · rw [o] at h; exact absurd h (by decide)
  · rw [o] at h; exact absurd h (by decide)
  · rcases o with o | o | o | o | o
    · rw [o] at h; exact absurd h (by decide)
    · rw [o] at h; exact absurd h (by decide)
    · rw [o] at h; exact absurd h (by decide)
    · rw [o] at h; exact absurd h (by decide)
    · rw [o.1] at h; exact absurd h (by decide)
  · rcases o with o | o | o | o | o | o | o <;> · rw [o] at h; exact absurd h (by decide)
/-- no jump goes into a say -/
theorem inY_j (g : gdGS i0 os) (y : SYo i0 os) (i5 : i0 + os.length < 5000) (hk : os[k]? = some r) (hr : r.1 = 21 ∨ r.1 = 22 ∨ r.1 = 23) {x : Nat} (xl : x ≤ os.length) (hx : r.2.2.1 = nI (i0 + x)) : ¬ inY os x := by
  obtain ⟨g1, g2, g3⟩ := g
  obtain ⟨q1, q2⟩ := g3 k r hk
  have inj : ∀ x', i0 + x' < 5000 → r.2.2.1 = nI (i0 + x') → x' = x := by
    intro x' hb h
    have e := (nI_eq (a := i0 + x') (b := i0 + x) (by omega) (by omega)).mp (h.symm.trans hx)
    omega
  intro ⟨p, q, rp, rq, h1, h2, h3, h4, h5, h6, h7⟩
  by_cases h23 : r.1 = 23
  · obtain ⟨x', r', x1, x2, x3, x4⟩ := q2 h23
    have xl' := (List.getElem?_eq_some_iff.mp x2).1
    have ex := inj x' (by omega) x4
    rw [ex] at x2
    by_cases e : x = q
    · rw [e, h5] at x2
      have e2 := Option.some.inj x2
      rw [← e2, h6] at x3
      exact absurd x3 (by decide)
    · have hE := h7 x r' h1 (by omega) x2
      unfold isE at hE
      rw [x3] at hE
      exact absurd hE (by decide)
  · have h2' : r.1 = 21 ∨ r.1 = 22 := by
      rcases hr with h | h | h
      · exact Or.inl h
      · exact Or.inr h
      · exact absurd h h23
    obtain ⟨v, rv, v1, v2, v3⟩ := y.2 r (List.mem_of_getElem? hk) h2'
    have vl := (List.getElem?_eq_some_iff.mp v2).1
    have ev := inj (v + 1) (by omega) v1
    obtain ⟨x', _, x2, x3, x4⟩ := q1 h2'
    have ex := inj x' (by omega) x3
    rw [ex, ← ev] at x4
    by_cases e : p = v
    · rw [e, v2] at h3
      have e2 := Option.some.inj h3
      rw [← e2] at h4
      exact v3 h4
    · have hE := h7 v rv (by omega) (by omega) v2
      have s := g1
      rw [(List.take_append_drop v os).symm, sdG_app] at s
      have dr : os.drop v = rv :: os.drop (v + 1) := by
        rw [List.drop_eq_getElem_cons vl]
        congr 1
        exact (List.getElem?_eq_some_iff.mp v2).2
      rw [dr] at s
      have ne := isE_ne hE s.2.1
      rw [tk_succ v2, fdG_app] at x4
      exact ne x4
theorem YI.ret {e2 : Nat} {v : Int32} (h2 : YB rs z fs f.2.2.2.2 e2) (hs : sc.2.1 + e2 ≤ sc.2.2.2.1) : YI rs z (aRet (H, f :: fs, k, st, sc) f fs v) := by
  cases fs with
  | nil => exact ⟨0, trivial, by show sc.2.1 + 0 ≤ sc.2.2.2.1; omega⟩
  | cons g gs => exact ⟨e2, h2, hs⟩
/-- one order -/
theorem YI.one (P : PRX T N k0 t rs kb z tr) (Y : SYX t rs z) (hA : AOK T t rs z tr k0 wm cm (H, f :: fs, k, st, sc)) (ph : sc.2.2.2.2.1 = 1) (I : YI rs z (H, f :: fs, k, st, sc)) : YI rs z (aOne T t rs z tr k0 wm cm (H, f :: fs, k, st, sc)) := by
  obtain ⟨j, l, seg, rest, ej, F, hk, ty, est, sl, fm, im⟩ := AOK.info P hA ph
  obtain ⟨e, ⟨e1, e2, he, h1, h2⟩, hs⟩ := I
  have hs' : sc.2.1 + e ≤ sc.2.2.2.1 := hs
  have i5 := P.2.2 f.1 fm im
  have gd := (P.1.2.2 f.1 fm im).1
  have sy := Y f.1 fm im
  obtain ⟨r, hr⟩ : ∃ r, r = aOrd rs z (H, f :: fs, k, st, sc) := ⟨_, rfl⟩
  have hr' : r = ((osM rs z f.1)[k]?).getD oOver := hr
  have hkr : ¬ r.1 = 28 → (osM rs z f.1)[k]? = some r := by
    intro h
    cases q : (osM rs z f.1)[k]? with
    | none =>
      rw [q] at hr'
      exact absurd (by rw [hr']; rfl) h
    | some r0 =>
      rw [q] at hr'
      rw [hr']
      rfl
  obtain ⟨sc', hsc⟩ : ∃ y, y = aTick sc (costs r) := ⟨_, rfl⟩
  have s1 : sc'.2.1 = sc.2.1 := by rw [hsc]; rfl
  have s3 : costs r = true → sc'.2.2.2.1 = sc.2.2.2.1 + 1 := fun q => by rw [hsc]; exact if_pos q
  have s2 : sc.2.2.2.1 ≤ sc'.2.2.2.1 := by
    by_cases q : costs r = true
    · rw [s3 q]; omega
    · rw [hsc]
      exact Nat.le_of_eq (show sc.2.2.2.1 = (if costs r = true then sc.2.2.2.1 + 1 else sc.2.2.2.1) from (if_neg q).symm)
  have eone : aOne T t rs z tr k0 wm cm (H, f :: fs, k, st, sc) = aStep T t.1 (EMx T t tr k0 f.1) j (i0T t f.1) wm cm r (H, f :: fs, k + 1, st, sc') := by
    show aStep T t.1 (EMx T t tr k0 f.1) (jX T t rs z tr k0 f.1 k) (i0T t f.1) wm cm (aOrd rs z (H, f :: fs, k, st, sc)) (H, f :: fs, k + 1, st, aTick sc (costs (aOrd rs z (H, f :: fs, k, st, sc)))) = _
    rw [jX_of ej, ← hr, ← hsc]
  rw [eone]
  have fl : ∀ (x : List Int32) (n p : Int32), YI rs z (aFail (H, f :: fs, k + 1, x, sc') n p) := fun x n p => ⟨0, trivial, by show sc'.2.1 + 0 ≤ sc'.2.2.2.1; omega⟩
  have nx : ∀ (H' : HEAP) (f' : FRM) (st' : List Int32), ¬ r.1 = 1 → ¬ r.1 = 28 → f'.1 = f.1 → f'.2.2.2.2 = f.2.2.2.2 → YI rs z (H', f' :: fs, k + 1, st', sc') := by
    intro H' f' st' n1 n28 g1 g2
    refine ⟨e, ⟨e1, e2, he, fun q => h1 (inY_next (hkr n28) n1 ?_), by rw [g2]; exact h2⟩, by show sc'.2.1 + e ≤ sc'.2.2.2.1; omega⟩
    rw [g1] at q
    exact q
  have rt : ∀ (v : Int32) (x : List Int32), YI rs z (aRet (H, f :: fs, k + 1, x, sc') f fs v) := fun v x => YI.ret h2 (by omega)
  have jp : ∀ (x : Nat) (st' : List Int32), ¬ inY (osM rs z f.1) x → YI rs z (H, f :: fs, x, st', sc') := fun x st' hx => ⟨e2, ⟨0, e2, by omega, fun q => absurd q hx, h2⟩, by show sc'.2.1 + e2 ≤ sc'.2.2.2.1; omega⟩
  by_cases c1 : r.1 = 1
  · have cc : costs r = true := by unfold costs; rw [c1]; decide
    have s4 := s3 cc
    rw [as_1 c1]
    exact ⟨e + 1, ⟨e1 + 1, e2, by omega, fun _ => by omega, h2⟩, by show sc'.2.1 + (e + 1) ≤ sc'.2.2.2.1; omega⟩
  by_cases c28 : r.1 = 28
  · rw [as_28 c28]
    by_cases g : r.2.2.1 = 1
    · rw [if_pos g]; exact rt _ _
    · rw [if_neg g]; exact rt _ _
  have hkk := hkr c28
  by_cases c3 : r.1 = 3
  · rw [as_3 c3]; exact nx _ _ _ c1 c28 rfl rfl
  by_cases c4 : r.1 = 4
  · rw [as_4 c4]; exact nx _ _ _ c1 c28 rfl rfl
  by_cases c5 : r.1 = 5
  · rw [as_5 c5]; exact nx _ _ _ c1 c28 rfl rfl
  by_cases c6 : r.1 = 6
  · rw [as_6 c6]; exact nx _ _ _ c1 c28 rfl rfl
  by_cases c7 : r.1 = 7
  · rw [as_7 c7]
    cases kdE (EMx T t tr k0 f.1) r.2.2.1 with
    | none => exact nx _ _ _ c1 c28 rfl rfl
    | some kx =>
      dsimp only
      by_cases q : wm < bsH T t.1 H H.1 + szO T t.1 (cK kx)
      · rw [if_pos q]; exact fl _ _ _
      · rw [if_neg q]; exact nx _ _ _ c1 c28 rfl rfl
  by_cases c8 : r.1 = 8
  · rw [as_8 c8]; exact nx _ _ _ c1 c28 rfl rfl
  by_cases c9 : r.1 = 9
  · rw [as_9 c9]
    cases two2 r.2.2.1 (st.tail.headD 0) (st.headD 0) with
    | none => exact fl _ _ _
    | some v => exact nx _ _ _ c1 c28 rfl rfl
  by_cases c10 : r.1 = 10
  · rw [as_10 c10]
    by_cases q : st.headD 0 = 0
    · rw [if_pos q]; exact fl _ _ _
    · rw [if_neg q]; exact nx _ _ _ c1 c28 rfl rfl
  by_cases c13 : r.1 = 13
  · rw [as_13 c13, aCall_eq]
    by_cases g1 : st[nN r.2.2.1]?.getD 0 = 0
    · rw [if_pos g1]; exact fl _ _ _
    rw [if_neg g1]
    by_cases g2 : (f :: fs).length = cm
    · rw [if_pos g2]; exact fl _ _ _
    rw [if_neg g2]
    cases memT T t.1 (H.2 (nN (st[nN r.2.2.1]?.getD 0))).1 (nkM T t.1 (j.2.1.headD (0, 0)).1) true with
    | none => exact nx _ _ _ c1 c28 rfl rfl
    | some d => exact ⟨e, ⟨0, e, by omega, fun q => absurd q inY_0, e1, e2, he, fun q => h1 (inY_next hkk c1 q), h2⟩, by show sc'.2.1 + e ≤ sc'.2.2.2.1; omega⟩
  by_cases c14 : r.1 = 14
  · rw [as_14 c14]
    cases kdE (EMx T t tr k0 f.1) r.2.2.1 with
    | none => exact nx _ _ _ c1 c28 rfl rfl
    | some kx =>
      dsimp only
      by_cases q : asO T t.1 H f.1 f.2.1 (st.headD 0) kx = true
      · rw [if_pos q]; exact nx _ _ _ c1 c28 rfl rfl
      · rw [if_neg q]; exact fl _ _ _
  by_cases c17 : r.1 = 17
  · rw [as_17 c17]; exact nx _ _ _ c1 c28 rfl rfl
  by_cases c18 : r.1 = 18
  · rw [as_18 c18]
    by_cases q : st.tail.headD 0 = 0
    · rw [if_pos q]; exact fl _ _ _
    · rw [if_neg q]; exact nx _ _ _ c1 c28 rfl rfl
  by_cases c20 : r.1 = 20
  · rw [as_20 c20]; exact nx _ _ _ c1 c28 rfl rfl
  by_cases cj : r.1 = 21 ∨ r.1 = 22 ∨ r.1 = 23
  · obtain ⟨x, x1, x2, x3, _⟩ := P.jump fm im hkk cj
    have ny := inY_j gd sy i5 hkk cj x1 x2
    rcases cj with cj | cj | cj
    · rw [as_21 cj, x3]
      by_cases g : st.headD 0 = 0
      · rw [if_pos g]; exact jp x _ ny
      · rw [if_neg g]; exact nx _ _ _ c1 c28 rfl rfl
    · rw [as_22 (Or.inl cj), x3]; exact jp x _ ny
    · rw [as_22 (Or.inr cj), x3]; exact jp x _ ny
  by_cases c24 : r.1 = 24
  · rw [as_24 c24]
    have y1 := h1 (inY_of sy.1 hkk c24)
    exact ⟨e2, ⟨0, e2, by omega, fun q => absurd q (inY_24 hkk c24), h2⟩, by show sc'.2.1 + 1 + e2 ≤ sc'.2.2.2.1; omega⟩
  by_cases c25 : r.1 = 25
  · rw [as_25 c25]; exact nx _ _ _ c1 c28 rfl rfl
  · have c22 : ¬ (r.1 = 22 ∨ r.1 = 23) := fun h => cj (Or.inr h)
    have c21 : ¬ r.1 = 21 := fun h => cj (Or.inl h)
    have ee : aStep T t.1 (EMx T t tr k0 f.1) j (i0T t f.1) wm cm r (H, f :: fs, k + 1, st, sc') = (H, f :: fs, k + 1, st, sc') := by
      unfold aStep
      dsimp only
      rw [if_neg c1, if_neg c3, if_neg c4, if_neg c5, if_neg c6, if_neg c7, if_neg c8, if_neg c9, if_neg c10, if_neg c13, if_neg c14, if_neg c17, if_neg c18, if_neg c20, if_neg c21, if_neg c22, if_neg c24, if_neg c25, if_neg c28]
    rw [ee]
    exact nx _ _ _ c1 c28 rfl rfl
end MJB68
end
section
/-! ===== a RUN of the reference ends ===== -/
section MJB69
variable {T : TT} {d N k0 kb b wm cm k kk n left : Nat} {L : List CD} {t : PT} {rs : List RcM} {z : PB} {tr : Bool} {H : HEAP} {r : Row} {j : JS} {f : FRM} {fs : List FRM} {st : List Int32} {sc : SCL} {A B C : AMS} {s : mjSt3}
theorem aRet_st (v : Int32) : (aRet (H, f :: fs, k, st, sc) f fs v).2.2.2.2.2.2.2.1 = sc.2.2.2.1 := by
  cases fs with
  | nil => rfl
  | cons g gs => rfl
/-- an order itself takes no STEP -/
theorem aStep_st {E : EV} {i0 : Nat} : (aStep T L E j i0 wm cm r (H, f :: fs, kk, st, sc)).2.2.2.2.2.2.2.1 = sc.2.2.2.1 :=
  aStep_cs (Pd := fun A => A.2.2.2.2.2.2.2.1 = sc.2.2.2.1) (fun _ _ _ _ => rfl) (fun _ _ => rfl) (fun _ _ => rfl) (fun v _ => aRet_st v) (fun _ _ _ _ _ => rfl)
theorem aOne_st : (aOne T t rs z tr k0 wm cm (H, f :: fs, k, st, sc)).2.2.2.2.2.2.2.1 = if costs (aOrd rs z (H, f :: fs, k, st, sc)) = true then sc.2.2.2.1 + 1 else sc.2.2.2.1 := aStep_st
theorem aOne_len : (aOne T t rs z tr k0 wm cm (H, f :: fs, k, st, sc)).2.1.length ≤ (f :: fs).length + 1 := aStep_len
theorem AOK.one (P : PRX T N k0 t rs kb z tr) (wm4 : wm ≤ 4000) (hA : AOK T t rs z tr k0 wm cm (H, f :: fs, k, st, sc)) (ph : sc.2.2.2.2.1 = 1) : AOK T t rs z tr k0 wm cm (aOne T t rs z tr k0 wm cm (H, f :: fs, k, st, sc)) := by
  obtain ⟨j, l, seg, rest, ej, F, hk, ty, est, sl, fm, im⟩ := AOK.info P hA ph
  obtain ⟨c, hc⟩ : ∃ c, c = costs (aOrd rs z (H, f :: fs, k, st, sc)) := ⟨_, rfl⟩
  have hA' : AOK T t rs z tr k0 wm cm (H, f :: fs, k, st, aTick sc c) := hA
  have ph' : (aTick sc c).2.2.2.2.1 = 1 := ph
  have hA2 := snd_step (r := aOrd rs z (H, f :: fs, k, st, sc)) P wm4 hA' ph' ej rfl
  have eone : aOne T t rs z tr k0 wm cm (H, f :: fs, k, st, sc) = aStep T t.1 (EMx T t tr k0 f.1) j (i0T t f.1) wm cm (aOrd rs z (H, f :: fs, k, st, sc)) (H, f :: fs, k + 1, st, aTick sc c) := by
    show aStep T t.1 (EMx T t tr k0 f.1) (jX T t rs z tr k0 f.1 k) (i0T t f.1) wm cm (aOrd rs z (H, f :: fs, k, st, sc)) (H, f :: fs, k + 1, st, aTick sc (costs (aOrd rs z (H, f :: fs, k, st, sc)))) = _
    rw [jX_of ej, ← hc]
  rw [eone]
  exact hA2
/-- the CALLS of a RUN that goes on -/
theorem AOK.fr (hA : AOK T t rs z tr k0 wm cm A) (ph : A.2.2.2.2.2.2.2.2.1 = 1) : ∃ H f fs k st sc, A = (H, f :: fs, k, st, sc) ∧ sc.2.2.2.2.1 = 1 := by
  obtain ⟨f, fs, e0, _⟩ := hA.2.2.2.1 ph
  obtain ⟨H, gs, k, st, sc⟩ := A
  have e0' : gs = f :: fs := e0
  exact ⟨H, f, fs, k, st, sc, by rw [e0'], ph⟩
theorem cw_big : (f :: fs).length * 5001 ≤ cwA rs z (H, f :: fs, k, st, sc) := by
  show (f :: fs).length * 5001 ≤ (f :: fs).length * 5001 + (if (aOrd rs z (H, f :: fs, k, st, sc)).1 = 2 then 0 else 5000 - k)
  exact Nat.le_add_right _ _
/-- a RUN has an end, or comes to where no STEP is left -/
theorem aRun_some (P : PRX T N k0 t rs kb z tr) (wm4 : wm ≤ 4000) : ∀ (n left : Nat) (A : AMS), AOK T t rs z tr k0 wm cm A → cwA rs z A + 10003 * left < n → ∃ B, aRun T t rs z tr k0 wm cm n left A = some B
  | 0, left, A, hA, h => by omega
  | n + 1, left, A, hA, h => by
    unfold aRun
    by_cases ph : A.2.2.2.2.2.2.2.2.1 = 1
    · rw [if_neg (fun q => q ph)]
      obtain ⟨H, f, fs, k, st, sc, eA, ph'⟩ := hA.fr ph
      have hA1 := hA
      rw [eA] at hA1
      have hA2 := hA1.one P wm4 ph'
      rw [← eA] at hA2
      by_cases c : costs (aOrd rs z A) = true
      · rw [if_pos c]
        by_cases l0 : left = 0
        · rw [if_pos l0]; exact ⟨A, rfl⟩
        · rw [if_neg l0]
          have w1 := cw_le (rs := rs) (z := z) (aOne T t rs z tr k0 wm cm A)
          have w2 : (aOne T t rs z tr k0 wm cm A).2.1.length ≤ (f :: fs).length + 1 := by rw [eA]; exact aOne_len
          have w3 : (f :: fs).length * 5001 ≤ cwA rs z A := by rw [eA]; exact cw_big
          exact aRun_some P wm4 n (left - 1) _ hA2 (by omega)
      · rw [if_neg c]
        have w : cwA rs z (aOne T t rs z tr k0 wm cm A) < cwA rs z A := by
          rw [eA]
          rw [eA] at c
          exact cw_dec P hA1 ph' (by
            cases q : costs (aOrd rs z (H, f :: fs, k, st, sc)) with
            | true => exact absurd q c
            | false => rfl)
        exact aRun_some P wm4 n left _ hA2 (by omega)
    · rw [if_pos ph]; exact ⟨A, rfl⟩
/-- what holds of a RUN's state, and how far its STEPS went -/
theorem aRun_keep (P : PRX T N k0 t rs kb z tr) (Y : SYX t rs z) (wm4 : wm ≤ 4000) : ∀ (n left : Nat) (A B : AMS), AOK T t rs z tr k0 wm cm A → YI rs z A → aRun T t rs z tr k0 wm cm n left A = some B → AOK T t rs z tr k0 wm cm B ∧ YI rs z B ∧ B.2.2.2.2.2.2.2.1 ≤ A.2.2.2.2.2.2.2.1 + left
  | 0, left, A, B, hA, hY, h => by cases h
  | n + 1, left, A, B, hA, hY, h => by
    unfold aRun at h
    by_cases ph : A.2.2.2.2.2.2.2.2.1 = 1
    · rw [if_neg (fun q => q ph)] at h
      obtain ⟨H, f, fs, k, st, sc, eA, ph'⟩ := hA.fr ph
      have hA1 := hA
      rw [eA] at hA1
      have hY1 := hY
      rw [eA] at hY1
      have hA2 := hA1.one P wm4 ph'
      have hY2 := hY1.one P Y hA1 ph'
      have st2 := aOne_st (T := T) (t := t) (rs := rs) (z := z) (tr := tr) (k0 := k0) (wm := wm) (cm := cm) (H := H) (f := f) (fs := fs) (k := k) (st := st) (sc := sc)
      have es : A.2.2.2.2.2.2.2.1 = sc.2.2.2.1 := by rw [eA]
      rw [← eA] at hA2 hY2 st2
      by_cases c : costs (aOrd rs z A) = true
      · rw [if_pos c] at h st2
        by_cases l0 : left = 0
        · rw [if_pos l0] at h
          have eB := Option.some.inj h
          rw [← eB]
          exact ⟨hA, hY, by omega⟩
        · rw [if_neg l0] at h
          obtain ⟨x1, x2, x3⟩ := aRun_keep P Y wm4 n (left - 1) _ B hA2 hY2 h
          exact ⟨x1, x2, by omega⟩
      · rw [if_neg c] at h st2
        obtain ⟨x1, x2, x3⟩ := aRun_keep P Y wm4 n left _ B hA2 hY2 h
        exact ⟨x1, x2, by omega⟩
    · rw [if_pos ph] at h
      have eB := Option.some.inj h
      rw [← eB]
      exact ⟨hA, hY, by omega⟩
/-- the reference's run is the pure one, by STEPS -/
theorem lq_229b (P : PRX T N (800 * b) t rs kb z tr) (Y : SYX t rs z) (hb : b ≤ 1) (wm4 : wm ≤ 4000) (cm4 : cm ≤ 40) (h384 : ∀ c, fldT T t.1 c ≤ 384) : ∀ (n m left : Nat) (A B : AMS) (s : mjSt3), n + 1 < m → left ≤ 2000 → YI rs z A → A.2.2.2.2.2.2.2.1 + left < 100000000 → RIn T N b t rs z tr wm cm A s → aRun T t rs z tr (800 * b) wm cm n left A = some B → ∃ s', RIn T N b t rs z tr wm cm B s' ∧ oRn s s' ∧ L_229_31 (mjF (d + 6)) m 97 (nI left) (if A.2.2.2.2.2.2.2.2.1 = 1 then 1 else 0) (mjW0 s) = some (some (.int (nI B.2.2.2.2.2.2.2.2.1)), mjW0 s')
  | 0, m, left, A, B, s, hm, hl, hY, hs, I, h => by cases h
  | n + 1, 0, left, A, B, s, hm, hl, hY, hs, I, h => by omega
  | n + 1, m + 1, left, A, B, s, hm, hl, hY, hs, I, h => by
    unfold aRun at h
    by_cases ph : A.2.2.2.2.2.2.2.2.1 = 1
    · rw [if_neg (fun q => q ph)] at h
      rw [if_pos ph]
      obtain ⟨f, fs, e0, _⟩ := I.2.2.2.1.2.2.2.1 ph
      obtain ⟨H, gs, k, st, sc⟩ := A
      have e0' : gs = f :: fs := e0
      subst e0'
      have hs0 : sc.2.2.2.1 + left < 100000000 := hs
      have hs1 : sc.2.1 < 100000000 := by
        have : sc.2.1 ≤ sc.2.2.2.1 := hY.le
        omega
      obtain ⟨c1, c2, c3, s1, I1, o1, c4, c5⟩ := one_229 (d := d) P hb wm4 cm4 h384 I ph hs1
      have hY2 := hY.one P Y I.2.2.2.1 ph
      have st2 := aOne_st (T := T) (t := t) (rs := rs) (z := z) (tr := tr) (k0 := 800 * b) (wm := wm) (cm := cm) (H := H) (f := f) (fs := fs) (k := k) (st := st) (sc := sc)
      have h9 := I.2.2.1
      have ei : (5000 : Int32) * nI b + nI (i0T t f.1 + k) = nI (5000 * b + (i0T t f.1 + k)) := by rw [show (5000 : Int32) = nI 5000 from rfl, nI_mul, nI_add]
      have pre : L_229_31 (mjF (d + 6)) (m + 1) 97 (nI left) 1 (mjW0 s) = (if costs (aOrd rs z (H, f :: fs, k, st, sc)) = true then (if nI left ≤ 0 then b_229_72 (mjF (d + 6)) (L_229_31 (mjF (d + 6)) m) 97 (nI left) (nI (5000 * b + (i0T t f.1 + k))) 0 (mjW0 s) else b_229_72 (mjF (d + 6)) (L_229_31 (mjF (d + 6)) m) 97 (nI left) (nI (5000 * b + (i0T t f.1 + k))) 1 (mjW0 s)) else b_229_93 (mjF (d + 6)) (L_229_31 (mjF (d + 6)) m) 97 (nI left) (nI (5000 * b + (i0T t f.1 + k))) (mjW0 s)) := by
        rw [L229_S]
        unfold b_229_31
        rw [if_neg (show ¬ ((1 : Int32) = 0) by decide), xg_97_9, xg_97_119, xg_97_54, h9, c1, ei, wa_143 (by omega), c3, x_230, bI_s, b2_i]
      by_cases hc : costs (aOrd rs z (H, f :: fs, k, st, sc)) = true
      · rw [if_pos hc] at h c5 st2
        rw [pre, if_pos hc]
        by_cases hz : left = 0
        · rw [if_pos hz] at h
          have eB := Option.some.inj h
          rw [hz, if_pos (show nI 0 ≤ (0 : Int32) by decide), ← eB]
          unfold b_229_72
          rw [if_pos rfl]
          obtain ⟨m2, em⟩ : ∃ m2, m = m2 + 1 := ⟨m - 1, by omega⟩
          rw [em, L229_S]
          unfold b_229_31
          rw [if_pos rfl, xg_97_96, I.1.1.1.1]
          exact ⟨s, I, offG.rf, rfl⟩
        · rw [if_neg hz] at h
          rw [if_neg (nI_nle (by omega) (by omega))]
          unfold b_229_72
          have el : nI left + (-1) = nI (left - 1) := by
            have := nI_m (left - 1)
            rw [show left - 1 + 1 = left by omega] at this
            exact this
          rw [if_neg (show ¬ ((1 : Int32) = 0) by decide), xg_97_100, xp_97_100, el, c5]
          obtain ⟨s2, i1, i2, i4⟩ := lq_229b P Y hb wm4 cm4 h384 n m (left - 1) _ B s1 (by omega) (by omega) hY2 (by omega) I1 h
          exact ⟨s2, i1, offG.tr o1 i2, i4⟩
      · rw [if_neg hc] at h c5 st2
        rw [pre, if_neg hc, c5]
        obtain ⟨s2, i1, i2, i4⟩ := lq_229b P Y hb wm4 cm4 h384 n m left _ B s1 (by omega) hl hY2 (by omega) I1 h
        exact ⟨s2, i1, offG.tr o1 i2, i4⟩
    · rw [if_pos ph] at h
      have eB := Option.some.inj h
      rw [if_neg ph, L229_S, ← eB]
      unfold b_229_31
      rw [if_pos rfl, xg_97_96, I.1.1.1.1]
      exact ⟨s, I, offG.rf, rfl⟩
end MJB69
end
section
/-! ===== the class's RUN: one order ===== -/
def CIn (T : TT) (k0 q : Nat) (t : PT) (rs : List RcM) (z : PB) (tr : Bool) (cs : Nat → Nat) (wm cm : Nat) (A : AMS) (s : mjSt3) : Prop := CRn T t.1 (pfC T t rs z tr k0 cs) wm cm (pcO (pfC T t rs z tr k0 cs) A) A s ∧ CPH T t.1 q s ∧ CPC T t rs z tr k0 q cs s ∧ AOK T t rs z tr k0 wm cm A ∧ A.2.2.2.2.1 ≤ 41
/-- the instruction at pc -/
def INS (q : Nat) (s : mjSt3) (pc sz : Nat) (x : Ins) : Prop := (s.1 (q + 25) pc = x.1 ∧ s.1 (q + 26) pc = x.2.1 ∧ s.1 (q + 27) pc = x.2.2) ∧ pc < sz ∧ sz ≤ 3000 ∧ s.1 (q + 24) 3 = nI sz
/-- the next instruction; a STEP -/
def pcN (s : mjSt3) (pc : Nat) : mjSt3 := uI s 82 (upd (s.1 82) 4 (nI pc))
def stN (s : mjSt3) (n : Nat) : mjSt3 := uI s 82 (upd (s.1 82) 12 (nI n))
section MJB70
variable {T : TT} {d N k0 kb wm cm pc k q sz : Nat} {L : List CD} {pf : Nat → Nat → Nat} {t : PT} {rs : List RcM} {z : PB} {tr : Bool} {H : HEAP} {r : Row} {j : JS} {l : List Ins} {f : FRM} {fs : List FRM} {st : List Int32} {sc : SCL} {s s' : mjSt3} {cs : Nat → Nat} {A : AMS} {x : Ins}
theorem CPC.run (C : CPC T t rs z tr k0 q cs s) (hq : isP q) (o : oCn s s') : CPC T t rs z tr k0 q cs s' := by
  have hq' : q = 2 ∨ q = 30 := hq
  exact C.cg (fun h hh => funext fun y => o.1 h y (fun e => by have : 79 ≤ h ∧ h ≤ 90 := e; omega))
theorem INS.run (h : INS q s pc sz x) (hq : isP q) (o : oCn s s') : INS q s' pc sz x := by
  have hq' : q = 2 ∨ q = 30 := hq
  have e : ∀ h, q + 24 ≤ h ∧ h ≤ q + 27 → s'.1 h = s.1 h := fun h hh => funext fun y => o.1 h y (fun e => by have : 79 ≤ h ∧ h ≤ 90 := e; omega)
  obtain ⟨⟨a1, a2, a3⟩, a4, a5, a6⟩ := h
  exact ⟨⟨by rw [e (q + 25) (by omega)]; exact a1, by rw [e (q + 26) (by omega)]; exact a2, by rw [e (q + 27) (by omega)]; exact a3⟩, a4, a5, by rw [e (q + 24) (by omega)]; exact a6⟩
theorem CRn.tick (M : CRn T L pf wm cm pc (H, f :: fs, k, st, sc) s) : CRn T L pf wm cm pc (H, f :: fs, k, st, aTick sc true) (stN s (sc.2.2.2.1 + 1)) := by
  obtain ⟨z1, g1⟩ : ∃ z, z = stN s (sc.2.2.2.1 + 1) := ⟨_, rfl⟩
  rw [← g1]
  unfold stN at g1
  have rr : ∀ h, ¬ h = 82 → z1.1 h = s.1 h := fun h e => by rw [g1]; exact uI_ne _ _ _ _ e
  have v82 : ∀ j, z1.1 82 j = if j = 12 then nI (sc.2.2.2.1 + 1) else s.1 82 j := fun j => by rw [g1, uI_same, upd_g]
  have n : ∀ j, ¬ j = 12 → z1.1 82 j = s.1 82 j := fun j hj => by rw [v82, if_neg hj]
  obtain ⟨⟨⟨a1, a2, a3, a4⟩, ⟨a5, a6, a7⟩, ⟨a8, a9, a10⟩, ⟨a11, a12⟩, a13⟩, hH, hF, hT⟩ := M
  refine ⟨⟨⟨by rw [n 8 (by omega)]; exact a1, by rw [n 9 (by omega)]; exact a2, by rw [n 10 (by omega)]; exact a3, by rw [n 11 (by omega)]; exact a4⟩, ⟨by rw [v82, if_pos rfl]; rfl, by rw [rr 83 (by decide)]; exact a6, by rw [n 13 (by omega)]; exact a7⟩, ⟨by rw [rr 79 (by decide)]; exact a8, by rw [rr 79 (by decide)]; exact a9, by rw [rr 83 (by decide)]; exact a10⟩, ⟨by rw [rr 79 (by decide)]; exact a11, by rw [n 7 (by omega)]; exact a12⟩, fun i h1 h2 => by rw [rr 90 (by decide)]; exact a13 i h1 h2⟩, hH.keep (fun x hx => rr x (by omega)), FRc.keep (fun x hx => rr x (by omega)) _ hF, fun g gs hg => ?_⟩
  obtain ⟨c1, c2, c3⟩ := hT g gs hg
  exact ⟨by rw [n 4 (by omega)]; exact c1, by rw [n 6 (by omega)]; exact c2, STc.low _ (fun j _ => by rw [rr 89 (by decide)]) c3⟩
theorem oCn_pc : oCn s (pcN s pc) := oCn.wr (by omega)
theorem oCn_st {n : Nat} : oCn s (stN s n) := oCn.wr (by omega)
/-- an order of the class -/
theorem one_c (P : PRX T N k0 t rs kb z tr) (wm4 : wm ≤ 4000) (cm4 : cm ≤ 40) (h384 : ∀ c, fldT T t.1 c ≤ 384) (I : CIn T k0 q t rs z tr cs wm cm (H, f :: fs, k, st, sc) s) (ph : sc.2.2.2.2.1 = 1) (hs : sc.2.1 < 100000000) (hkr : (osM rs z f.1)[k]? = some r) : (costs r = false ∧ CIn T k0 q t rs z tr cs wm cm (aOne T t rs z tr k0 wm cm (H, f :: fs, k, st, sc)) s) ∨ ∃ x pc sz, INS q s pc sz x ∧ s.1 82 4 = nI pc ∧ ((x.1 < 10 ∧ costs r = false ∧ ∃ s', mjF (d + 6) 78 [.ref 82, .int x.1, .int x.2.1, .int x.2.2] (mjW0 (pcN s (pc + 1))) = some (none, mjW0 s') ∧ oCn s s' ∧ CIn T k0 q t rs z tr cs wm cm (aOne T t rs z tr k0 wm cm (H, f :: fs, k, st, sc)) s') ∨ ((¬ x.1 < 10) ∧ costs r = true ∧ ∃ s', (x.1 < 17 → mjF (d + 6) 87 [.ref 82, .int x.1, .int x.2.1, .int x.2.2] (mjW0 (stN (pcN s (pc + 1)) (sc.2.2.2.1 + 1))) = some (none, mjW0 s')) ∧ (¬ x.1 < 17 → mjF (d + 6) 85 [.ref 82, .int x.1, .int x.2.2] (mjW0 (stN (pcN s (pc + 1)) (sc.2.2.2.1 + 1))) = some (none, mjW0 s')) ∧ oCn s s' ∧ CIn T k0 q t rs z tr cs wm cm (aOne T t rs z tr k0 wm cm (H, f :: fs, k, st, sc)) s')) := by
  obtain ⟨M, C, Cc, hA, hm⟩ := I
  have hq : isP q := C.1.1.1
  obtain ⟨j, l, seg, rest, ej, F, hk, ty, est, sl, fm, im⟩ := AOK.info P hA ph
  obtain ⟨sz, sz3, hsz, G⟩ := id Cc
  obtain ⟨j', l1, hj, hcl, hle, hln⟩ := (G f.1 fm im).2.1 k r j l hkr ej
  have epc : pfC T t rs z tr k0 cs f.1 k = cs f.1 + l.length := by unfold pfC; rw [lnJ_of ej]
  have epc' : pfC T t rs z tr k0 cs f.1 (k + 1) = cs f.1 + l.length + l1.length := by unfold pfC; rw [hln]; omega
  have M0 : CRn T t.1 (pfC T t rs z tr k0 cs) wm cm (cs f.1 + l.length) (H, f :: fs, k, st, sc) s := by rw [← epc]; exact M
  have h4 : s.1 82 4 = nI (cs f.1 + l.length) := (M0.2.2.2 f fs rfl).1
  have ord : aOrd rs z (H, f :: fs, k, st, sc) = r := by
    show ((osM rs z f.1)[k]?).getD oOver = r
    rw [hkr]
    rfl
  have eone : aOne T t rs z tr k0 wm cm (H, f :: fs, k, st, sc) = aStep T t.1 (EMx T t tr k0 f.1) j (i0T t f.1) wm cm r (H, f :: fs, k + 1, st, aTick sc (costs r)) := by
    show aStep T t.1 (EMx T t tr k0 f.1) (jX T t rs z tr k0 f.1 k) (i0T t f.1) wm cm (aOrd rs z (H, f :: fs, k, st, sc)) (H, f :: fs, k + 1, st, aTick sc (costs (aOrd rs z (H, f :: fs, k, st, sc)))) = _
    rw [jX_of ej, ord]
  have hA2 := hA.one P wm4 ph
  have hl : (f :: fs).length ≤ 40 := Nat.le_trans hA.2.2.1 cm4
  have hm' : sc.1 ≤ 41 := hm
  have sc2 := aStep_sc (T := T) (L := t.1) (E := EMx T t tr k0 f.1) (j := j) (i0 := i0T t f.1) (wm := wm) (cm := cm) (r := r) (H := H) (k := k + 1) (st := st) (sc := aTick sc (costs r)) hm (show sc.2.2.2.2.1 ≤ 3 by omega) hl
  rw [← eone] at sc2
  obtain ⟨s1, g1⟩ : ∃ y, y = pcN s (cs f.1 + l.length + l1.length) := ⟨_, rfl⟩
  have M1 : CRn T t.1 (pfC T t rs z tr k0 cs) wm cm (pfC T t rs z tr k0 cs f.1 (k + 1)) (H, f :: fs, k + 1, st, sc) s1 := by rw [epc', g1]; exact M0.pcs _
  have o1 : oCn s s1 := by rw [g1]; exact oCn_pc
  have fin : ∀ s', CRn T t.1 (pfC T t rs z tr k0 cs) wm cm (pcO (pfC T t rs z tr k0 cs) (aOne T t rs z tr k0 wm cm (H, f :: fs, k, st, sc))) (aOne T t rs z tr k0 wm cm (H, f :: fs, k, st, sc)) s' → oCn s s' → CIn T k0 q t rs z tr cs wm cm (aOne T t rs z tr k0 wm cm (H, f :: fs, k, st, sc)) s' := fun s' h o => ⟨h, C.run o, Cc.run hq o, hA2, sc2.1⟩
  have ins : ∀ x, l1 = [x] → INS q s (cs f.1 + l.length) sz x := by
    intro x hx
    rw [hx] at hcl hle
    exact ⟨hcl 0 x rfl, by rw [List.length_singleton] at hle; omega, sz3, hsz⟩
  cases hc : costs r with
  | false =>
    have et : aTick sc false = sc := rfl
    have g := x_wk (d := d) P (C.run o1) (Cc.run hq o1) hA ph wm4 cm4 (show sc.1 < 100 by omega) hs h384 M1 hkr ej hj
    rw [hc, et] at eone
    rw [← eone] at g
    rcases g with ⟨a1, a2, a3⟩ | ⟨x, a1, ⟨b1, b2', s', b3, b4, b5⟩ | ⟨_, _, b2', _⟩ | ⟨_, _, b2', _⟩⟩
    · refine Or.inl ⟨rfl, fin s ?_ offG.rf⟩
      rw [a3]
      show CRn T t.1 (pfC T t rs z tr k0 cs) wm cm (pfC T t rs z tr k0 cs f.1 (k + 1)) (H, f :: fs, k + 1, st, sc) s
      rw [epc', a1]
      exact M0
    · refine Or.inr ⟨x, cs f.1 + l.length, sz, ins x a1, h4, Or.inl ⟨b1, rfl, s', ?_, offG.tr o1 b4, fin s' b5 (offG.tr o1 b4)⟩⟩
      rw [g1, a1] at b3
      exact b3
    · rw [hc] at b2'; cases b2'
    · rw [hc] at b2'; cases b2'
  | true =>
    obtain ⟨s2, g2⟩ : ∃ y, y = stN s1 (sc.2.2.2.1 + 1) := ⟨_, rfl⟩
    have M2 : CRn T t.1 (pfC T t rs z tr k0 cs) wm cm (pfC T t rs z tr k0 cs f.1 (k + 1)) (H, f :: fs, k + 1, st, aTick sc true) s2 := by rw [g2]; exact M1.tick
    have o2 : oCn s s2 := offG.tr o1 (by rw [g2]; exact oCn_st)
    have hA' : AOK T t rs z tr k0 wm cm (H, f :: fs, k, st, aTick sc true) := hA
    have g := x_wk (d := d) P (C.run o2) (Cc.run hq o2) hA' (show (aTick sc true).2.2.2.2.1 = 1 from ph) wm4 cm4 (show (aTick sc true).1 < 100 by show sc.1 < 100; omega) (show (aTick sc true).2.1 < 100000000 from hs) h384 M2 hkr ej hj
    rw [hc] at eone
    rw [← eone] at g
    rcases g with ⟨_, a2, _⟩ | ⟨x, a1, ⟨_, b2', _⟩ | ⟨b0, b1, b2', s', b3, b4, b5⟩ | ⟨b0, b1, b2', s', b3, b4, b5⟩⟩
    · rw [hc] at a2; cases a2
    · rw [hc] at b2'; cases b2'
    · refine Or.inr ⟨x, cs f.1 + l.length, sz, ins x a1, h4, Or.inr ⟨b0, rfl, s', fun _ => ?_, fun n => absurd b1 n, offG.tr o2 b4, fin s' b5 (offG.tr o2 b4)⟩⟩
      rw [g2, g1, a1] at b3
      exact b3
    · refine Or.inr ⟨x, cs f.1 + l.length, sz, ins x a1, h4, Or.inr ⟨b1, rfl, s', fun n => absurd n b0, fun _ => ?_, offG.tr o2 b4, fin s' b5 (offG.tr o2 b4)⟩⟩
      rw [g2, g1, a1] at b3
      exact b3
/-- the end of a BLOCK -/
theorem end_c (P : PRX T N k0 t rs kb z tr) (wm4 : wm ≤ 4000) (cm4 : cm ≤ 40) (I : CIn T k0 q t rs z tr cs wm cm (H, f :: fs, k, st, sc) s) (ph : sc.2.2.2.2.1 = 1) (hkr : (osM rs z f.1)[k]? = none) : ∃ pc sz s1 s', INS q s pc sz (0, 0, -1) ∧ INS q s1 (pc + 1) sz (9, 0, -1) ∧ s.1 82 4 = nI pc ∧ mjF (d + 6) 78 [.ref 82, .int 0, .int 0, .int (-1)] (mjW0 (pcN s (pc + 1))) = some (none, mjW0 s1) ∧ s1.1 82 4 = nI (pc + 1) ∧ s1.1 82 8 = 1 ∧ s1.2.2 82 3 = q + 24 ∧ mjF (d + 6) 78 [.ref 82, .int 9, .int 0, .int (-1)] (mjW0 (pcN s1 (pc + 1 + 1))) = some (none, mjW0 s') ∧ oCn s s' ∧ CIn T k0 q t rs z tr cs wm cm (aOne T t rs z tr k0 wm cm (H, f :: fs, k, st, sc)) s' := by
  obtain ⟨M, C, Cc, hA, hm⟩ := I
  have hq : isP q := C.1.1.1
  obtain ⟨j, l, seg, rest, ej, F, hk, ty, est, sl, fm, im⟩ := AOK.info P hA ph
  have kl : (osM rs z f.1).length ≤ k := List.getElem?_eq_none_iff.mp hkr
  obtain ⟨sz, sz3, hsz, G⟩ := id Cc
  have ej' : jrun (EMx T t tr k0 f.1) (osM rs z f.1) (jmT T t.1 f.1) = some (j, l) := by
    rw [List.take_of_length_le kl] at ej
    exact ej
  obtain ⟨hcl, hle⟩ := (G f.1 fm im).2.2 j l ej'
  have epc : pfC T t rs z tr k0 cs f.1 k = cs f.1 + l.length := by unfold pfC; rw [lnJ_of ej]
  have M0 : CRn T t.1 (pfC T t rs z tr k0 cs) wm cm (cs f.1 + l.length) (H, f :: fs, k + 1, st, sc) s := by rw [← epc]; exact M
  have h4 : s.1 82 4 = nI (cs f.1 + l.length) := (M0.2.2.2 f fs rfl).1
  have ord : aOrd rs z (H, f :: fs, k, st, sc) = oOver := by
    show ((osM rs z f.1)[k]?).getD oOver = oOver
    rw [hkr]
    rfl
  have eone : aOne T t rs z tr k0 wm cm (H, f :: fs, k, st, sc) = aRet (H, f :: fs, k + 1, st, sc) f fs 0 := by
    show aStep T t.1 (EMx T t tr k0 f.1) (jX T t rs z tr k0 f.1 k) (i0T t f.1) wm cm (aOrd rs z (H, f :: fs, k, st, sc)) (H, f :: fs, k + 1, st, aTick sc (costs (aOrd rs z (H, f :: fs, k, st, sc)))) = _
    rw [ord, as_28 (r := oOver) rfl, if_neg (show ¬ (oOver.2.2.1 = 1) by decide)]
    rfl
  have hA2 := hA.one P wm4 ph
  have hl : (f :: fs).length ≤ 40 := Nat.le_trans hA.2.2.1 cm4
  have fl1 : (f :: fs).length = fs.length + 1 := rfl
  have sc2 := aRet_sc (H := H) (k := k + 1) (f := f) (fs := fs) (st := st) (sc := sc) 0 (show sc.2.2.2.2.1 ≤ 3 by omega)
  rw [eone] at hA2
  rw [eone]
  have i1 : INS q s (cs f.1 + l.length) sz (0, 0, -1) := ⟨hcl 0 _ rfl, by omega, sz3, hsz⟩
  have i2 : INS q s (cs f.1 + l.length + 1) sz (9, 0, -1) := ⟨hcl 1 _ rfl, by omega, sz3, hsz⟩
  obtain ⟨s1, a1, a2, a3⟩ := i_push (d := d + 4) (v := 0) (p := -1) (M0.pcs (cs f.1 + l.length + 1)) (by omega)
  obtain ⟨s2, b1, b2', b3⟩ := i_ret (d := d + 2) (a := 0) (p := -1) (a3.pcs (cs f.1 + l.length + 1 + 1)) (by omega) (by omega)
  have o1 : oCn s s1 := offG.tr oCn_pc a2
  have o2 : oCn s s2 := offG.tr o1 (offG.tr oCn_pc b2')
  have p8 : s1.1 82 8 = nI sc.2.2.2.2.1 := a3.1.1.1
  refine ⟨cs f.1 + l.length, sz, s1, s2, i1, i2.run hq o1, h4, a1, (a3.2.2.2 f fs rfl).1, by rw [p8, ph]; rfl, (C.run o1).2.2, b1, o2, b3, C.run o2, Cc.run hq o2, hA2, by rw [sc2.1]; exact hm⟩
end MJB70
end
