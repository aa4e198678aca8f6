/-! ===== judgeHeads ===== -/
/-- (a) to (e) find nothing -/
def OKh (T : TT) (L : List CD) (tr : Bool) : Prop := (∀ c, c < L.length → OKa T L c) ∧ (∀ c, c < L.length → OKb T L c) ∧ (∀ c, c < L.length → OKr T L c) ∧ (∀ c, c < L.length → OKc T L c) ∧ (∀ c, c < L.length → OKd T L tr c) ∧ ∀ m, m < nMem L → OKe T L m
/-- what the reader left, rows that are clear -/
def RD0 (T : TT) (N q : Nat) (L : List CD) (s : mjSt3) : Prop := (TH T N s ∧ KY T N s ∧ HN T N L ∧ isP q ∧ pnm q s (nmL L) ∧ s.1 q 0 = nI L.length) ∧ RDR L s ∧ RDM T N q L s ∧ (PFi T N L ∧ PFm T N L) ∧ (∀ j, j < 16 → s.1 (q + 5) j = -1 ∧ s.1 (q + 8) j = 0 ∧ s.1 (q + 3) j = nI (inL L j) ∧ s.1 (q + 7) j = nI (oflL L j)) ∧ (∀ j, j < 112 → s.1 (q + 11) j = 0) ∧ (∀ j, j < 256 → s.1 (q + 12) j = -1) ∧ (∀ j, j < 96 → s.2.1 (q + 13) j = 0) ∧ ∀ m, m < nMem L → s.1 (q + 19) m = nI (nuM L m)
/-- the class's rows behind (a) to (e) -/
def HDR (T : TT) (N q : Nat) (L : List CD) (s : mjSt3) : Prop := JX T N q L s ∧ ABK T L q s ∧ INP q s (inL L) (ipT T L) ∧ VWS T L q s ∧ (∀ j, j < L.length → s.1 (q + 8) j = nI (fldT T L j)) ∧ NUr T L q s ∧ KNW q s (knF T L) ∧ (∀ m, m < nMem L → TYr T L q s m) ∧ OBr q s L.length (obT T L)
/-- all that judgeHeads changes -/
def oJH (q : Nat) (s s' : mjSt3) : Prop := (∀ h j, ¬ (c58 h j ∨ (h = 71 ∧ j = 4) ∨ h = q + 4 ∨ h = q + 5 ∨ h = q + 8 ∨ h = q + 11 ∨ h = q + 12 ∨ h = q + 17 ∨ h = q + 19 ∨ h = q + 21) → s'.1 h j = s.1 h j) ∧ (∀ h, ¬ (h = 72 ∨ h = 73 ∨ h = 74 ∨ h = q + 13) → s'.2.1 h = s.2.1 h) ∧ ∀ h, ¬ h = 71 → s'.2.2 h = s.2.2 h
section MJA22
variable {T : TT} {d N q c t n e k u v i m o : Nat} {s s' : mjSt3} {L : List CD} {tr : Bool}
theorem oJH.tr {a b c : mjSt3} (h : oJH q a b) (g : oJH q b c) : oJH q a c := ⟨fun x y z => (g.1 x y z).trans (h.1 x y z), fun x y => (g.2.1 x y).trans (h.2.1 x y), fun x y => (g.2.2 x y).trans (h.2.2 x y)⟩
theorem oJ.H (o : oJ q s s') : oJH q s s' := ⟨fun x y z => o.1 x y (fun w => z (w.elim Or.inl (fun w => Or.inr (Or.inr w)))), fun x z => funext fun y => o.2.1 x y (by omega), fun x _ => by rw [o.2.2]⟩
theorem oJa.H (o : oJa s s') : oJH q s s' := ⟨fun x y z => o.1 x y (fun w => z (Or.inl w)), fun x z => funext fun y => o.2.1 x y (by omega), fun x _ => by rw [o.2.2]⟩
theorem sumN_ge {f : Nat → Nat} : ∀ {n i : Nat}, i < n → f i ≤ sumN f n
  | 0, i, h => by omega
  | n + 1, i, h => by
    show f i ≤ sumN f n + f n
    by_cases e : i = n
    · rw [e]; omega
    · have := sumN_ge (f := f) (n := n) (i := i) (by omega); omega
theorem vw_self (hn : HN T N L) (hc : c < L.length) : vwT (nmL L) (abT T L) c c = some (own (nmL L) c) := by
  unfold vwT vwk
  rw [show fnd _ 16 = some 0 from fnd_some.mpr ⟨by omega, by
    show decide (cK (own (nmL L) c) = c) = true
    exact decide_eq_true (own_c hn hc), fun j hj => absurd hj (by omega)⟩]
  rfl
theorem ofl_fld (hn : HN T N L) : oflL L c ≤ fldT T L c := by
  by_cases hc : c < L.length
  · have := sumN_ge (f := fun a => if (vwT (nmL L) (abT T L) c a).isSome = true then oflL L a else 0) hc
    rw [vw_self hn hc] at this
    exact this
  · have : oflL L c = 0 := by unfold oflL; rw [List.getElem?_eq_none (by omega)]
    omega
theorem cnt_le (b : Bool) (l : List MD) : cntB b l ≤ l.length := List.length_filter_le _ _
theorem cnt_lt {b : Bool} {md : MD} : ∀ {l : List MD} {k : Nat}, l[k]? = some md → md.2.2.1 = b → cntB b (l.take k) < cntB b l
  | [], k, h, _ => by cases h
  | x :: l, 0, h, hb => by
    cases h
    show 0 < cntB b (x :: l)
    unfold cntB
    rw [List.filter_cons, hb, if_pos (by simp)]
    simp
  | x :: l, k + 1, h, hb => by
    have ih := cnt_lt (l := l) (k := k) h hb
    unfold cntB at ih ⊢
    rw [List.take_succ_cons, List.filter_cons, List.filter_cons]
    by_cases g : (x.2.2.1 == b) = true
    · rw [if_pos g, if_pos g, List.length_cons, List.length_cons]; omega
    · rw [if_neg g, if_neg g]; exact ih
theorem nu_lt (hm : m < nMem L) : nuM L m < cntB (mSM L m) ((match L[hmM L m]? with
    | some D => D.2
    | none => [])) := by
  obtain ⟨c, D, k, h1, h2, h3, h4⟩ := FL_ex hm
  unfold nuM
  rw [h4, h1, h3]
  have e : nMem (L.take c) + k - fmL L c = k := by unfold fmL; omega
  rw [e]
  rw [h3] at h2
  exact cnt_lt h2 rfl
theorem num_lt (hn : HN T N L) (h24 : ∀ a, oflL L a ≤ 24) (hc24 : ∀ c, c < L.length → mcL L c ≤ 24) (hm : m < nMem L) (hl : hmM L m < L.length) : numM T L m < 384 := by
  have a := nu_lt hm
  have h16 := hn.1
  obtain ⟨D, hD⟩ : ∃ D, L[hmM L m]? = some D := ⟨_, List.getElem?_eq_getElem hl⟩
  rw [hD] at a
  dsimp only at a
  have e2 := hc24 _ hl
  unfold mcL at e2
  rw [hD] at e2
  dsimp only at e2
  unfold numM
  cases hs : mSM L m with
  | true =>
    rw [if_pos rfl]
    have := cnt_le (mSM L m) D.2
    omega
  | false =>
    rw [if_neg (by decide)]
    rw [hs] at a
    have b : oflL L (hmM L m) = cntB false D.2 := by unfold oflL; rw [hD]
    have f := ofl_fld (T := T) (c := hmM L m) hn
    have g : fldT T L (hmM L m) ≤ 384 := fsum_le h24 h16
    omega
/-- in a bad state the phases do nothing -/
def BJ (q n M : Nat) (s : mjSt3) : Prop := isP q ∧ (s.2.2 71 2 = q ∧ s.2.2 71 3 = q + 14) ∧ (s.1 q 0 = nI n ∧ n ≤ 16) ∧ s.1 (q + 14) 0 = nI M ∧ M ≤ 384
theorem le_or (a : Nat) (h : a < 2 ^ 31) : nI a ≤ 0 ∨ ¬ nI a ≤ 0 := Classical.em _
theorem n_59 {M : Nat} (B : BJ q n M s) (b : bdd N s) : mjF (d + 2) 59 [.ref 71] (mjW0 s) = some (none, mjW0 s) := by
  obtain ⟨hq, ⟨r2, r3⟩, ⟨h0, h16⟩, h14, hM⟩ := B
  rw [e_59]
  unfold f_59 b_59_0
  rw [show mjN = 99999999 + 1 from rfl, L59_S]
  unfold b_59_2
  rw [xg_71_2, r2, yg_0 hq, h0, xg_71_0, xV_58, j_fineB b, bI_s, if_pos rfl, ite_self]
theorem n_63 {M : Nat} (B : BJ q n M s) (b : bdd N s) : mjF (d + 2) 63 [.ref 71] (mjW0 s) = some (none, mjW0 s) := by
  obtain ⟨hq, ⟨r2, r3⟩, ⟨h0, h16⟩, h14, hM⟩ := B
  rw [e_63]
  unfold f_63 b_63_0
  rw [show mjN = 99999999 + 1 from rfl, L63_S]
  unfold b_63_2
  rw [xg_71_2, r2, yg_0 hq, h0, xg_71_0, xV_58, j_fineB b, bI_s, if_pos rfl, ite_self]
theorem n_64 {M : Nat} (B : BJ q n M s) (b : bdd N s) : mjF (d + 2) 64 [.ref 71] (mjW0 s) = some (none, mjW0 s) := by
  obtain ⟨hq, ⟨r2, r3⟩, ⟨h0, h16⟩, h14, hM⟩ := B
  rw [e_64]
  unfold f_64 b_64_0
  rw [show mjN = 99999999 + 1 from rfl, L64_S]
  unfold b_64_2
  rw [xg_71_2, r2, yg_0 hq, h0, xg_71_0, xV_58, j_fineB b, bI_s, if_pos rfl, ite_self]
theorem n_66 {M : Nat} (B : BJ q n M s) (b : bdd N s) : mjF (d + 2) 66 [.ref 71] (mjW0 s) = some (none, mjW0 s) := by
  obtain ⟨hq, ⟨r2, r3⟩, ⟨h0, h16⟩, h14, hM⟩ := B
  rw [e_66]
  unfold f_66 b_66_0
  rw [show mjN = 99999999 + 1 from rfl, L66_S]
  unfold b_66_2
  rw [xg_71_2, r2, yg_0 hq, h0, xg_71_0, xV_58, j_fineB b, bI_s, if_pos rfl, ite_self]
theorem n_70 {M : Nat} (B : BJ q n M s) (b : bdd N s) : mjF (d + 2) 70 [.ref 71] (mjW0 s) = some (none, mjW0 s) := by
  obtain ⟨hq, ⟨r2, r3⟩, ⟨h0, h16⟩, h14, hM⟩ := B
  rw [e_70]
  unfold f_70 b_70_0
  rw [show mjN = 99999999 + 1 from rfl, L70_S]
  unfold b_70_2
  rw [xg_71_3, r3, ymg_0 hq, h14, xg_71_0, xV_58, j_fineB b, bI_s, if_pos rfl, ite_self]
theorem BJ.o {M : Nat} (B : BJ q n M s) (o : oJH q s s') (h2 : s'.2.2 71 = s.2.2 71) : BJ q n M s' := by
  obtain ⟨hq, r, ⟨h0, h16⟩, h14, hM⟩ := B
  have hq' : q = 2 ∨ q = 30 := hq
  refine ⟨hq, by rw [h2]; exact r, ⟨?_, h16⟩, ?_, hM⟩
  · rw [o.1 q 0 (by unfold c58; omega)]; exact h0
  · rw [o.1 (q + 14) 0 (by unfold c58; omega)]; exact h14
theorem n_65b {M : Nat} (B : BJ q n M s) (b : bdd N s) : b_54_65 (mjF (d + 2)) 71 (mjW0 s) = some (none, mjW0 s) := by
  unfold b_54_65
  rw [xV_71, n_66 B b, bN_s, xV_71, n_70 B b, bN_s, xg_71_0, xV_58, j_fineB b, bI_s, if_pos rfl]
/-- judgeHeads -/
theorem x_54 (Z : RD0 T N q L s) (f : ∃ c, c ≤ N ∧ fne s c) : ∃ s', mjF (d + 8) 54 [.ref 71, .ref q, .int (b2 tr)] (mjW0 s) = some (none, mjW0 s') ∧ oJH q s s' ∧ (s'.2.2 71 2 = q ∧ s'.2.2 71 3 = q + 14 ∧ s'.1 71 4 = b2 tr) ∧ ((OKh T L tr ∧ (∃ c, c ≤ N ∧ fne s' c) ∧ HDR T N q L s') ∨ (¬ OKh T L tr ∧ bdd N s')) := by
  obtain ⟨⟨z1, z2, z3, z4, z5, z6⟩, zR, zM, ⟨zi, zm⟩, zr, zk, zv, zo, zn⟩ := Z
  have hq' : q = 2 ∨ q = 30 := z4
  have h16 := z3.1
  obtain ⟨s1, h1⟩ : ∃ s1, s1 = uI (uR (uR s 71 (updR (s.2.2 71) 2 q)) 71 (updR ((uR s 71 (updR (s.2.2 71) 2 q)).2.2 71) 3 (q + 14))) 71 (upd (s.1 71) 4 (b2 tr)) := ⟨_, rfl⟩
  have pre : mjF (d + 8) 54 [.ref 71, .ref q, .int (b2 tr)] (mjW0 s) = _ := e_54 (d := d + 7)
  unfold f_54 b_54_0 at pre
  have nar : vp_nar .boolean (b2 tr) = b2 tr := by cases tr <;> decide
  rw [xp_71_2, yg_14 z4, xp_71_3, xp_71_4] at pre
  have e71 : (uR (uR s 71 (updR (s.2.2 71) 2 q)) 71 (updR ((uR s 71 (updR (s.2.2 71) 2 q)).2.2 71) 3 (q + 14))).1 71 = s.1 71 := rfl
  rw [e71, nar, ← h1, xV_71] at pre
  have i1 : ∀ h j, ¬ (h = 71 ∧ j = 4) → s1.1 h j = s.1 h j := by
    intro h j hh
    rw [h1]
    by_cases e : h = 71
    · rw [e, uI_same, upd_g, if_neg (by omega)]
    · rw [uI_ne _ _ _ _ e]; rfl
  have i1r : ∀ h, ¬ h = 71 → s1.1 h = s.1 h := fun h hh => funext fun j => i1 h j (by omega)
  have l1 : s1.2.1 = s.2.1 := by rw [h1]; rfl
  have r1 : s1.2.2 71 2 = q ∧ s1.2.2 71 3 = q + 14 := by
    rw [h1]
    refine ⟨?_, ?_⟩
    · show (uR (uR s 71 (updR (s.2.2 71) 2 q)) 71 (updR ((uR s 71 (updR (s.2.2 71) 2 q)).2.2 71) 3 (q + 14))).2.2 71 2 = q
      rw [uR_same, uR_same]
      rfl
    · show (uR (uR s 71 (updR (s.2.2 71) 2 q)) 71 (updR ((uR s 71 (updR (s.2.2 71) 2 q)).2.2 71) 3 (q + 14))).2.2 71 3 = q + 14
      rw [uR_same]
      rfl
  have t1 : s1.1 71 4 = b2 tr := by rw [h1, uI_same]; rfl
  have o1 : oJH q s s1 := ⟨fun h j hh => i1 h j (fun x => hh (Or.inr (Or.inl x))), fun h _ => by rw [l1], fun h hh => by
    rw [h1]
    show (uR (uR s 71 (updR (s.2.2 71) 2 q)) 71 (updR ((uR s 71 (updR (s.2.2 71) 2 q)).2.2 71) 3 (q + 14))).2.2 h = _
    rw [uR_ne _ _ _ _ hh, uR_ne _ _ _ _ hh]⟩
  have B1 : JB T N q L s1 := by
    obtain ⟨a, b, c, e⟩ := z1
    refine ⟨⟨by rw [i1r 58 (by decide)]; exact a, b, c, fun k hk => by rw [i1r 60 (by decide), i1r 61 (by decide)]; exact e k hk⟩, z2.lr (by rw [l1]), z3, z4, r1, ?_, ?_, ?_⟩
    · unfold pnm; rw [i1r _ (by omega)]; exact z5
    · rw [i1r _ (by omega)]; exact z6
    · unfold RDR; rw [i1r 65 (by decide), i1r 66 (by decide), i1r 67 (by decide)]; exact zR
  have J1 : BJ q L.length (nMem L) s1 := ⟨z4, r1, ⟨B1.2.2.2.2.2.2.1, h16⟩, by rw [i1r _ (by omega)]; exact zM.2.1, zM.2.2.1⟩
  obtain ⟨cu, hcu, fcu⟩ := f
  have f1 : fne s1 cu := ⟨by rw [i1r 58 (by decide)]; exact fcu.1, by rw [i1r 58 (by decide)]; exact fcu.2⟩
  -- (a)
  obtain ⟨s2, a1, a2, a3, a4, a5⟩ := x_55 (d := d + 4) B1 (GB.of f1 hcu)
  rw [a1, bN_s, xV_71] at pre
  have H2 : oJH q s1 s2 := oJa.H a4
  have R2 : s2.2.2 = s1.2.2 := a4.2.2
  have J2 := J1.o H2 (by rw [R2])
  -- a state that is bad goes on to the end
  have dead : ∀ (z : mjSt3), oJH q s1 z → z.2.2 = s1.2.2 → bdd N z → ¬ OKh T L tr → mjF (d + 8) 54 [.ref 71, .ref q, .int (b2 tr)] (mjW0 s) = some (none, mjW0 z) → ∃ s', mjF (d + 8) 54 [.ref 71, .ref q, .int (b2 tr)] (mjW0 s) = some (none, mjW0 s') ∧ oJH q s s' ∧ (s'.2.2 71 2 = q ∧ s'.2.2 71 3 = q + 14 ∧ s'.1 71 4 = b2 tr) ∧ ((OKh T L tr ∧ (∃ c, c ≤ N ∧ fne s' c) ∧ HDR T N q L s') ∨ (¬ OKh T L tr ∧ bdd N s')) := by
    intro z oz rz bz no pr
    refine ⟨z, pr, o1.tr oz, ⟨by rw [rz]; exact r1.1, by rw [rz]; exact r1.2, ?_⟩, Or.inr ⟨no, bz⟩⟩
    sorry
  sorry
end MJA22
