/-! ===== judgeHeads ===== -/
/-- (a) to (e) find nothing -/
def OKh (T : TT) (L : List CD) (tr : Bool) : Prop := (∀ c, c < L.length → OKa T L c) ∧ (∀ c, c < L.length → OKb T L c) ∧ (∀ c, c < L.length → OKr T L c) ∧ (∀ c, c < L.length → OKc T L c) ∧ (∀ c, c < L.length → OKd T L tr c) ∧ ∀ m, m < nMem L → OKe T L m
/-- what the reader left, rows that are clear -/
def RD0 (T : TT) (N q : Nat) (L : List CD) (s : mjSt3) : Prop := (TH T N s ∧ KY T N s ∧ HN T N L ∧ isP q ∧ pnm q s (nmL L) ∧ s.1 q 0 = nI L.length) ∧ RDR L s ∧ RDM T N q L s ∧ (PFi T N L ∧ PFm T N L) ∧ (∀ j, j < 16 → s.1 (q + 5) j = -1 ∧ s.1 (q + 8) j = 0 ∧ s.1 (q + 3) j = nI (inL L j) ∧ s.1 (q + 7) j = nI (oflL L j)) ∧ (∀ j, j < 112 → s.1 (q + 11) j = 0) ∧ (∀ j, j < 256 → s.1 (q + 12) j = -1) ∧ (∀ j, j < 96 → s.2.1 (q + 13) j = 0) ∧ ∀ m, m < nMem L → s.1 (q + 19) m = nI (nuM L m)
/-- the class's rows behind (a) to (e) -/
def HDR (T : TT) (N q : Nat) (L : List CD) (s : mjSt3) : Prop := JX T N q L s ∧ ABK T L q s ∧ INP q s (inL L) (ipT T L) ∧ VWS T L q s ∧ (∀ j, j < L.length → s.1 (q + 8) j = nI (fldT T L j)) ∧ NUr T L q s ∧ KNW q s (knF T L) ∧ (∀ m, m < nMem L → TYr T L q s m) ∧ OBr q s L.length (obT T L)
/-- all that the phases change; all that judgeHeads changes -/
def oJP (q : Nat) : mjSt3 → mjSt3 → Prop := offG (fun h j => c58 h j ∨ h = q + 4 ∨ h = q + 5 ∨ h = q + 8 ∨ h = q + 11 ∨ h = q + 12 ∨ h = q + 17 ∨ h = q + 19 ∨ h = q + 21) (fun h _ => h = 72 ∨ h = 73 ∨ h = 74 ∨ h = q + 13)
def oJH (q : Nat) (s s' : mjSt3) : Prop := (∀ h j, ¬ (c58 h j ∨ (h = 71 ∧ j = 4) ∨ h = q + 4 ∨ h = q + 5 ∨ h = q + 8 ∨ h = q + 11 ∨ h = q + 12 ∨ h = q + 17 ∨ h = q + 19 ∨ h = q + 21) → s'.1 h j = s.1 h j) ∧ (∀ h, ¬ (h = 72 ∨ h = 73 ∨ h = 74 ∨ h = q + 13) → s'.2.1 h = s.2.1 h) ∧ ∀ h, ¬ h = 71 → s'.2.2 h = s.2.2 h
section MJA22
variable {T : TT} {d N q c t n e k u v i m o : Nat} {s s' : mjSt3} {L : List CD} {tr : Bool}
theorem oJH.trn {a b c : mjSt3} (h : oJH q a b) (g : oJH q b c) : oJH q a c := ⟨fun x y z => (g.1 x y z).trans (h.1 x y z), fun x y => (g.2.1 x y).trans (h.2.1 x y), fun x y => (g.2.2 x y).trans (h.2.2 x y)⟩
theorem oJ.P (o : oJ q s s') : oJP q s s' := offG.mono o (fun _ _ h => h) (fun _ _ h => h.elim (fun h => Or.inr (Or.inr (Or.inl h))) (fun h => Or.inr (Or.inr (Or.inr h))))
theorem oJa.P (o : oJa s s') : oJP q s s' := offG.mono o (fun _ _ h => Or.inl h) (fun _ _ h => h.elim Or.inl (fun h => Or.inr (Or.inl h)))
theorem o58.P (o : o58 s s') : oJP q s s' := offG.mono o (fun _ _ h => Or.inl h) (fun _ _ h => h.elim)
theorem oJP.H (o : oJP q s s') : oJH q s s' := ⟨fun x y z => o.1 x y (fun w => z (w.elim Or.inl (fun w => Or.inr (Or.inr w)))), fun x z => funext fun y => o.2.1 x y z, fun x _ => by rw [o.2.2]⟩
theorem oJP.r (o : oJP q s s') {h : Nat} (hh : ¬ (h = 58 ∨ h = q + 4 ∨ h = q + 5 ∨ h = q + 8 ∨ h = q + 11 ∨ h = q + 12 ∨ h = q + 17 ∨ h = q + 19 ∨ h = q + 21)) : s'.1 h = s.1 h := funext fun j => o.1 h j (by unfold c58; omega)
theorem sumN_ge {f : Nat → Nat} : ∀ {n i : Nat}, i < n → f i ≤ sumN f n
  | 0, i, h => by omega
  | n + 1, i, h => by
    show f i ≤ sumN f n + f n
    by_cases e : i = n
    · rw [e]; omega
    · have := sumN_ge (f := f) (n := n) (i := i) (by omega); omega
theorem vw_self (hn : HN T N L) (hc : c < L.length) : vwT (nmL L) (abT T L) c c = some (own (nmL L) c) := by
  unfold vwT vwk
  rw [show fnd _ 16 = some 0 from fnd_some.mpr ⟨by omega, by
    show decide (cK (own (nmL L) c) = c) = true
    exact decide_eq_true (own_c hn hc), fun j hj => absurd hj (by omega)⟩]
  rfl
theorem ofl_fld (hn : HN T N L) : oflL L c ≤ fldT T L c := by
  by_cases hc : c < L.length
  · have := sumN_ge (f := fun a => if (vwT (nmL L) (abT T L) c a).isSome = true then oflL L a else 0) hc
    rw [vw_self hn hc] at this
    exact this
  · have : oflL L c = 0 := by unfold oflL; rw [List.getElem?_eq_none (by omega)]
    omega
theorem cnt_le (b : Bool) (l : List MD) : cntB b l ≤ l.length := List.length_filter_le _ _
theorem cnt_lt {b : Bool} {md : MD} : ∀ {l : List MD} {k : Nat}, l[k]? = some md → md.2.2.1 = b → cntB b (l.take k) < cntB b l
  | [], k, h, _ => by cases h
  | x :: l, 0, h, hb => by
    have ex : x = md := by simpa using h
    subst ex
    show 0 < cntB b (x :: l)
    unfold cntB
    rw [List.filter_cons, hb, if_pos (by simp)]
    simp
  | x :: l, k + 1, h, hb => by
    have ih := cnt_lt (l := l) (k := k) h hb
    unfold cntB at ih ⊢
    rw [List.take_succ_cons, List.filter_cons, List.filter_cons]
    by_cases g : (x.2.2.1 == b) = true
    · rw [if_pos g, if_pos g, List.length_cons, List.length_cons]; omega
    · rw [if_neg g, if_neg g]; exact ih
theorem nu_lt (hm : m < nMem L) : nuM L m < cntB (mSM L m) ((match L[hmM L m]? with
    | some D => D.2
    | none => [])) := by
  obtain ⟨c, D, k, h1, h2, h3, h4⟩ := FL_ex hm
  unfold nuM
  rw [h4, h1, h3]
  have e : nMem (L.take c) + k - fmL L c = k := by unfold fmL; omega
  rw [e]
  rw [h3] at h2
  exact cnt_lt h2 rfl
theorem num_lt (hn : HN T N L) (h24 : ∀ a, oflL L a ≤ 24) (hc24 : ∀ c, c < L.length → mcL L c ≤ 24) (hm : m < nMem L) (hl : hmM L m < L.length) : numM T L m < 384 := by
  have a := nu_lt hm
  have h16 := hn.1
  obtain ⟨D, hD⟩ : ∃ D, L[hmM L m]? = some D := ⟨_, List.getElem?_eq_getElem hl⟩
  rw [hD] at a
  dsimp only at a
  have e2 := hc24 _ hl
  unfold mcL at e2
  rw [hD] at e2
  dsimp only at e2
  unfold numM
  cases hs : mSM L m with
  | true =>
    rw [if_pos rfl]
    have := cnt_le (mSM L m) D.2
    omega
  | false =>
    rw [if_neg (by decide)]
    rw [hs] at a
    have b : oflL L (hmM L m) = cntB false D.2 := by unfold oflL; rw [hD]
    have f := ofl_fld (T := T) (c := hmM L m) hn
    have g : fldT T L (hmM L m) ≤ 384 := fsum_le h24 h16
    omega
/-- in a bad state the phases do nothing -/
def BJ (q n M : Nat) (s : mjSt3) : Prop := isP q ∧ (s.2.2 71 2 = q ∧ s.2.2 71 3 = q + 14) ∧ (s.1 q 0 = nI n ∧ n ≤ 16) ∧ s.1 (q + 14) 0 = nI M ∧ M ≤ 384
theorem le_or (a : Nat) (h : a < 2 ^ 31) : nI a ≤ 0 ∨ ¬ nI a ≤ 0 := Classical.em _
theorem n_59 {M : Nat} (B : BJ q n M s) (b : bdd N s) : mjF (d + 2) 59 [.ref 71] (mjW0 s) = some (none, mjW0 s) := by
  obtain ⟨hq, ⟨r2, r3⟩, ⟨h0, h16⟩, h14, hM⟩ := B
  rw [e_59]
  unfold f_59 b_59_0
  rw [show mjN = 99999999 + 1 from rfl, L59_S]
  unfold b_59_2
  rw [xg_71_2, r2, yg_0 hq, h0, xg_71_0, xV_58, j_fineB b, bI_s, if_pos rfl, ite_self]
theorem n_63 {M : Nat} (B : BJ q n M s) (b : bdd N s) : mjF (d + 2) 63 [.ref 71] (mjW0 s) = some (none, mjW0 s) := by
  obtain ⟨hq, ⟨r2, r3⟩, ⟨h0, h16⟩, h14, hM⟩ := B
  rw [e_63]
  unfold f_63 b_63_0
  rw [show mjN = 99999999 + 1 from rfl, L63_S]
  unfold b_63_2
  rw [xg_71_2, r2, yg_0 hq, h0, xg_71_0, xV_58, j_fineB b, bI_s, if_pos rfl, ite_self]
theorem n_64 {M : Nat} (B : BJ q n M s) (b : bdd N s) : mjF (d + 2) 64 [.ref 71] (mjW0 s) = some (none, mjW0 s) := by
  obtain ⟨hq, ⟨r2, r3⟩, ⟨h0, h16⟩, h14, hM⟩ := B
  rw [e_64]
  unfold f_64 b_64_0
  rw [show mjN = 99999999 + 1 from rfl, L64_S]
  unfold b_64_2
  rw [xg_71_2, r2, yg_0 hq, h0, xg_71_0, xV_58, j_fineB b, bI_s, if_pos rfl, ite_self]
theorem n_66 {M : Nat} (B : BJ q n M s) (b : bdd N s) : mjF (d + 2) 66 [.ref 71] (mjW0 s) = some (none, mjW0 s) := by
  obtain ⟨hq, ⟨r2, r3⟩, ⟨h0, h16⟩, h14, hM⟩ := B
  rw [e_66]
  unfold f_66 b_66_0
  rw [show mjN = 99999999 + 1 from rfl, L66_S]
  unfold b_66_2
  rw [xg_71_2, r2, yg_0 hq, h0, xg_71_0, xV_58, j_fineB b, bI_s, if_pos rfl, ite_self]
theorem n_70 {M : Nat} (B : BJ q n M s) (b : bdd N s) : mjF (d + 2) 70 [.ref 71] (mjW0 s) = some (none, mjW0 s) := by
  obtain ⟨hq, ⟨r2, r3⟩, ⟨h0, h16⟩, h14, hM⟩ := B
  rw [e_70]
  unfold f_70 b_70_0
  rw [show mjN = 99999999 + 1 from rfl, L70_S]
  unfold b_70_2
  rw [xg_71_3, r3, ymg_0 hq, h14, xg_71_0, xV_58, j_fineB b, bI_s, if_pos rfl, ite_self]
theorem BJ.off {M : Nat} (B : BJ q n M s) (o : oJP q s s') : BJ q n M s' := by
  obtain ⟨hq, r, ⟨h0, h16⟩, h14, hM⟩ := B
  have hq' : q = 2 ∨ q = 30 := hq
  exact ⟨hq, by rw [o.2.2]; exact r, ⟨by rw [o.r (by omega)]; exact h0, h16⟩, by rw [o.r (by omega)]; exact h14, hM⟩
theorem n_65b {M : Nat} (B : BJ q n M s) (b : bdd N s) : b_54_65 (mjF (d + 2)) 71 (mjW0 s) = some (none, mjW0 s) := by
  unfold b_54_65
  rw [xV_71, n_66 B b, bN_s, xV_71, n_70 B b, bN_s, xg_71_0, xV_58, j_fineB b, bI_s, if_pos rfl]
/-- judgeHeads -/
theorem x_54 (Z : RD0 T N q L s) (f : ∃ c, c ≤ N ∧ fne s c) : ∃ s', mjF (d + 8) 54 [.ref 71, .ref q, .int (b2 tr)] (mjW0 s) = some (none, mjW0 s') ∧ oJH q s s' ∧ (s'.2.2 71 2 = q ∧ s'.2.2 71 3 = q + 14 ∧ s'.1 71 4 = b2 tr) ∧ ((OKh T L tr ∧ (∃ c, c ≤ N ∧ fne s' c) ∧ HDR T N q L s' ∧ s'.1 (q + 17) 384 = s.1 (q + 17) 384) ∨ (¬ OKh T L tr ∧ bdd N s')) := by
  obtain ⟨⟨z1, z2, z3, z4, z5, z6⟩, zR, zM, ⟨zi, zm⟩, zr, zk, zv, zo, zn⟩ := Z
  have hq' : q = 2 ∨ q = 30 := z4
  have h16 := z3.1
  have h71 : ¬ (71 = 58 ∨ 71 = q + 4 ∨ 71 = q + 5 ∨ 71 = q + 8 ∨ 71 = q + 11 ∨ 71 = q + 12 ∨ 71 = q + 17 ∨ 71 = q + 19 ∨ 71 = q + 21) := by omega
  obtain ⟨s1, h1⟩ : ∃ s1, s1 = uI (uR (uR s 71 (updR (s.2.2 71) 2 q)) 71 (updR ((uR s 71 (updR (s.2.2 71) 2 q)).2.2 71) 3 (q + 14))) 71 (upd (s.1 71) 4 (b2 tr)) := ⟨_, rfl⟩
  have pre : mjF (d + 8) 54 [.ref 71, .ref q, .int (b2 tr)] (mjW0 s) = _ := e_54 (d := d + 7)
  unfold f_54 b_54_0 at pre
  rw [xp_71_2, yg_14 z4, xp_71_3, xp_71_4 (by cases tr <;> rfl)] at pre
  have e71 : (uR (uR s 71 (updR (s.2.2 71) 2 q)) 71 (updR ((uR s 71 (updR (s.2.2 71) 2 q)).2.2 71) 3 (q + 14))).1 71 = s.1 71 := rfl
  rw [e71, ← h1, xV_71] at pre
  have i1 : ∀ h j, ¬ (h = 71 ∧ j = 4) → s1.1 h j = s.1 h j := by
    intro h j hh
    rw [h1]
    by_cases e : h = 71
    · rw [e, uI_same, upd_g, if_neg (by omega)]
    · rw [uI_ne _ _ _ _ e]; rfl
  have i1r : ∀ h, ¬ h = 71 → s1.1 h = s.1 h := fun h hh => funext fun j => i1 h j (by omega)
  have l1 : s1.2.1 = s.2.1 := by rw [h1]; rfl
  have r1 : s1.2.2 71 2 = q ∧ s1.2.2 71 3 = q + 14 := by
    rw [h1]
    refine ⟨?_, ?_⟩
    · show (uR (uR s 71 (updR (s.2.2 71) 2 q)) 71 (updR ((uR s 71 (updR (s.2.2 71) 2 q)).2.2 71) 3 (q + 14))).2.2 71 2 = q
      rw [uR_same, uR_same]
      rfl
    · show (uR (uR s 71 (updR (s.2.2 71) 2 q)) 71 (updR ((uR s 71 (updR (s.2.2 71) 2 q)).2.2 71) 3 (q + 14))).2.2 71 3 = q + 14
      rw [uR_same]
      rfl
  have t1 : s1.1 71 4 = b2 tr := by rw [h1, uI_same]; rfl
  have o1 : oJH q s s1 := ⟨fun h j hh => i1 h j (fun x => hh (Or.inr (Or.inl x))), fun h _ => by rw [l1], fun h hh => by
    rw [h1]
    show (uR (uR s 71 (updR (s.2.2 71) 2 q)) 71 (updR ((uR s 71 (updR (s.2.2 71) 2 q)).2.2 71) 3 (q + 14))).2.2 h = _
    rw [uR_ne _ _ _ _ hh, uR_ne _ _ _ _ hh]⟩
  have B1 : JB T N q L s1 := by
    obtain ⟨a, b, c, e⟩ := z1
    refine ⟨⟨by rw [i1r 58 (by decide)]; exact a, b, c, fun k hk => by rw [i1r 60 (by decide), i1r 61 (by decide)]; exact e k hk⟩, z2.lr (by rw [l1]), z3, z4, r1, ?_, ?_, ?_⟩
    · unfold pnm; rw [i1r _ (by omega)]; exact z5
    · rw [i1r _ (by omega)]; exact z6
    · unfold RDR; rw [i1r 65 (by decide), i1r 66 (by decide), i1r 67 (by decide)]; exact zR
  have J1 : BJ q L.length (nMem L) s1 := ⟨z4, r1, ⟨B1.2.2.2.2.2.2.1, h16⟩, by rw [i1r _ (by omega)]; exact zM.2.1, zM.2.2.1⟩
  obtain ⟨cu, hcu, fcu⟩ := f
  have f1 : fne s1 cu := ⟨by rw [i1r 58 (by decide)]; exact fcu.1, by rw [i1r 58 (by decide)]; exact fcu.2⟩
  -- (a)
  obtain ⟨s2, a1, a2, a3, a4, a5⟩ := x_55 (d := d + 4) B1 (GB.of f1 hcu)
  rw [a1, bN_s, xV_71] at pre
  have P2 : oJP q s1 s2 := a4.P
  -- a state that is bad goes on to the end
  have fin : ∀ (z : mjSt3), oJP q s1 z → mjF (d + 8) 54 [.ref 71, .ref q, .int (b2 tr)] (mjW0 s) = some (none, mjW0 z) → ((OKh T L tr ∧ (∃ c, c ≤ N ∧ fne z c) ∧ HDR T N q L z ∧ z.1 (q + 17) 384 = s.1 (q + 17) 384) ∨ (¬ OKh T L tr ∧ bdd N z)) → ∃ s', mjF (d + 8) 54 [.ref 71, .ref q, .int (b2 tr)] (mjW0 s) = some (none, mjW0 s') ∧ oJH q s s' ∧ (s'.2.2 71 2 = q ∧ s'.2.2 71 3 = q + 14 ∧ s'.1 71 4 = b2 tr) ∧ ((OKh T L tr ∧ (∃ c, c ≤ N ∧ fne s' c) ∧ HDR T N q L s' ∧ s'.1 (q + 17) 384 = s.1 (q + 17) 384) ∨ (¬ OKh T L tr ∧ bdd N s')) := by
    intro z oz pr w
    exact ⟨z, pr, oJH.trn o1 oz.H, ⟨by rw [oz.2.2]; exact r1.1, by rw [oz.2.2]; exact r1.2, by rw [oz.r (h := 71) h71]; exact t1⟩, w⟩
  by_cases F2 : s2.1 58 7 = 0
  case neg =>
    have b := a2.b F2
    have J := BJ.off J1 P2
    rw [n_59 (d := d + 5) J b, bN_s, xV_71, n_63 (d := d + 5) J b, bN_s, xV_71, n_64 (d := d + 5) J b, bN_s, xg_71_0, xV_58, j_fineB b, bI_s, if_pos rfl, n_65b (d := d + 5) J b] at pre
    exact fin s2 P2 pre (Or.inr ⟨fun k => F2 (a3.mpr ⟨f1.2, k.1⟩), b⟩)
  have ka := (a3.mp F2).2
  have X2 := JX.of (B1.Ja a4) (a5 F2)
  have D2 : RDR L s2 := (B1.Ja a4).2.2.2.2.2.2.2
  -- (b)
  obtain ⟨s3, b1, b2', b3, b4, b5⟩ := x_59 (d := d + 3) zi (tr := tr) X2 (by rw [P2.r (by omega)]; exact t1) D2 a2 (fun j hj => by rw [a4.1 (q + 5) j (by omega), i1r _ (by omega)]; exact (zr j hj).1)
  rw [b1, bN_s, xV_71] at pre
  have j3 : oJ q s2 s3 := b4.J (by omega)
  have P3 : oJP q s1 s3 := P2.tr j3.P
  have X3 := X2.oJ j3
  have D3 := D2.oJ z4 j3
  by_cases F3 : s3.1 58 7 = 0
  case neg =>
    have b := b2'.b F3
    have J := BJ.off J1 P3
    rw [n_63 (d := d + 5) J b, bN_s, xV_71, n_64 (d := d + 5) J b, bN_s, xg_71_0, xV_58, j_fineB b, bI_s, if_pos rfl, n_65b (d := d + 5) J b] at pre
    exact fin s3 P3 pre (Or.inr ⟨fun k => F3 (b3.mpr ⟨F2, k.2.1⟩), b⟩)
  have kb := (b3.mp F3).2
  have A3 : ABK T L q s3 := b5 F3
  -- a CLASS above itself
  obtain ⟨s4, c1, c2, c3, c4⟩ := x_63 (d := d + 4) zi X3 D3 A3 b2'
  rw [c1, bN_s, xV_71] at pre
  have P4 : oJP q s1 s4 := P3.tr c4.P
  have X4 := X3.o58 c4
  have D4 : RDR L s4 := by unfold RDR; rw [c4.r (by decide), c4.r (by decide), c4.r (by decide)]; exact D3
  have A4 : ABK T L q s4 := by unfold ABK; rw [c4.r (by omega)]; exact A3
  by_cases F4 : s4.1 58 7 = 0
  case neg =>
    have b := c2.b F4
    have J := BJ.off J1 P4
    rw [n_64 (d := d + 5) J b, bN_s, xg_71_0, xV_58, j_fineB b, bI_s, if_pos rfl, n_65b (d := d + 5) J b] at pre
    exact fin s4 P4 pre (Or.inr ⟨fun k => F4 (c3.mpr ⟨F3, k.2.2.1⟩), b⟩)
  have kr := (c3.mp F4).2
  have Ac : ACY T N L := ⟨z3, noR_of kr⟩
  -- (c)
  obtain ⟨s5, e1, e2, e3, e4, e5⟩ := x_64 (d := d + 4) zi X4 D4 (fun j hj => by rw [P4.r (by omega), i1r _ (by omega)]; exact (zr j hj).2.2.1) c2
  rw [e1, bN_s, xg_71_0, xV_58] at pre
  have j5 : oJ q s4 s5 := e4.J (by omega)
  have P5 : oJP q s1 s5 := P4.tr j5.P
  have X5 := X4.oJ j5
  have D5 := D4.oJ z4 j5
  have A5 : ABK T L q s5 := by unfold ABK; rw [e4.r (by omega) (by omega)]; exact A4
  by_cases F5 : s5.1 58 7 = 0
  case neg =>
    have b := e2.b F5
    have J := BJ.off J1 P5
    rw [j_fineB b, bI_s, if_pos rfl, n_65b (d := d + 5) J b] at pre
    exact fin s5 P5 pre (Or.inr ⟨fun k => F5 (e3.mpr ⟨F4, k.2.2.2.1⟩), b⟩)
  have kc := (e3.mp F5).2
  have I5 := e5 F5
  obtain ⟨c5, hc5, f5⟩ := e2.f F5
  rw [j_fine f5, bI_s, if_neg (by decide), xg_71_2, X5.2.2.2.2.2.1.1, yV z4] at pre
  have q35 : ∀ h, h = q + 8 ∨ h = q + 11 ∨ h = q + 12 ∨ h = q + 7 ∨ h = q + 19 ∨ h = q + 17 → s5.1 h = s.1 h := by
    intro h hh
    rw [e4.r (by omega) (by omega), c4.r (by omega), b4.r (by omega) (by omega), funext fun j => a4.1 h j (by omega), i1r h (by omega)]
  -- the views
  obtain ⟨s6, g1, g2, g3, g4⟩ := x_110 (d := d + 4) Ac z4 X5.2.2.2.2.2.2.2 X5.2.2.2.2.2.2.1 A5 (fun j hj => by rw [q35 _ (by omega)]; exact zv j hj)
  rw [g1, bN_s, xg_71_2] at pre
  have j6 : oJ q s5 s6 := g2.J (by omega)
  have X6 := X5.oJ j6
  have V6 : VWS T L q s6 := g3
  have M6 : RDM T N q L s6 := by
    have M1 : RDM T N q L s1 := by
      unfold RDM
      rw [i1r _ (by omega), i1r _ (by omega), i1r _ (by omega), i1r _ (by omega), i1r 68 (by decide), i1r 69 (by decide), i1r _ (by omega), i1r _ (by omega), l1]
      exact zM
    have M2 : RDM T N q L s2 := by
      have r : ∀ h, ¬ h = 58 → s2.1 h = s1.1 h := fun h hh => funext fun j => a4.1 h j (fun x => hh x.1)
      have l : ∀ h, ¬ h = 72 → ¬ h = 73 → s2.2.1 h = s1.2.1 h := fun h x y => funext fun j => a4.2.1 h j (by omega)
      unfold RDM
      rw [r _ (by omega), r _ (by omega), r _ (by omega), r _ (by omega), r 68 (by decide), r 69 (by decide), r _ (by omega), r _ (by omega), l _ (by omega) (by omega), l 62 (by omega) (by omega)]
      exact M1
    have jc : oJ q s3 s4 := offG.mono c4 (fun _ _ h => Or.inl h) (fun _ _ h => h.elim)
    exact (((M2.oJ z4 j3).oJ z4 jc).oJ z4 j5).oJ z4 j6
  have h24 : ∀ a, oflL L a ≤ 24 := by
    intro a
    unfold oflL
    cases hD : L[a]? with
    | none => show 0 ≤ 24; omega
    | some D =>
      have hl := (List.getElem?_eq_some_iff.mp hD).1
      have := (zM.2.2.2.1 a hl).1
      unfold mcL at this
      rw [hD] at this
      have := cnt_le false D.2
      dsimp only at *
      omega
  have q36 : ∀ h, h = q + 8 ∨ h = q + 11 ∨ h = q + 7 ∨ h = q + 19 ∨ h = q + 17 → s6.1 h = s.1 h := by
    intro h hh
    rw [g2.r (by omega) (by omega), q35 h (by omega)]
  -- FIELDS
  obtain ⟨s7, k1, k2, k3, k4, k5, k6⟩ := lq_113 (d := d + 5) (M := nMem L) (hm := hmM L) (mS := mSM L) (nu := nuM L) z3 z4 h24 (fun c => ofl_fld z3) L.length 0 mjN s6 (by omega) (by have := mjN_v; omega) X6.2.2.2.2.2.2.2 V6 ⟨M6.2.1, M6.2.2.1, fun m hm => ⟨(M6.2.2.2.2 m hm).1, by have := (M6.2.2.2.2 m hm).2.1; omega, (M6.2.2.2.2 m hm).2.2.2.2.2.1⟩⟩ (fun m hm => (M6.2.2.2.2 m hm).2.1) (fun a ha => by rw [q36 _ (by omega)]; exact (zr a ha).2.2.2) (fun j hj => absurd hj (by omega)) (fun j _ hj => by rw [q36 _ (by omega)]; exact (zr j hj).2.1) (fun j hj => by rw [q36 _ (by omega)]; exact zn j hj)
  have e113 : mjF (d + 7) 113 [.ref q] (mjW0 s6) = some (none, mjW0 s7) := by
    rw [e_113]
    unfold f_113 b_113_0
    exact k1
  rw [X6.2.2.2.2.2.1.1, yV z4, e113, bN_s, xg_71_2] at pre
  have X7 := X6.oJ k2
  have I7 : INP q s7 (inL L) (ipT T L) := by
    unfold INP
    rw [k3 _ (by omega) (by omega), k3 _ (by omega) (by omega), g2.r (by omega) (by omega), g2.r (by omega) (by omega)]
    exact I5
  -- what is known
  obtain ⟨s8, m1, m2, m3, m4⟩ := x_115 (d := d + 4) z3 z4 X7.2.2.2.2.2.2.2 X7.2.2.2.2.2.2.1 I7 (fun j hj => by rw [k3 _ (by omega) (by omega), q36 _ (by omega)]; exact zk j hj)
  rw [X7.2.2.2.2.2.1.1, yV z4, m1, bN_s] at pre
  have j8 : oJ q s7 s8 := m2.J (by omega)
  have X8 := X7.oJ j8
  have r58 : oJ q s5 s8 := j6.tr (k2.tr j8)
  have A8 : ABK T L q s8 := by unfold ABK; rw [m2.r (by omega) (by omega), k3 _ (by omega) (by omega), g2.r (by omega) (by omega)]; exact A5
  have I8 : INP q s8 (inL L) (ipT T L) := by unfold INP; rw [m2.r (by omega) (by omega), m2.r (by omega) (by omega)]; exact I7
  have V8 : VWS T L q s8 := by unfold VWS; rw [m2.r (by omega) (by omega), k3 _ (by omega) (by omega)]; exact V6
  have M8 : RDM T N q L s8 := (M6.oJ z4 k2).oJ z4 j8
  have D8 : RDR L s8 := D5.oJ z4 r58
  have e58 : s8.1 58 = s5.1 58 := by rw [m4, k3 58 (by omega) (by omega), g4]
  have g8 : GB N s8 := e2.cg e58
  have F8 : s8.1 58 7 = 0 := by rw [e58]; exact F5
  have P8 : oJP q s1 s8 := P5.tr r58.P
  unfold b_54_65 at pre
  -- (d)
  obtain ⟨s9, n1, n2, n3, n4, n5⟩ := x_66 (d := d + 1) zm zi (tr := tr) X8 D8 A8 M8 (by rw [P8.r (by omega)]; exact t1) m3 I8 g8
  rw [xV_71, n1, bN_s, xV_71] at pre
  have P9 : oJP q s1 s9 := P8.tr n4.J.P
  by_cases F9 : s9.1 58 7 = 0
  case neg =>
    have b := n2.b F9
    have J := BJ.off J1 P9
    rw [n_70 (d := d + 5) J b, bN_s, xg_71_0, xV_58, j_fineB b, bI_s, if_pos rfl] at pre
    exact fin s9 P9 pre (Or.inr ⟨fun k => F9 (n3.mpr ⟨F8, k.2.2.2.2.1⟩), b⟩)
  have kd := (n3.mp F9).2
  have Y9 := n5 F9
  have X9 := X8.oJ n4.J
  have A9 : ABK T L q s9 := by unfold ABK; rw [n4.r (by omega) (by omega) (by omega)]; exact A8
  have V9 : VWS T L q s9 := by unfold VWS; rw [n4.r (by omega) (by omega) (by omega)]; exact V8
  have M9 := M8.oJ z4 n4.J
  -- (e)
  obtain ⟨sA, p1, p2, p3, p4⟩ := lq_70 (d := d + 2) zm Ac (nMem L) 0 mjN s9 (by omega) (by have := zM.2.2.1; have := mjN_v; omega) X9 A9 M9 V9 Y9 n2
  have e70 : mjF (d + 7) 70 [.ref 71] (mjW0 s9) = some (none, mjW0 sA) := by
    rw [e_70]
    unfold f_70 b_70_0
    exact p1
  rw [e70, bN_s, xg_71_0, xV_58] at pre
  have PA : oJP q s1 sA := P9.tr p4.P
  by_cases FA : sA.1 58 7 = 0
  case neg =>
    have b := p2.b FA
    rw [j_fineB b, bI_s, if_pos rfl] at pre
    exact fin sA PA pre (Or.inr ⟨fun k => FA (p3.mpr ⟨F9, fun j _ hj => k.2.2.2.2.2 j hj⟩), b⟩)
  have ke : ∀ m, m < nMem L → OKe T L m := fun m hm => (p3.mp FA).2 m (by omega) hm
  obtain ⟨cA, hcA, fA⟩ := p2.f FA
  have XA := X9.o58 p4
  rw [j_fine fA, bI_s, if_neg (by decide), xg_71_2, XA.2.2.2.2.2.1.1, yV z4] at pre
  have VA : VWS T L q sA := by unfold VWS; rw [p4.r (by omega)]; exact V9
  have jA : oJ q s9 sA := offG.mono p4 (fun _ _ h => Or.inl h) (fun _ _ h => h.elim)
  have MA := M9.oJ z4 jA
  have YA : ∀ m, m < nMem L → TYr T L q sA m := fun m hm => by unfold TYr; rw [p4.r (by omega), p4.r (by omega)]; exact Y9 m hm
  have UA : NUr T L q sA := fun m hm => by
    refine ⟨?_, num_lt z3 h24 (fun c hc => (zM.2.2.2.1 c hc).1) hm (zM.2.2.2.2 m hm).2.1⟩
    rw [p4.r (by omega), n4.r (by omega) (by omega) (by omega), m2.r (by omega) (by omega), k6 m hm]
    rfl
  obtain ⟨sB, t1', t2, t3⟩ := x_120 (d := d + 5) z3 z4 XA.2.2.2.2.2.2.2 MA VA YA UA (fun j hj => by
    rw [p4.l, n4.2.1 (q + 13) j (by omega), m2.l, k4, g2.l, e4.l, c4.l, b4.l, a4.2.1 (q + 13) j (by omega), l1]; exact zo j hj)
  rw [t1', bN_s] at pre
  have ei := t2.ii
  have PB : oJP q s1 sB := PA.tr (offG.mono t2 (fun _ _ h => h.elim) (fun _ _ h => Or.inr (Or.inr (Or.inr h))))
  refine fin sB PB pre (Or.inl ⟨⟨ka, kb, kr, kc, kd, ke⟩, ⟨cA, hcA, ?_⟩, ?_, ?_⟩)
  · unfold fne; rw [ei]; exact fA
  · have XB : JX T N q L sB := XA.oJ (offG.mono t2 (fun _ _ h => h.elim) (fun _ _ h => Or.inr h))
    refine ⟨XB, ?_, ?_, ?_, fun j hj => ?_, ?_, ?_, ?_, t3⟩
    · unfold ABK; rw [ei, p4.r (by omega)]; exact A9
    · unfold INP; rw [ei, p4.r (by omega), p4.r (by omega), n4.r (by omega) (by omega) (by omega), n4.r (by omega) (by omega) (by omega)]; exact I8
    · unfold VWS; rw [ei]; exact VA
    · rw [ei, p4.r (by omega), n4.r (by omega) (by omega) (by omega), m2.r (by omega) (by omega)]; exact k5 j hj
    · unfold NUr; rw [ei]; exact UA
    · unfold KNW; rw [ei, p4.r (by omega), n4.r (by omega) (by omega) (by omega)]; exact m3
    · intro m hm; unfold TYr; rw [ei]; exact YA m hm
  · rw [ei, p4.r (by omega), n4.1 (q + 17) 384 (by unfold c58; omega), m2.r (by omega) (by omega), k3 _ (by omega) (by omega), q36 _ (by omega)]
end MJA22
