/-! ===== the class's load ===== -/
/-- all that load changes, but for taking the PROGRAM -/
def oLd (q : Nat) (s s' : mjSt3) : Prop := (∀ h j, ¬ ((h = 0 ∧ (j = 1 ∨ j = 9 ∨ j = 10)) ∨ (58 ≤ h ∧ h ≤ 78) ∨ (q ≤ h ∧ h ≤ q + 27)) → s'.1 h j = s.1 h j) ∧ (∀ h, ¬ (h = 62 ∨ (72 ≤ h ∧ h ≤ 76) ∨ (q ≤ h ∧ h ≤ q + 27)) → s'.2.1 h = s.2.1 h) ∧ ∀ h, ¬ (h = 64 ∨ h = 71 ∨ h = 75) → s'.2.2 h = s.2.2 h
def mthL (L : List CD) (c : Nat) : Nat := match L[c]? with
  | some D => cntB true D.2
  | none => 0
/-- a PROGRAM that was judged, in the rows of program q -/
def PG (T : TT) (L : List CD) (q : Nat) (s : mjSt3) : Prop := (isP q ∧ pnm q s (nmL L) ∧ s.1 q 0 = nI L.length ∧ L.length ≤ 16) ∧ (ABK T L q s ∧ INP q s (inL L) (ipT T L) ∧ VWS T L q s) ∧ ((∀ j, j < L.length → s.1 (q + 8) j = nI (fldT T L j)) ∧ NUr T L q s ∧ KNW q s (knF T L)) ∧ ((∀ m, m < nMem L → TYr T L q s m) ∧ OBr q s L.length (obT T L)) ∧ (∀ c, c < L.length → s.1 (q + 2) c = (T (hC L c).1).2.1 ∧ s.1 (q + 6) c = nI (mthL L c) ∧ s.1 (q + 9) c = nI (fmL L c) ∧ s.1 (q + 10) c = nI (mcL L c) ∧ mcL L c ≤ 24 ∧ fmL L c + mcL L c ≤ nMem L) ∧ (s.1 (q + 14) 0 = nI (nMem L) ∧ nMem L ≤ 384) ∧ (∀ m, m < nMem L → s.1 (q + 16) m = nI (hmM L m) ∧ hmM L m < L.length ∧ s.1 (q + 18) m = b2 (mSM L m) ∧ s.1 (q + 20) m = nI (psM L m).length) ∧ (∀ m m', m < nMem L → m' < nMem L → (s.2.1 (q + 15) m = s.2.1 (q + 15) m' ↔ nkM T L m = nkM T L m')) ∧ s.1 (q + 16) 384 = -1 ∧ s.1 (q + 20) 384 = 0
/-- its code -/
def PGc (T : TT) (N k0 q : Nat) (t : PT) (rs : List RcM) (z : PB) (tr : Bool) (s : mjSt3) : Prop := (∀ m, m ≤ 384 → isMT t.1 m = true → s.1 (q + 22) m = nI (vnT t m)) ∧ ∃ cs, cs ≤ N ∧ s.1 (q + 24) 3 = nI cs ∧ GCm q (isMT t.1) (EmT T t.1 tr (ktL k0 t.2.2.1)) (i0T t) (zT rs z) (jmT T t.1) s 385 cs
/-- (a) to (f) find nothing -/
def OKz (T : TT) (k0 : Nat) (t : PT) (rs : List RcM) (z : PB) (tr : Bool) : Prop := OKh T t.1 tr ∧ OKf (isMT t.1) (EmT T t.1 tr (ktL k0 t.2.2.1)) (zT rs z) (jmT T t.1)
section MJA65
variable {T : TT} {N k0 q kb m n : Nat} {t : PT} {rs : List RcM} {z : PB} {s s' : mjSt3} {tr : Bool} {L : List CD}
theorem oLd.rf : oLd q s s := ⟨fun _ _ _ => rfl, fun _ _ => rfl, fun _ _ => rfl⟩
theorem oLd.trn {a b c : mjSt3} (h : oLd q a b) (g : oLd q b c) : oLd q a c := ⟨fun x y z => (g.1 x y z).trans (h.1 x y z), fun x y => (g.2.1 x y).trans (h.2.1 x y), fun x y => (g.2.2 x y).trans (h.2.2 x y)⟩
theorem cut_oLd (h : cutS s s' n) : oLd q s s' := by
  obtain ⟨_, _, _, _, _, h6, h7, h8⟩ := h
  exact ⟨fun x y z => by rw [h6 x (by omega) (by omega) (by omega) (by omega)], fun x y => h7 x (by omega), fun x _ => by rw [h8]⟩
theorem CLR.Ld (h : CLR q s s') : oLd q s s' := by
  obtain ⟨_, _, _, _, _, _, _, _, _, _, h1, h2, h3⟩ := h
  exact ⟨fun x y z => by rw [h1 x (by omega)], fun x y => h2 x (by omega), fun x _ => by rw [h3]⟩
theorem offL.Ld (h : offL q s s') : oLd q s s' := ⟨fun x y z => by rw [h.1 x (by omega) (by omega)], fun x y => h.2.1 x (by omega) trivial, fun x y => h.2.2 x (by omega) trivial trivial⟩
theorem oJH.Ld (h : oJH q s s') : oLd q s s' := ⟨fun x y z => h.1 x y (by unfold c58; omega), fun x y => h.2.1 x (by omega), fun x y => h.2.2 x (by omega)⟩
theorem oC.Ld (h : oC q s s') : oLd q s s' := ⟨fun x y z => h.1 x y (by unfold c58; omega), fun x y => funext fun j => h.2.1 x j (by omega), fun x _ => by rw [h.2.2]⟩
theorem FLT.Ld (h : FLT s s') : oLd q s s' := ⟨fun x y z => h.2.2.1 x y (by omega), fun x _ => by rw [h.2.2.2], fun x _ => by rw [h.2.2.2]⟩
theorem HDR.rfs (h : HDR T N q L s) (h1 : s'.1 = s.1) (h2 : s'.2.1 = s.2.1) (h3 : s'.2.2 71 = s.2.2 71) : HDR T N q L s' := by
  unfold HDR JX TH KY CKs pnm ABK INP VWS NUr KNW TYr OBr at h ⊢
  rw [h1, h2, h3]
  exact h
theorem RDM.oJH (h : RDM T N q L s) (hq : isP q) (o : oJH q s s') : RDM T N q L s' := by
  have hq' : q = 2 ∨ q = 30 := hq
  have r : ∀ x, x = q + 9 ∨ x = q + 10 ∨ x = q + 14 ∨ x = q + 16 ∨ x = 68 ∨ x = 69 ∨ x = q + 18 ∨ x = q + 20 → s'.1 x = s.1 x := fun x hx => funext fun j => o.1 x j (by unfold c58; omega)
  unfold RDM at h ⊢
  rw [r (q + 9) (by omega), r (q + 10) (by omega), r (q + 14) (by omega), r (q + 16) (by omega), r 68 (by omega), r 69 (by omega), r (q + 18) (by omega), r (q + 20) (by omega), o.2.1 (q + 15) (by omega), o.2.1 62 (by omega)]
  exact h
/-- PG out of what the judges and the Coder left -/
theorem PG_of (C : CB T N q L tr s) (h2 : ∀ c, c < L.length → s.1 (q + 2) c = (T (hC L c).1).2.1 ∧ s.1 (q + 6) c = nI (mthL L c)) (h16 : s.1 (q + 16) 384 = -1) (h20 : s.1 (q + 20) 384 = 0) : PG T L q s := by
  obtain ⟨⟨X, A, I, V, F, U, K, Y, O⟩, M, Ac, P, _⟩ := C
  obtain ⟨M1, M2, M3, M4, M5⟩ := M
  refine ⟨⟨X.2.2.2.2.1, X.2.2.2.2.2.2.1, X.2.2.2.2.2.2.2, X.2.2.1.1⟩, ⟨A, I, V⟩, ⟨F, U, K⟩, ⟨Y, O⟩, fun c hc => ⟨(h2 c hc).1, (h2 c hc).2, (M1 c hc).1, (M1 c hc).2, (M4 c hc).1, (M4 c hc).2⟩, ⟨M2, M3⟩, fun m hm => ⟨(M5 m hm).1, (M5 m hm).2.1, (M5 m hm).2.2.2.2.2.1, (M5 m hm).2.2.2.2.2.2⟩, fun m m' hm hm' => ?_, h16, h20⟩
  rw [(M5 m hm).2.2.2.2.1, (M5 m' hm').2.2.2.2.1]
  have p1 := P m hm
  have p2 := P m' hm'
  exact X.2.1.2.2.1 _ _ (by have := p1.2.2.2.1; omega) (by have := p2.2.2.2.1; omega) (Or.inr p1.2.2.1) (Or.inr p2.2.2.1)
/-- load at a number of signs that the tape has -/
theorem x_204 {tp : Nat} (hta : s.1 0 1 = nI tp) (htp : tp ≤ 3000) (hn : n ≤ tp) (hb : ∀ i, i < 3000 → byR (s.1 1 i)) (hw : ∀ i, i < 16 → s.2.1 59 i = lN (rN gC (wdL.getD i []))) (hsp : s.2.2 0 7 = q) (hq : isP q) (hk0 : k0 ≤ 1000) : ∃ N, N ≤ n ∧ (mTT (s.1 1) n N).1 = 0 ∧ match pText (mTT (s.1 1) n) (N + 1) k0 with
    | .inl _ => ∃ v s', ¬ v = 0 ∧ mjF 1999 204 [.ref 0, .int (nI n), .int (b2 tr)] (mjW0 s) = some (some (.int v), mjW0 s') ∧ oLd q s s' ∧ s'.1 0 1 = 0
    | .inr t => ∀ rs kb z, TRc (mTT (s.1 1) n) N k0 t rs kb z → t.1.length ≤ 16 ∧ (∀ (c : Nat) (E : CD), t.1[c]? = some E → E.2.length ≤ 24) ∧ (OKz (mTT (s.1 1) n) k0 t rs z tr → ∃ s1 s', mjF 1999 204 [.ref 0, .int (nI n), .int (b2 tr)] (mjW0 s) = some (some (.int 0), mjW0 s') ∧ oLd q s s1 ∧ s1.1 0 1 = 0 ∧ TKS s1 s' ∧ PG (mTT (s.1 1) n) t.1 q s1 ∧ PGc (mTT (s.1 1) n) N k0 q t rs z tr s1) ∧ (¬ OKz (mTT (s.1 1) n) k0 t rs z tr → ∃ v s', ¬ v = 0 ∧ mjF 1999 204 [.ref 0, .int (nI n), .int (b2 tr)] (mjW0 s) = some (some (.int v), mjW0 s') ∧ oLd q s s' ∧ s'.1 0 1 = 0) := by
  have hq' : q = 2 ∨ q = 30 := hq
  obtain ⟨s1, h1⟩ : ∃ z, z = uI s 0 (upd (s.1 0) 1 0) := ⟨_, rfl⟩
  have r1 : ∀ h, ¬ h = 0 → s1.1 h = s.1 h := fun h e => by rw [h1, uI_ne _ _ _ _ e]
  have e1 : s1.2 = s.2 := by rw [h1]; rfl
  have o1 : oLd q s s1 := by
    refine ⟨fun h j hj => ?_, fun _ _ => by rw [e1], fun _ _ => by rw [e1]⟩
    by_cases e : h = 0
    · subst e
      rw [h1, uI_same, upd_g, if_neg (by omega)]
    · rw [r1 h e]
  have z1 : s1.1 0 1 = 0 := by rw [h1, uI_same]; rfl
  have hb1 : ∀ i, i < n → byR (s1.1 1 i) := fun i hi => by rw [r1 1 (by decide)]; exact hb i (by omega)
  obtain ⟨s2, c1, c2⟩ := x_cut (d := 1991) (s := s1) (n := n) (by omega) (fun i hi => (hb1 i hi).2)
  have hw1 : ∀ i, i < 16 → s1.2.1 59 i = lN (rN gC (wdL.getD i [])) := fun i hi => by rw [e1]; exact hw i hi
  obtain ⟨N, hN, T2, K2⟩ := cut_KY (s := s1) (s' := s2) (by omega) hw1 hb1 c2
  rw [r1 1 (by decide)] at T2 K2
  have o2 : oLd q s s2 := o1.trn (cut_oLd c2)
  obtain ⟨s3, d1, d2⟩ := x_101 (d := 1996) (s := s2) hq
  have o3 : oLd q s s3 := o2.trn d2.Ld
  obtain ⟨d3, d4, d5, d6, d7, d8, d9, d10, d11, d12, d13, d14, d15⟩ := id d2
  have T3 : TH (mTT (s.1 1) n) N s3 := by
    obtain ⟨a, b, c, e⟩ := T2
    exact ⟨by rw [d13 58 (by omega)]; exact a, b, c, fun k hk => by rw [d13 60 (by omega), d13 61 (by omega)]; exact e k hk⟩
  have K3 : KY (mTT (s.1 1) n) N s3 := K2.lr (d14 62 (by omega))
  have h00 : (mTT (s.1 1) n N).1 = 0 := T2.2.2.1
  refine ⟨N, hN, h00, ?_⟩
  have f36 : s3.1 58 6 = 0 := by rw [d13 58 (by omega)]; exact c2.2.1
  have f37 : s3.1 58 7 = 0 := by rw [d13 58 (by omega)]; exact c2.2.2.1
  have F3 : Fr q 0 0 s3 := ⟨fun j _ hj => ⟨(d6 j hj).1, (d6 j hj).2.1, (d6 j hj).2.2.2.1, (d6 j hj).2.2.2.2.1, (d6 j hj).2.2.2.2.2.2⟩, fun j _ hj => by
    have := d10 j (by omega)
    rw [decide_eq_false (by omega)] at this
    exact this⟩
  have RT := x_readText (T := mTT (s.1 1) n) (N := N) (q := q) (s := s3) (D := 1997) (kq := k0) (by omega) hq T3 f36 f37 d3 d4 F3
  obtain ⟨U, hU⟩ : ∃ U, U = mjF 1999 204 [.ref 0, .int (nI n), .int (b2 tr)] (mjW0 s) := ⟨_, rfl⟩
  have pre : U = f_204 (mjF 1998) 0 (nI n) (b2 tr) (mjW0 s) := hU
  unfold f_204 b_204_0 at pre
  rw [if_neg (nI_pos (show n < 2 ^ 31 by omega)), xg_0_1, hta, if_pos (nI_le hn (by omega)), xp_0_1, ← h1, xg_0_2, xg_0_0, xV_58, c1, bN_s, xg_0_7, o2.2.2 0 (by omega), hsp, yV hq, d1, bN_s, xg_0_3, xg_0_7, o3.2.2 0 (by omega), hsp, xV_64] at pre
  rw [← hU]
  -- a bad state to the end
  have bad : ∀ x, oLd q s x → ¬ x.1 58 7 = 0 → U = b_204_92 (mjF 1998) 0 (mjW0 x) → x.1 0 1 = 0 → ∃ v s', ¬ v = 0 ∧ U = some (some (.int v), mjW0 s') ∧ oLd q s s' ∧ s'.1 0 1 = 0 := by
    intro x ox hx hu hz
    obtain ⟨s', a1, a2, _⟩ := x_tail (d := 1995) (s := x)
    exact ⟨_, s', hx, hu.trans (a2 hx), ox.trn a1.Ld, by rw [a1.2.2.1 0 1 (by omega)]; exact hz⟩
  have nofine : ∀ (x : mjSt3) (d : Nat), ¬ x.1 58 7 = 0 → mjF (d + 1) 172 [.ref 58] (mjW0 x) = some (some (.int 0), mjW0 x) := by
    intro x d hx
    rw [e_172]
    unfold f_172 b_172_0
    rw [xg_58_7, if_neg hx]
  have zz : ∀ x, oLd q s2 x → x.1 0 1 = 0 ∨ ¬ x.1 0 1 = 0 := fun x _ => Classical.em _
  have k01 : s3.1 0 1 = 0 := by rw [d13 0 (by omega), c2.2.2.2.2.2.1 0 (by decide) (by decide) (by decide) (by decide)]; exact z1
  cases hP : pText (mTT (s.1 1) n) (N + 1) k0 with
  | inl e =>
    rw [hP] at RT
    obtain ⟨he, s4, g1, g2, g3, g4⟩ := RT
    have ne : ¬ s4.1 58 7 = 0 := by rw [g2]; exact in_n0 he
    have o4 : oLd q s s4 := o3.trn g4.Ld
    rw [g1, bN_s, xg_0_2, xV_58, nofine s4 1997 ne, bI_s, if_pos rfl] at pre
    unfold b_204_71 at pre
    rw [xg_0_2, xV_58, nofine s4 1997 ne, bI_s, if_pos rfl] at pre
    exact bad s4 o4 ne pre (by rw [g4.1 0 (by omega) (by omega)]; exact k01)
  | inr t =>
    rw [hP] at RT
    obtain ⟨s4, g1, g2, g3, g4, g5⟩ := RT
    intro rs kb z R
    have o4 : oLd q s s4 := o3.trn g4.Ld
    have Z := RD0_of R hk0 g3 K3 g4 (fun j hj => ⟨(d6 j hj).2.2.1, (d6 j hj).2.2.2.2.2.1⟩) d7 d8 d9
    obtain ⟨hT, hQ, hCI, h16, h24, h70, h22, h63, h7, cu, hcu, h6⟩ := id g3
    have k41 : s4.1 0 1 = 0 := by rw [g4.1 0 (by omega) (by omega)]; exact k01
    obtain ⟨s5, b1, b2', b3, b4⟩ := x_54 (d := 1990) (tr := tr) Z ⟨cu, hcu, h6, h7⟩
    have o5 : oLd q s s5 := o4.trn b2'.Ld
    have k51 : s5.1 0 1 = 0 := by rw [b2'.1 0 1 (by unfold c58; omega)]; exact k41
    rw [g1, bN_s, xg_0_2, xV_58, j_fine (show fne s4 cu from ⟨h6, h7⟩), bI_s, if_neg (by decide), xg_0_4, xg_0_7, o4.2.2 0 (by omega), hsp, xV_71, b1, bN_s] at pre
    unfold b_204_71 at pre
    refine ⟨h16, h24, ?_⟩
    rcases b4 with ⟨ok, ⟨c5, hc5, f5⟩, H5, h17⟩ | ⟨nok, bd⟩
    · rw [xg_0_2, xV_58, j_fine f5, bI_s, if_neg (by decide), xg_0_5, xg_0_7, o5.2.2 0 (by omega), hsp, xV_75] at pre
      obtain ⟨s6, a1, a2, a3, a4, a5, a6, a7⟩ := x_4 (D := 1996) (s := s5) hq
      have H6 : HDR (mTT (s.1 1) n) N q t.1 s6 := H5.rfs a2 a3 (funext fun j => a7 71 j (by omega))
      have M5 : RDM (mTT (s.1 1) n) N q t.1 s5 := Z.2.2.1.oJH hq b2'
      have M6 : RDM (mTT (s.1 1) n) N q t.1 s6 := by unfold RDM at M5 ⊢; rw [a2, a3]; exact M5
      have P6 : PFm (mTT (s.1 1) n) N t.1 := Z.2.2.2.1.2
      have C6 : CB (mTT (s.1 1) n) N q t.1 tr s6 := ⟨H6, M6, ⟨H5.1.2.2.1, noR_of ok.2.2.1⟩, P6, by rw [a2]; exact b3.2.2, a4, a5, a6⟩
      have rj : ∀ x, x = 63 ∨ x = 70 ∨ x = q + 2 ∨ x = q + 6 ∨ x = q + 16 ∨ x = q + 18 ∨ x = q + 20 ∨ x = q + 22 ∨ x = q + 24 → s6.1 x = s4.1 x := fun x hx => by rw [a2]; exact funext fun j => b2'.1 x j (by unfold c58; omega)
      have w16 : s6.1 (q + 16) 384 = -1 := by rw [rj _ (by omega), g5 _ (by omega)]; exact d11
      have w18 : s6.1 (q + 18) 384 = 1 := by rw [rj _ (by omega), g5 _ (by omega)]; exact (d10 384 (by omega)).1
      have w20 : s6.1 (q + 20) 384 = 0 := by rw [rj _ (by omega), g5 _ (by omega)]; exact (d10 384 (by omega)).2
      have w17 : s6.1 (q + 17) 384 = -1 := by rw [a2, h17, g4.1 (q + 17) (by omega) (by omega)]; exact d12
      have mem : ∀ m, m < nMem t.1 → ∃ c k, MF q c m k s4 (mdM t.1 m) := by
        intro m hm
        obtain ⟨c, E, k, x1, x2, x3, x4⟩ := FL_ex hm
        have := (hCI.2.2.2 c E x1).2.2.2.2 k _ x2
        rw [← x3] at this
        exact ⟨c, _, this⟩
      have b384 := CI.bound h24
      have n384 : nMem t.1 ≤ 384 := by omega
      have W18 : ∀ m, m ≤ 384 → s6.1 (q + 18) m = b2 (isMT t.1 m) := by
        intro m hm
        by_cases e : m = 384
        · rw [e, w18]; rfl
        · unfold isMT
          rw [decide_eq_false e, Bool.false_or]
          by_cases g : m < nMem t.1
          · rw [decide_eq_true g, Bool.true_and]
            exact (M6.2.2.2.2 m g).2.2.2.2.2.1
          · rw [decide_eq_false g, Bool.false_and, rj _ (by omega)]
            exact (hCI.2.2.1.2 m (by omega) (by omega)).1
      have MB := MBm_of (q := q) (D := 1996) (s := s6) (tr := tr) R (by omega) hk0 T2.2.1 (by rw [rj 63 (by omega), h63]; exact AGf_ex _ R.2.2.1 _) H5.1.2.2.1 W18 (fun m hm => ⟨(M6.2.2.2.2 m hm).1, (M6.2.2.2.2 m hm).2.1⟩) w16 (fun m hm => (H6.2.2.2.2.2.2.2.1 m hm).1) w17 (fun m hm ms => by
        obtain ⟨c, k, F⟩ := mem m hm
        rw [rj 70 (by omega), (F.2.2.2.2.2.2.2 ms).1]
        unfold btT
        rw [if_neg (by omega)]) (by rw [rj 70 (by omega)]; exact h70) w20
      obtain ⟨y1, y2⟩ := x_4a (D := 1996) (by omega) MB C6 (c := c5) ⟨by rw [a2]; exact f5.1, by rw [a2]; exact f5.2⟩ hc5 (by rw [rj _ (by omega), g4.1 (q + 24) (by omega) (by omega)]; exact d5)
      have o6 : oLd q s s6 := o5.trn ⟨fun h j _ => by rw [a2], fun h _ => by rw [a3], fun h hh => funext fun j => a7 h j (by omega)⟩
      have k61 : s6.1 0 1 = 0 := by rw [a2]; exact k51
      constructor
      · intro oz
        obtain ⟨s7, c7, cs, u1, u2, u3, u4, u5, u6, u7, u8⟩ := y1 oz.2
        have o7 : oLd q s s7 := o6.trn u3.Ld
        rw [a1, u1, bN_s] at pre
        obtain ⟨s8, v1, _, v3⟩ := x_tail (d := 1995) (s := s7)
        obtain ⟨s9, v4, v5⟩ := v3 u4.2
        have e8 : ∀ x, ¬ x = 0 → s8.1 x = s7.1 x := fun x hx => funext fun j => v1.2.2.1 x j (by omega)
        have C7 : CB (mTT (s.1 1) n) N q t.1 tr s7 := u2
        have P7 : PG (mTT (s.1 1) n) t.1 q s7 := by
          refine PG_of C7 (fun c hc => ?_) (by rw [u3.r (by omega)]; exact w16) (by rw [u3.r (by omega)]; exact w20)
          rw [u3.r (by omega), u3.r (by omega), rj (q + 2) (by omega), rj (q + 6) (by omega)]
          obtain ⟨E, hE⟩ : ∃ E, t.1[c]? = some E := ⟨_, List.getElem?_eq_getElem hc⟩
          have x := hCI.2.2.2 c E hE
          have x1 : hC t.1 c = E.1 := by unfold hC; rw [hE]
          have x2 : mthL t.1 c = cntB true E.2 := by unfold mthL; rw [hE]
          rw [x1, x2]
          exact ⟨x.1.2.2.1, x.2.2.1⟩
        refine ⟨s8, s9, pre.trans v4, o7.trn v1.Ld, by rw [v1.2.2.1 0 1 (by omega), u3.1 0 1 (by unfold c58; omega)]; exact k61, v5, ?_, ?_⟩
        · unfold PG pnm ABK INP VWS NUr KNW TYr OBr at P7 ⊢
          rw [e8 q (by omega), e8 (q + 1) (by omega), e8 (q + 2) (by omega), e8 (q + 3) (by omega), e8 (q + 4) (by omega), e8 (q + 5) (by omega), e8 (q + 6) (by omega), e8 (q + 8) (by omega), e8 (q + 9) (by omega), e8 (q + 10) (by omega), e8 (q + 11) (by omega), e8 (q + 12) (by omega), e8 (q + 14) (by omega), e8 (q + 16) (by omega), e8 (q + 17) (by omega), e8 (q + 18) (by omega), e8 (q + 19) (by omega), e8 (q + 20) (by omega), e8 (q + 21) (by omega), v1.2.2.2]
          exact P7
        · refine ⟨fun m hm im => ?_, cs, u7, by rw [e8 _ (by omega)]; exact u6, ?_⟩
          · rw [e8 _ (by omega), u3.r (by omega), rj (q + 22) (by omega)]
            by_cases e : m = 384
            · subst e; exact h22
            · obtain ⟨w1, w2⟩ := isMT_lt im e
              obtain ⟨c, k, F⟩ := mem m w1
              rw [(F.2.2.2.2.2.2.2 w2).2]
              unfold vnT
              rw [if_neg e]
          · intro m hm im
            obtain ⟨c, j', l, x1, x2, x3, x4⟩ := u8 m hm im
            refine ⟨c, j', l, x1, by rw [e8 _ (by omega)]; exact x2, ?_, x4⟩
            unfold CL at x3 ⊢
            rw [e8 _ (by omega), e8 _ (by omega), e8 _ (by omega)]
            exact x3
      · intro noz
        have nf : ¬ OKf (isMT t.1) (EmT (mTT (s.1 1) n) t.1 tr (ktL k0 t.2.2.1)) (zT rs z) (jmT (mTT (s.1 1) n) t.1) := fun g => noz ⟨ok, g⟩
        obtain ⟨s7, u1, u2, u3⟩ := y2 nf
        rw [a1, u1, bN_s] at pre
        exact bad s7 (o6.trn u3.Ld) u2.2.1.2 pre (by rw [u3.1 0 1 (by unfold c58; omega)]; exact k61)
    · have ne : ¬ s5.1 58 7 = 0 := bd.2
      rw [xg_0_2, xV_58, nofine s5 1997 ne, bI_s, if_pos rfl] at pre
      exact ⟨fun oz => absurd oz.1 nok, fun _ => bad s5 o5 ne pre k51⟩
end MJA65
