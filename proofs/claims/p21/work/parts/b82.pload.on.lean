section
/-! ===== load, on both ===== -/
section MJB82
variable {N b h kb q wm cm i n tp : Nat} {t : PT} {rs : List RcM} {z : PB} {tr : Bool} {cs : Nat → Nat} {s s' s1 s2 : mjSt3} {a : Int32}
theorem load_cn {v : Int32} (h : a < 0 ∨ ¬ a ≤ s.1 0 1) : mjF 1999 204 [.ref 0, .int a, .int v] (mjW0 s) = some (some (.int (-1)), mjW0 s) := by
  rw [show (1999 : Nat) = 1998 + 1 from rfl, e_204]
  unfold f_204 b_204_0 b_204_12
  by_cases h1 : a < 0
  · rw [if_pos h1]
  · rw [if_neg h1, xg_0_1, if_neg (h.resolve_left h1)]
theorem load_rn {v : Int32} (h : a < 0 ∨ ¬ a ≤ s.1 97 1) : mjF 1999 260 [.ref 97, .int a, .int v] (mjW0 s) = some (some (.int (-1)), mjW0 s) := by
  rw [show (1999 : Nat) = 1998 + 1 from rfl, e_260]
  unfold f_260 b_260_0 b_260_12
  by_cases h1 : a < 0
  · rw [if_pos h1]
  · rw [if_neg h1, xg_97_1, if_neg (h.resolve_left h1)]
/-- a load that both refuse -/
theorem Inv.refused (I : Inv i s) (h97 : s.1 97 9 = nI h) (hh : h ≤ 1) (hsp : s.2.2 0 7 = q) (o1 : oLd q s s1) (t1 : s1.1 0 1 = 0) (o2 : oLm (1 - h) s1 s2) (t2 : s2.1 97 1 = 0) : Inv (i + 1) s2 := by
  obtain ⟨⟨ht, hby, ⟨hw1, hw2⟩, ⟨hp, hq, hpq⟩, h9, hw⟩, hP⟩ := I
  rw [hsp] at hq hpq
  have hq' : q = 2 ∨ q = 30 := hq
  have f1 : ∀ h, h = 1 ∨ 79 ≤ h → s1.1 h = s.1 h := fun h e => funext fun j => o1.1 h j (by omega)
  have l1 : ∀ h, h = 59 ∨ 77 ≤ h → s1.2.1 h = s.2.1 h := fun h e => o1.2.1 h (by omega)
  have r1 : ∀ h, ¬ (h = 64 ∨ h = 71 ∨ h = 75) → s1.2.2 h = s.2.2 h := o1.2.2
  have f2 : ∀ h, h < 97 → s2.1 h = s1.1 h := fun h e => oLm_h o2 (by omega)
  have l2 : ∀ h, h < 101 → ¬ h = 97 → s2.2.1 h = s1.2.1 h := fun h e e' => funext fun j => o2.2.1 h j (fun w => by
    rcases w with ((w | w | w | w) | w | w | w | w | w) | w <;> omega)
  have r2 : s2.2.2 = s1.2.2 := o2.2.2
  have z0 : ∀ j, ¬ (j = 1 ∨ j = 9 ∨ j = 10) → s2.1 0 j = s.1 0 j := fun j e => by rw [f2 0 (by omega)]; exact o1.1 0 j (by omega)
  have u97 : ∀ j, ¬ (j = 1 ∨ j = 2 ∨ j = 3 ∨ j = 4 ∨ j = 5 ∨ j = 6 ∨ (59 ≤ j ∧ j ≤ 67) ∨ j = 71 ∨ j = 76 ∨ j = 77 ∨ j = 82 ∨ j = 87 ∨ j = 88 ∨ j = 92 ∨ j = 95 ∨ j = 129 ∨ j = 132 ∨ j = 133) → s2.1 97 j = s.1 97 j := fun j e => by rw [oLm_97j o2 e, f1 97 (by omega)]
  have m79 : ∀ h, 79 ≤ h → h < 97 → s2.1 h = s.1 h := fun h e e' => by rw [f2 h e', f1 h (by omega)]
  have kz : IZ s → IZ s2 := by
    intro ⟨⟨a1, a2⟩, a3, a4, a5, a6⟩
    refine ⟨⟨by rw [u97 96 (by omega)]; exact a1, by rw [m79 82 (by omega) (by omega)]; exact a2⟩, by rw [m79 82 (by omega) (by omega)]; exact a3, by rw [m79 79 (by omega) (by omega)]; exact a4, by rw [m79 83 (by omega) (by omega)]; exact a5, a6.keep (fun h e => m79 h (by omega) (by omega))⟩
  refine ⟨⟨⟨0, by omega, by rw [f2 0 (by omega)]; exact t1, t2, fun i hi => absurd hi (Nat.not_lt_zero i)⟩, by rw [f2 1 (by omega), f1 1 (by omega)]; exact hby, ⟨by rw [l2 59 (by omega) (by omega), l1 59 (by omega)]; exact hw1, by rw [l2 99 (by omega) (by omega), l1 99 (by omega)]; exact hw2⟩, ⟨by rw [r2, r1 0 (by omega)]; exact hp, by rw [r2, r1 0 (by omega), hsp]; exact hq, by rw [r2, r1 0 (by omega), hsp]; exact hpq⟩, by rw [u97 9 (by omega)]; exact h9, by rw [r2, r1 91 (by omega)]; exact hw⟩, ?_⟩
  rcases hP with ⟨a1, a2, a3⟩ | ⟨T, N, b, p, t, rs, kb, z, tr, cs, G, hR⟩
  · exact Or.inl ⟨by rw [z0 8 (by omega)]; exact a1, by rw [u97 10 (by omega)]; exact a2, kz a3⟩
  · have g9 := G.1.2.1
    have gb := G.1.1
    have ep := G.1.2.2.2.1
    have eb : h = b := (nI_eq (by omega) (by omega)).mp (h97.symm.trans g9)
    have hp2 := G.isq
    rw [ep] at hpq
    have G2 : IPG T N b p t rs kb z tr cs s2 := by
      refine G.keep ⟨u97 9 (by omega), u97 10 (by omega)⟩ ⟨by rw [r2, r1 0 (by omega)], z0 8 (by omega)⟩ (fun J => ?_) (fun x hx => ?_) (fun x hx => ?_)
      · refine J.keep (fun x y w => ?_) (fun x y w => ?_)
        · have lo := inB_97 w
          rw [o2.1 x y (fun c => ?_), f1 x (by omega)]
          rcases c with c | c | c
          · exact dis_Rd (by omega) w c
          · exact dis_JA (by omega) w c
          · omega
        · have e1 : s1.2.1 x = s.2.1 x := l1 x (by unfold inBL at w; omega)
          rw [← e1]
          refine o2.2.1 x y (fun c => ?_)
          rcases w with w | w | w | w | w | w | w | w <;> rcases c with ((c | c | c | c) | c | c | c | c | c) | c <;> omega
      · rw [f2 x (by omega)]
        exact funext fun y => o1.1 x y (by omega)
      · rw [l2 x (by omega) (by omega)]
        exact o1.2.1 x (by omega)
    refine Or.inr ⟨T, N, b, p, t, rs, kb, z, tr, cs, G2, ?_⟩
    rcases hR with a3 | ⟨wm, cm, A, R⟩
    · exact Or.inl (kz a3)
    · obtain ⟨w4, ⟨p1, p2, p3, p4⟩, k1, M, Mr, ⟨x1, x2, x3⟩, K1, K2⟩ := R
      refine Or.inr ⟨wm, cm, A, w4, ⟨p1, p2, p3, by omega⟩, k1, M.hi (fun h e => m79 h (by omega) (by omega)), Mr.gen (fun j e => u97 j (by omega)) (fun h e => by rw [oLm_h o2 (by omega), f1 h (by omega)]), ⟨by rw [r2, r1 82 (by omega)]; exact x1, by rw [r2, r1 82 (by omega)]; exact x2, by rw [r2, r1 91 (by omega)]; exact x3⟩, K1.keep (fun h e => m79 h (by omega) (by omega)), K2.gen ⟨u97 126 (by omega), u97 127 (by omega)⟩ (by rw [oLm_h o2 (by omega), f1 181 (by omega)])⟩
/-- a load that both take -/
theorem Inv.taken (I : Inv i s) (h97 : s.1 97 9 = nI h) (hh : h ≤ 1) (hsp : s.2.2 0 7 = q) {T : TT} (hN : N ≤ 3000) (R : TRc T N (800 * (1 - h)) t rs kb z) (ok : OKz T (800 * (1 - h)) t rs z tr) (l16 : t.1.length ≤ 16) (l24 : ∀ (c : Nat) (E : CD), t.1[c]? = some E → E.2.length ≤ 24) (o1 : oLd q s s1) (t1 : s1.1 0 1 = 0) {s1' : mjSt3} (k1 : TKS s1 s1') (pg : PG T t.1 q s1) (pc : PGc T N (800 * (1 - h)) q t rs z tr s1) (o2 : oLm (1 - h) s1' s2) (t2 : s2.1 97 1 = 0) (hb : HBd T N (1 - h) t rs kb z tr) (jb : JBI T N (1 - h) t rs z tr (fun _ => True) s2) {s2' : mjSt3} (k2 : RSt (1 - h) s2 s2') : Inv (i + 1) s2' := by
  obtain ⟨⟨ht, hby, ⟨hw1, hw2⟩, ⟨hp, hq, hpq⟩, h9, hw⟩, hP⟩ := I
  rw [hsp] at hq hpq
  have hq' : q = 2 ∨ q = 30 := hq
  obtain ⟨⟨c1, c2, c3⟩, c4, c5, c6, c7, ⟨c8, c9⟩, ⟨c10, c11, c12⟩, c13, c14⟩ := k1
  obtain ⟨d1, d2, d3, d4, d5⟩ := k2
  have f1 : ∀ h, h = 1 ∨ 79 ≤ h → s1.1 h = s.1 h := fun h e => funext fun j => o1.1 h j (by omega)
  have l1 : ∀ h, h = 59 ∨ 77 ≤ h → s1.2.1 h = s.2.1 h := fun h e => o1.2.1 h (by omega)
  have r1 : ∀ h, ¬ (h = 64 ∨ h = 71 ∨ h = 75) → s1.2.2 h = s.2.2 h := o1.2.2
  have f2 : ∀ h, h < 97 → s2'.1 h = s1'.1 h := fun h e => (funext fun j => d1.1 h j (by omega)).trans (oLm_h o2 (by omega))
  have l2 : ∀ h, h < 101 → ¬ h = 97 → s2'.2.1 h = s1.2.1 h := fun h e e' => by
    rw [show s2'.2.1 h = s2.2.1 h from funext fun j => d1.2.1 h j (fun x => x), ← c4]
    exact funext fun j => o2.2.1 h j (fun w => by rcases w with ((w | w | w | w) | w | w | w | w | w) | w <;> omega)
  have r2 : s2'.2.2 = s1'.2.2 := d1.2.2.trans o2.2.2
  have m : ∀ h, ¬ (h = 0 ∨ h = 82 ∨ h = 83 ∨ h = 79 ∨ h = 91) → h < 97 → s2'.1 h = s1.1 h := fun h e e' => by
    rw [f2 h e']
    exact funext fun j => c14 h j (by omega)
  have hhm : ∀ m, m < nMem t.1 → hmM t.1 m < t.1.length := fun m hm => (pg.2.2.2.2.2.2.1 m hm).2.1
  obtain ⟨P, Y⟩ := PRX_of R hN hb ok hhm
  have e01 : s2'.1 0 1 = 0 := by rw [f2 0 (by omega), c14 0 1 (by omega)]; exact t1
  refine ⟨⟨⟨0, by omega, e01, by rw [d1.1 97 1 (by omega)]; exact t2, fun i hi => absurd hi (Nat.not_lt_zero i)⟩, by rw [m 1 (by omega) (by omega), f1 1 (by omega)]; exact hby, ⟨by rw [l2 59 (by omega) (by omega), l1 59 (by omega)]; exact hw1, by rw [l2 99 (by omega) (by omega), l1 99 (by omega)]; exact hw2⟩, ⟨by rw [r2, c1, r1 0 (by omega), hsp]; exact hq, by rw [r2, c2, r1 0 (by omega)]; exact hp, by rw [r2, c1, c2, r1 0 (by omega), hsp]; exact fun e => hpq e.symm⟩, ⟨1 - h, by omega, d2⟩, by rw [r2, c3 91 1 (by omega), r1 91 (by omega)]; exact hw⟩, Or.inr ⟨T, N, 1 - h, q, t, rs, kb, z, tr, _, ⟨⟨by omega, d2, d3, by rw [r2, c1, r1 0 (by omega), hsp], by rw [f2 0 (by omega)]; exact c5⟩, ⟨P, Y, fld_384 l16 l24, hb⟩, ⟨s2, jb, fun x y w => d1.1 x y (by have := inB_97 w; omega), fun x y _ => d1.2.1 x y (fun x => x)⟩, pg.cg (fun x hx => m x (by omega) (by omega)) (fun x hx => l2 x (by omega) (by omega)), (CPC_of pc hN).cg (fun x hx => m x (by omega) (by omega)), fun k hk im => ?_, R, hN⟩, Or.inl ⟨⟨d4, ?_⟩, ?_, ?_, ?_, fun _ _ _ _ => Or.inl ?_⟩⟩⟩
  · rw [m (q + 22) (by omega) (by omega)]
    exact pc.1 k hk im
  · rw [f2 82 (by omega)]; exact c6 8 (by omega)
  · rw [f2 82 (by omega)]
    exact ⟨c6 9 (by omega), c6 10 (by omega), c7, c6 12 (by omega), c6 13 (by omega)⟩
  · rw [f2 79 (by omega)]
    exact ⟨c10, c11⟩
  · rw [f2 83 (by omega)]
    exact ⟨c8, c9⟩
  · rw [f2 91 (by omega)]
    exact c13
theorem pair_load (I : Inv i s) (a v : Int32) (hv : v = 0 ∨ v = 1) : PairGo (Inv (i + 1)) 204 260 [.int a, .int v] s := by
  obtain ⟨tp, t1, t2, t3, t4⟩ := I.1.1
  have hby := I.1.2.1
  obtain ⟨hw1, hw2⟩ := I.1.2.2.1
  obtain ⟨hp, hq, hpq⟩ := I.1.2.2.2.1
  obtain ⟨h, hh, h97⟩ := I.1.2.2.2.2.1
  by_cases hn : a < 0 ∨ ¬ a ≤ s.1 0 1
  · exact ⟨-1, -1, s, s, load_cn hn, load_rn (by rw [t3, ← t2]; exact hn), I.mono (by omega)⟩
  have a0 : ¬ a < 0 := fun x => hn (Or.inl x)
  have a1 : a ≤ s.1 0 1 := Classical.byContradiction (fun x => hn (Or.inr x))
  obtain ⟨n, n31, en⟩ := nI_of a0
  rw [t2, en] at a1
  have ntp : n ≤ tp := (nI_leI (by omega) (by omega)).mp a1
  obtain ⟨tr, etr⟩ : ∃ tr : Bool, v = b2 tr := by
    rcases hv with e | e
    · exact ⟨false, e⟩
    · exact ⟨true, e⟩
  rw [en, etr]
  obtain ⟨q, eq⟩ : ∃ q, s.2.2 0 7 = q := ⟨_, rfl⟩
  rw [eq] at hq
  have hq' : q = 2 ∨ q = 30 := hq
  obtain ⟨N, N1, N2, X⟩ := x_204 (tr := tr) (k0 := 800 * (1 - h)) t2 t1 ntp hby hw1 eq hq (by omega)
  have hb98 : ∀ i, i < n → byR (s.1 98 i) := fun i hi => by rw [← t4 i (by omega)]; exact hby i (by omega)
  have eT : mTT (s.1 98) n = mTT (s.1 1) n := mTT_cg (fun i hi => (t4 i (by omega)).symm) hb98
  have ref : ∀ x : mjSt3, (∀ h, 97 ≤ h → x.1 h = s.1 h) → x.2.1 99 = s.2.1 99 → _ := fun x e1 e2 => x_260 (s := x) (h := h) (n := n) (N := N) (tp := tp) (tr := tr) (by rw [e1 97 (by omega)]; exact t3) t1 ntp (by rw [e1 98 (by omega)]; exact hb98) (by rw [e2]; exact hw2) (by rw [e1 97 (by omega)]; exact h97) hh (by omega) (by rw [e1 98 (by omega), eT]; exact N2)
  have lo : ∀ x, oLd q s x → (∀ h, 97 ≤ h → x.1 h = s.1 h) ∧ x.2.1 99 = s.2.1 99 := fun x o => ⟨fun h e => funext fun j => o.1 h j (by omega), o.2.1 99 (by omega)⟩
  cases hP : pText (mTT (s.1 1) n) (N + 1) (800 * (1 - h)) with
  | inl e =>
    rw [hP] at X
    obtain ⟨v1, s1, _, x1, x2, x3⟩ := X
    have Z := ref s1 (lo s1 x2).1 (lo s1 x2).2
    rw [(lo s1 x2).1 98 (by omega), eT, hP] at Z
    obtain ⟨v2, s2, _, z1, z2, z3⟩ := Z
    exact ⟨v1, v2, s1, s2, x1, z1, I.refused h97 hh eq x2 x3 z2 z3⟩
  | inr t =>
    rw [hP] at X
    obtain ⟨rs, kb, z, Rc, Rx⟩ := TRc_of (by omega) N2 (by omega) hP
    obtain ⟨l16, l24, X1, X2⟩ := X rs kb z Rc
    by_cases ok : OKz (mTT (s.1 1) n) (800 * (1 - h)) t rs z tr
    · obtain ⟨s1, s1', x1, x2, x3, x4, x5, x6⟩ := X1 ok
      have e1 : ∀ h, 97 ≤ h → s1'.1 h = s.1 h := fun h e => by
        rw [← (lo s1 x2).1 h e]
        exact funext fun j => x4.2.2.2.2.2.2.2.2 h j (by omega)
      have e2 : s1'.2.1 99 = s.2.1 99 := by rw [x4.2.1]; exact (lo s1 x2).2
      have Z := ref s1' e1 e2
      rw [e1 98 (by omega), eT, hP] at Z
      obtain ⟨s2, s2', z1, z2, z3, z4, z5, z6⟩ := (Z rs kb z Rc Rx).1 ok
      exact ⟨0, 0, s1', s2', x1, z1, I.taken h97 hh eq (by omega) Rc ok l16 l24 x2 x3 x4 x5 x6 z2 z3 z4 z5 z6⟩
    · obtain ⟨v1, s1, _, x1, x2, x3⟩ := X2 ok
      have Z := ref s1 (lo s1 x2).1 (lo s1 x2).2
      rw [(lo s1 x2).1 98 (by omega), eT, hP] at Z
      obtain ⟨v2, s2, _, z1, z2, z3⟩ := (Z rs kb z Rc Rx).2 ok
      exact ⟨v1, v2, s1, s2, x1, z1, I.refused h97 hh eq x2 x3 z2 z3⟩
end MJB82
end
section
/-! ===== feed, fault, state, said, on both ===== -/
section MJB83
variable {i n : Nat} {s s' : mjSt3} {a : Int32}
theorem by_8 (y : Int8) : byR y.toInt32 := by
  have h1 := Int8.le_toInt y
  have h2 := Int8.toInt_lt y
  have e : (y.toInt32).toInt = y.toInt := Int8.toInt_toInt32 y
  have m1 : (-128 : Int32).toInt = -128 := by decide
  have m2 : (127 : Int32).toInt = 127 := by decide
  constructor
  · intro h
    rw [Int32.lt_iff_toInt_lt, e, m1] at h
    omega
  · rw [Int32.le_iff_toInt_le, e, m2]
    omega
theorem by_Y (v sh : Int32) : byR (bY v sh) := by
  unfold bY
  rw [vp_nar_byte]
  exact by_8 _
theorem by_app {l : List Int32} {y : Int32} (h : ∀ x, x ∈ l → byR x) (hy : byR y) : ∀ x, x ∈ l ++ [y] → byR x := fun x hx => by
  rcases List.mem_append.mp hx with e | e
  · exact h x e
  · have : x = y := by simpa using e
    rw [this]
    exact hy
theorem by_20 (a b c e f : Int32) : ∀ x, x ∈ b20 a b c e f → byR x := by
  unfold b20
  repeat (refine by_app ?_ (by_Y _ _))
  exact fun x hx => by cases hx
theorem by_getD {l : List Int32} (h : ∀ x, x ∈ l → byR x) (k : Nat) : byR (l.getD k 0) := by
  rw [List.getD_eq_getElem?_getD]
  cases hk : l[k]? with
  | none => exact ⟨by decide, by decide⟩
  | some x => exact h x (List.mem_of_getElem? hk)
/-- what a call leaves -/
theorem Inv.gen (I : Inv i s) (hB : IBs s') (e0 : s'.2.2 0 = s.2.2 0 ∧ s'.1 0 8 = s.1 0 8) (e97 : ∀ j, j = 9 ∨ j = 10 ∨ (96 ≤ j ∧ j ≤ 106) ∨ j = 116 ∨ j = 118 ∨ j = 119 ∨ j = 126 ∨ j = 127 → s'.1 97 j = s.1 97 j) (er : ∀ h, 100 ≤ h → h ≤ 187 → s'.1 h = s.1 h) (el : ∀ h, s'.2.1 h = s.2.1 h) (ec : ∀ h, (2 ≤ h ∧ h ≤ 57) ∨ (79 ≤ h ∧ h ≤ 96) → s'.1 h = s.1 h) (rc : s'.2.2 82 = s.2.2 82 ∧ s'.2.2 91 = s.2.2 91) : Inv (i + 1) s' := by
  have kz : IZ s → IZ s' := by
    intro ⟨⟨a1, a2⟩, a3, a4, a5, a6⟩
    exact ⟨⟨by rw [e97 96 (by omega)]; exact a1, by rw [ec 82 (by omega)]; exact a2⟩, by rw [ec 82 (by omega)]; exact a3, by rw [ec 79 (by omega)]; exact a4, by rw [ec 83 (by omega)]; exact a5, a6.keep (fun h e => ec h (by omega))⟩
  refine ⟨hB, ?_⟩
  rcases I.2 with ⟨a1, a2, a3⟩ | ⟨T, N, b, p, t, rs, kb, z, tr, cs, G, hR⟩
  · exact Or.inl ⟨by rw [e0.2]; exact a1, by rw [e97 10 (by omega)]; exact a2, kz a3⟩
  · have hp := G.isq
    refine Or.inr ⟨T, N, b, p, t, rs, kb, z, tr, cs, G.keep ⟨e97 9 (by omega), e97 10 (by omega)⟩ ⟨by rw [e0.1], e0.2⟩ (fun J => J.keep (fun x y w => by have := inB_97 w; rw [er x (by omega) (by omega)]) (fun x y _ => by rw [el])) (fun x hx => ec x (by omega)) (fun x _ => el x), ?_⟩
    rcases hR with a3 | ⟨wm, cm, A, R⟩
    · exact Or.inl (kz a3)
    · obtain ⟨w4, ⟨p1, p2, p3, p4⟩, k1, M, Mr, x1, K1, K2⟩ := R
      exact Or.inr ⟨wm, cm, A, w4, ⟨p1, p2, p3, by omega⟩, k1, M.hi (fun h e => ec h (by omega)), Mr.gen (fun j e => e97 j (by omega)) (fun h e => er h (by omega) (by omega)), by rw [rc.1, rc.2]; exact x1, K1.keep (fun h e => ec h (by omega)), K2.gen ⟨e97 126 (by omega), e97 127 (by omega)⟩ (er 181 (by omega) (by omega))⟩
theorem pair_feed2 (I : Inv i s) (a b c e f : Int32) : PairOK (Inv (i + 1)) 202 258 [.int a, .int b, .int c, .int e, .int f] s := by
  obtain ⟨⟨t, h3, t1, t2, hx⟩, hby, hw, hp, h9, hwk⟩ := I.1
  by_cases hl : t + 20 ≤ 3000
  · obtain ⟨s1, e1, l1⟩ := f_feedC (d := 1997) t1 hl a b c e f
    have m1 : s1.1 97 = s.1 97 := l1.2.2.2.1 97 (by decide) (by decide)
    have m2 : s1.1 98 = s.1 98 := l1.2.2.2.1 98 (by decide) (by decide)
    obtain ⟨s2, e2, l2⟩ := f_feedM (d := 1997) (s := s1) (t := t) (by rw [m1]; exact t2) hl a b c e f
    have n0 : s2.1 0 = s1.1 0 := l2.2.2.2.1 0 (by decide) (by decide)
    have n1 : s2.1 1 = s1.1 1 := l2.2.2.2.1 1 (by decide) (by decide)
    have ls : s2.2 = s.2 := l2.2.2.2.2.trans l1.2.2.2.2
    have rr : ∀ q, ¬ q = 0 → ¬ q = 1 → ¬ q = 97 → ¬ q = 98 → s2.1 q = s.1 q := fun q a0 a1 a2 a3 => by rw [l2.2.2.2.1 q a2 a3, l1.2.2.2.1 q a0 a1]
    have r97 : ∀ j, ¬ j = 1 → s2.1 97 j = s.1 97 j := fun j hj => by rw [l2.2.1 j hj, m1]
    have r0 : ∀ j, ¬ j = 1 → s2.1 0 j = s.1 0 j := fun j hj => by rw [n0]; exact l1.2.1 j hj
    refine ⟨_, s1, s2, e1, e2, I.gen ⟨⟨t + 20, hl, by rw [n0, l1.1, b20_len], by rw [l2.1, b20_len], fun i hi => ?_⟩, fun i hi => ?_, by rw [ls]; exact hw, by rw [ls]; exact hp, by rw [r97 9 (by decide)]; exact h9, by rw [ls]; exact hwk⟩ ⟨by rw [ls], r0 8 (by decide)⟩ (fun j hj => r97 j (by omega)) (fun h h1 h2 => rr h (by omega) (by omega) (by omega) (by omega)) (fun h => by rw [ls]) (fun h e => rr h (by omega) (by omega) (by omega) (by omega)) ⟨by rw [ls], by rw [ls]⟩⟩
    · rw [n1, l1.2.2.1 i, l2.2.2.1 i, m2, b20_len]
      by_cases g : t ≤ i ∧ i < t + 20
      · rw [if_pos g, if_pos g]
      · rw [if_neg g, if_neg g]
        exact hx i (by omega)
    · rw [n1, l1.2.2.1 i]
      by_cases g : t ≤ i ∧ i < t + (b20 a b c e f).length
      · rw [if_pos g]
        exact by_getD (by_20 a b c e f) _
      · rw [if_neg g]
        exact hby i hi
  · refine ⟨-1, s, s, ?_, ?_, I.mono (by omega)⟩
    · rw [e_202 (d := 1998)]
      unfold f_202
      unfold b_202_0
      rw [xg_0_1, t1, show nI t + 20 = nI (t + 20) from nI_add t 20, if_neg (show ¬ nI (t + 20) ≤ (3000 : Int32) from nI_ge (a := 3000) (by omega) (by omega))]
    · rw [e_258 (d := 1998)]
      unfold f_258
      unfold b_258_0
      rw [xg_97_1, t2, show nI t + 20 = nI (t + 20) from nI_add t 20, if_neg (show ¬ nI (t + 20) ≤ (3000 : Int32) from nI_ge (a := 3000) (by omega) (by omega))]
theorem Inv.st (I : Inv i s) : I_st s := by
  have kz : IZ s → I_st s := by
    intro ⟨⟨a1, a2⟩, ⟨a3, a4, a5, a6, a7⟩, ⟨a8, a9⟩, ⟨a10, a11⟩, _⟩
    exact ⟨by rw [a1, a2], fun _ => ⟨a3, a4, a5, a6, a9, a8, a10, a11, a7⟩, fun h => absurd a2 h⟩
  rcases I.2 with ⟨_, _, a3⟩ | ⟨T, N, b, p, t, rs, kb, z, tr, cs, G, hR⟩
  · exact kz a3
  · rcases hR with a3 | ⟨wm, cm, A, R⟩
    · exact kz a3
    · obtain ⟨w4, ⟨p1, p2, p3, p4⟩, k1, M, Mr, x1, K1, K2⟩ := R
      obtain ⟨⟨a1, a2, a3, a4⟩, ⟨a5, a6, a7⟩, ⟨a8, a9, a10⟩, _, _⟩ := M.1
      obtain ⟨⟨b1, b2', b3, b4⟩, ⟨b5, b6, b7⟩, ⟨b8, b9, b10⟩, _, _⟩ := Mr.1
      refine ⟨by rw [a1, b1], fun h => ?_, fun _ => ⟨by rw [a2, b2'], by rw [a3, b3], by rw [a4, b4], by rw [a5, b5], by rw [a8, b8], by rw [a9, b9], by rw [a10, b10], by rw [a6, b6], by rw [a7, b7]⟩⟩
      rw [a1] at h
      have := (nI_eq (b := 0) (by omega) (by omega)).mp h
      omega
theorem pair_state2 (I : Inv i s) (a : Int32) : PairOK (Inv (i + 1)) 212 341 [.int a] s := pair_state (I.mono (by omega)) I.st a
theorem Inv.sd (hi : i ≤ 512) (I : Inv i s) : I_said s := by
  have kz : IZ s → I_said s := by
    intro ⟨_, ⟨_, _, _, _, a7⟩, _⟩ k hk h
    rw [a7] at h
    exact absurd h (nI_pos (by omega))
  rcases I.2 with ⟨_, _, a3⟩ | ⟨T, N, b, p, t, rs, kb, z, tr, cs, G, hR⟩
  · exact kz a3
  · rcases hR with a3 | ⟨wm, cm, A, R⟩
    · exact kz a3
    · obtain ⟨w4, ⟨p1, p2, p3, p4⟩, k1, M, Mr, x1, K1, K2⟩ := R
      intro k hk h
      have sl := k1.2.le
      rw [M.1.2.1.2.2] at h
      have hk2 := (nI_ltI (by omega) (by omega)).mp h
      rw [M.1.2.2.2.2 k hk hk2, Mr.1.2.2.2.2 k hk hk2]
theorem pair_said2 (hi : i ≤ 511) (I : Inv i s) (a : Int32) : PairOK (Inv (i + 1)) 213 342 [.int a] s := pair_said (I.mono (by omega)) I.st (I.sd (by omega)) a
/-- fault: it answers -/
theorem pair_fault2 (I : Inv i s) (a : Int32) : PairGo (Inv (i + 1)) 206 336 [.int a] s := by
  have J : Inv (i + 1) s := I.mono (by omega)
  have c : ∃ r, mjF 1999 206 [.ref 0, .int a] (mjW0 s) = some (some (.int r), mjW0 s) := by
    rw [e_206 (d := 1998)]
    unfold f_206
    unfold b_206_0
    by_cases h0 : a = 0
    · rw [if_pos h0, xg_0_9]
      exact ⟨_, rfl⟩
    · rw [if_neg h0]
      by_cases h1 : a = 1
      · rw [if_pos h1, xg_0_10]
        exact ⟨_, rfl⟩
      · rw [if_neg h1]
        exact ⟨_, rfl⟩
  have m : ∃ r, mjF 1999 336 [.ref 97, .int a] (mjW0 s) = some (some (.int r), mjW0 s) := by
    rw [e_336 (d := 1998)]
    unfold f_336
    unfold b_336_0
    by_cases h0 : a = 0
    · rw [if_pos h0, xg_97_59]
      exact ⟨_, rfl⟩
    · rw [if_neg h0]
      by_cases h1 : a = 1
      · rw [if_pos h1, xg_97_60]
        exact ⟨_, rfl⟩
      · rw [if_neg h1]
        exact ⟨_, rfl⟩
  obtain ⟨r1, e1⟩ := c
  obtain ⟨r2, e2⟩ := m
  exact ⟨r1, r2, s, s, e1, e2, J⟩
end MJB83
end
section
/-! ===== type, isIn, on both ===== -/
section MJB84
variable {T : TT} {d N b kb q i c : Nat} {t : PT} {rs : List RcM} {z : PB} {tr : Bool} {cs : Nat → Nat} {s : mjSt3} {a v w : Int32}
/-- what the reference's rows hold of the program -/
theorem IPG.ref (G : IPG T N b q t rs kb z tr cs s) : s.1 100 b = nI t.1.length ∧ (∀ c, c < t.1.length → s.1 104 (16 * b + c) = nI (nmL t.1 c) ∧ s.1 102 (16 * b + c) = (T (hC t.1 c).1).2.1 ∧ s.1 106 (16 * b + c) = nI (inL t.1 c) ∧ s.1 109 (16 * b + c) = nI (fldT T t.1 c) ∧ s.1 110 (16 * b + c) = nI (mthL t.1 c) ∧ ABr T t.1 b s c) ∧ WIT b s t.1.length (knF T t.1) ∧ (∀ m, m < nMem t.1 → s.1 124 (400 * b + m) = nI (16 * b + hmM t.1 m) ∧ s.1 130 (400 * b + m) = nI (numM T t.1 m)) ∧ ∀ c, c < t.1.length → ∀ m, m < nMem t.1 → mSM t.1 m = false → (vwT (nmL t.1) (abT T t.1) c (hmM t.1 m)).isSome = true → s.1 184 (400 * (16 * b + c) + numM T t.1 m) = b2 (decide (2 ≤ tyM T t.1 m)) := by
  obtain ⟨s2, J, e1, e2, _⟩ := G.2.2.1.jbi G.2.1.2.2.2
  obtain ⟨⟨⟨RJ', W, _, _⟩, Q, Pl⟩, _, _⟩ := J
  refine ⟨by rw [← e1 100 (by decide)]; exact RJ'.2.1.1, fun c hc => ?_, ?_, fun m hm => ?_, fun c hc m hm ms vm => by rw [← e1 184 (by decide)]; exact Pl.2.2 c hc m hm ms vm⟩
  · have hd := RJ'.hd hc
    refine ⟨by rw [← e1 104 (by decide)]; exact hd.2.2.1.1, by rw [← e1 102 (by decide)]; exact hd.2.1, by rw [← e1 106 (by decide)]; exact hd.2.2.2.2.2.1.1, by rw [← e1 109 (by decide)]; exact (Pl.1 c hc).1, by rw [← e1 110 (by decide)]; exact (Pl.1 c hc).2, (Q.2 c hc).cg (e1 105 (by decide)).symm (e1 138 (by decide)).symm (e1 139 (by decide)).symm (e1 142 (by decide)).symm⟩
  · unfold WIT at W ⊢
    rw [← e1 119 (by decide)]
    exact W
  · rw [← e1 124 (by decide), ← e1 130 (by decide)]
    exact ⟨(RJ'.mem hm).1.1.1, Pl.2.1 m hm⟩
theorem bix (b k : Nat) : (16 : Int32) * nI b + nI k = nI (16 * b + k) := by rw [show (16 : Int32) = nI 16 from rfl, nI_mul, nI_add]
/-- isClass of the reference -/
theorem x_338n (h : s.1 97 10 = 0) : mjF (d + 1) 338 [.ref 97, .int a] (mjW0 s) = some (some (.int 0), mjW0 s) := by
  rw [e_338]
  unfold f_338 b_338_0 b_338_28
  rw [xg_97_10, if_pos h]
theorem x_338 (G : IPG T N b q t rs kb z tr cs s) : mjF (d + 1) 338 [.ref 97, .int a] (mjW0 s) = some (some (.int (if a < 0 ∨ nI t.1.length ≤ a then 0 else 1)), mjW0 s) := by
  rw [e_338]
  unfold f_338 b_338_0 b_338_28
  rw [xg_97_10, G.1.2.2.1, if_neg (show ¬ ((1 : Int32) = 0) by decide)]
  by_cases h1 : a < 0
  · rw [if_pos h1, if_pos (Or.inl h1)]
  · have hb := G.1.1
    rw [if_neg h1, xg_97_11, xg_97_9, G.1.2.1, wa_100 (by omega), G.ref.1]
    by_cases h2 : nI t.1.length ≤ a
    · rw [if_pos h2, if_pos (Or.inr h2)]
    · rw [if_neg h2, if_neg (fun x => x.elim h1 h2)]
theorem pair_type (I : Inv i s) (a v : Int32) : PairOK (Inv (i + 1)) 207 337 [.int a, .int v] s := by
  have J : Inv (i + 1) s := I.mono (by omega)
  rcases I.2 with ⟨a1, a2, a3⟩ | ⟨T, N, b, q, t, rs, kb, z, tr, cs, G, hR⟩
  · refine ⟨-1, s, s, ?_, ?_, J⟩
    · rw [e_207 (d := 1998)]
      unfold f_207 b_207_0 b_207_22
      rw [xg_0_8, a1, if_pos rfl]
    · rw [e_337 (d := 1998)]
      unfold f_337 b_337_0
      rw [xV_97, x_338n (d := 1997) a2, bI_s, if_pos rfl]
  · have hb := G.1.1
    have e8 := G.1.2.2.2.2
    have e6 := G.1.2.2.2.1
    have e9 := G.1.2.1
    obtain ⟨⟨g1, g2, g3, g4⟩, ⟨g5, g6, g7⟩, ⟨g8, g9, g10⟩, ⟨g11, g12⟩, g13, _⟩ := id G.2.2.2.1
    have hq : isP q := g1
    have hn := G.2.1.1.1.1.1
    obtain ⟨_, rf, _⟩ := G.ref
    have x338 := x_338 (d := 1997) (a := a) G
    by_cases hr : a < 0 ∨ nI t.1.length ≤ a
    · rw [if_pos hr] at x338
      refine ⟨-1, s, s, ?_, ?_, J⟩
      · rw [e_207 (d := 1998)]
        unfold f_207 b_207_0 b_207_22
        rw [xg_0_8, e8, if_neg (show ¬ ((1 : Int32) = 0) by decide)]
        by_cases h1 : a < 0
        · rw [if_pos h1]
        · rw [if_neg h1, xg_0_6, e6, yg_0 hq, g3, if_neg (Int32.not_lt.mpr (hr.resolve_left h1))]
      · rw [e_337 (d := 1998)]
        unfold f_337 b_337_0
        rw [xV_97, x338, bI_s, if_pos rfl]
    · rw [if_neg hr] at x338
      have a0 : ¬ a < 0 := fun x => hr (Or.inl x)
      have al : a < nI t.1.length := Int32.not_le.mp (fun x => hr (Or.inr x))
      obtain ⟨k, k31, ek⟩ := nI_of a0
      rw [ek] at al
      have kl : k < t.1.length := (nI_ltI (by omega) (by omega)).mp al
      obtain ⟨r1, r2, r3, r4, r5, r6⟩ := rf k kl
      obtain ⟨c1, c2, c3, c4, _⟩ := g13 k kl
      have kab : ∀ x, abT T t.1 k = some x → x < 2 ^ 31 := fun x hx => by
        have := (ab_v hn kl hx).lt hn
        omega
      have ab := x_above (d := 1996) (c := k) (s := s) hq (by omega) (o := abT T t.1 k) (by rw [g5 k (by omega), if_pos kl]) kab
      have up := x_242 (d := 1997) hb (by omega) hn kl r6
      have pc : mjF 1999 207 [.ref 0, .int a, .int v] (mjW0 s) = (f_207 (mjF 1998) 0 (nI k) v (mjW0 s)) := by rw [ek]; exact e_207 (d := 1998)
      have pr : mjF 1999 337 [.ref 97, .int a, .int v] (mjW0 s) = (f_337 (mjF 1998) 97 (nI k) v (mjW0 s)) := by rw [ek]; exact e_337 (d := 1998)
      rw [ek] at x338 a0
      unfold f_207 b_207_0 b_207_22 at pc
      rw [xg_0_8, e8, if_neg (show ¬ ((1 : Int32) = 0) by decide), if_neg a0, xg_0_6, e6, yg_0 hq, g3, if_pos al] at pc
      unfold f_337 b_337_0 at pr
      rw [xV_97, x338, bI_s, if_neg (show ¬ ((1 : Int32) = 0) by decide), xg_97_9, e9, bix] at pr
      by_cases v0 : v = 0
      · refine ⟨nI (nmL t.1 k), s, s, ?_, ?_, J⟩
        · rw [pc, if_pos v0, xg_0_6, e6, yg_1 hq, wya_1 hq (by omega), (g2 k (by omega)).1]
        · rw [pr, if_pos v0, xg_97_15, wa_104 (by omega), r1]
      by_cases v1 : v = 1
      · refine ⟨oI ((abT T t.1 k).map cK), s, s, ?_, ?_, J⟩
        · rw [pc, if_neg v0, if_pos v1, xg_0_6, e6, yV hq, ab, bI_s]
        · rw [pr, if_neg v0, if_pos v1, xV_97, up, bI_s]
          show _ = some (some (Value.int (oI (upT T t.1 k))), mjW0 s)
          cases hu : upT T t.1 k with
          | none => rw [if_pos (show cR b none = -1 from rfl)]; rfl
          | some x =>
            have xl := up_lt hn kl hu
            rw [hu] at up
            rw [if_neg (show ¬ cR b (some x) = -1 from nI_m1 (show 16 * b + x < 2 ^ 31 by omega)), xV_97, up, bI_s, xg_97_9, e9, show (16 : Int32) * nI b = nI (16 * b) by rw [show (16 : Int32) = nI 16 from rfl, nI_mul], show cR b (some x) = nI (16 * b + x) from rfl, pk_sub (by omega), show 16 * b + x - 16 * b = x by omega]
            rfl
      by_cases v2 : v = 2
      · refine ⟨nI (fldT T t.1 k), s, s, ?_, ?_, J⟩
        · rw [pc, if_neg v0, if_neg v1, if_pos v2, xg_0_6, e6, yg_8 hq, wya_8 hq (by omega), g8 k kl]
        · rw [pr, if_neg v0, if_neg v1, if_pos v2, xg_97_20, wa_109 (by omega), r4]
      by_cases v3 : v = 3
      · refine ⟨nI (mthL t.1 k), s, s, ?_, ?_, J⟩
        · rw [pc, if_neg v0, if_neg v1, if_neg v2, if_pos v3, xg_0_6, e6, yg_6 hq, wya_6 hq (by omega), c2]
        · rw [pr, if_neg v0, if_neg v1, if_neg v2, if_pos v3, xg_97_21, wa_110 (by omega), r5]
      by_cases v4 : v = 4
      · refine ⟨nI (inL t.1 k), s, s, ?_, ?_, J⟩
        · rw [pc, if_neg v0, if_neg v1, if_neg v2, if_neg v3, if_pos v4, xg_0_6, e6, yg_3 hq, wya_3 hq (by omega), (g6 k (by omega)).1]
        · rw [pr, if_neg v0, if_neg v1, if_neg v2, if_neg v3, if_pos v4, xg_97_17, wa_106 (by omega), r3]
      by_cases v5 : v = 5
      · refine ⟨(T (hC t.1 k).1).2.1, s, s, ?_, ?_, J⟩
        · rw [pc, if_neg v0, if_neg v1, if_neg v2, if_neg v3, if_neg v4, if_pos v5, xg_0_6, e6, yg_2 hq, wya_2 hq (by omega), c1]
        · rw [pr, if_neg v0, if_neg v1, if_neg v2, if_neg v3, if_neg v4, if_pos v5, xg_97_13, wa_102 (by omega), r2]
      refine ⟨-1, s, s, ?_, ?_, J⟩
      · rw [pc, if_neg v0, if_neg v1, if_neg v2, if_neg v3, if_neg v4, if_neg v5]
      · rw [pr, if_neg v0, if_neg v1, if_neg v2, if_neg v3, if_neg v4, if_neg v5]
end MJB84
end
section
/-! ===== isIn, on both ===== -/
def owAsk (n : Nat) (v : Int32) : Option Nat := if v = -1 then some 5 else if v = -2 then some 6 else if v < 0 then none else if nI n ≤ v then none else some (nN v)
section MJB85
variable {T : TT} {d N b kb q i n o k : Nat} {t : PT} {rs : List RcM} {z : PB} {tr : Bool} {cs : Nat → Nat} {s : mjSt3} {a v w : Int32}
theorem owAsk_s (n5 : n ≤ 5) (h : owAsk n v = some o) : o ≤ 6 ∧ v = oR o ∧ ¬ v < -2 ∧ ¬ nI n ≤ v := by
  unfold owAsk at h
  by_cases h1 : v = -1
  · rw [if_pos h1] at h
    have e := Option.some.inj h
    rw [← e, h1]
    refine ⟨by decide, rfl, by decide, fun x => ?_⟩
    exact absurd (show nI n < 0 from Int32.lt_of_le_of_lt x (by decide)) (nI_pos (by omega))
  rw [if_neg h1] at h
  by_cases h2 : v = -2
  · rw [if_pos h2] at h
    have e := Option.some.inj h
    rw [← e, h2]
    refine ⟨by decide, rfl, by decide, fun x => ?_⟩
    exact absurd (show nI n < 0 from Int32.lt_of_le_of_lt x (by decide)) (nI_pos (by omega))
  rw [if_neg h2] at h
  by_cases h3 : v < 0
  · rw [if_pos h3] at h; cases h
  rw [if_neg h3] at h
  by_cases h4 : nI n ≤ v
  · rw [if_pos h4] at h; cases h
  rw [if_neg h4] at h
  have e := Option.some.inj h
  obtain ⟨x, x31, ex⟩ := nI_of h3
  rw [ex, nN_nI (by omega)] at e
  rw [ex] at h4
  have xl := (nI_ltI (by omega) (by omega)).mp (Int32.not_le.mp h4)
  refine ⟨by omega, ?_, fun y => ?_, by rw [ex]; exact h4⟩
  · rw [ex, ← e]
    unfold oR
    rw [if_neg (by omega), if_neg (by omega)]
  · rw [ex] at y
    exact absurd (show nI x < 0 from Int32.lt_trans y (by decide)) (nI_pos (by omega))
theorem owAsk_n (h : owAsk n v = none) : v < -2 ∨ nI n ≤ v := by
  unfold owAsk at h
  by_cases h1 : v = -1
  · rw [if_pos h1] at h; cases h
  rw [if_neg h1] at h
  by_cases h2 : v = -2
  · rw [if_pos h2] at h; cases h
  rw [if_neg h2] at h
  by_cases h3 : v < 0
  · left
    rw [Int32.lt_iff_toInt_lt] at h3 ⊢
    have e1 : (-2 : Int32).toInt = -2 := by decide
    have e2 : (0 : Int32).toInt = 0 := by decide
    have n1 : ¬ v.toInt = -1 := fun e => h1 (Int32.toInt_inj.mp (by rw [e]; decide))
    have n2 : ¬ v.toInt = -2 := fun e => h2 (Int32.toInt_inj.mp (by rw [e]; decide))
    rw [e1]
    rw [e2] at h3
    omega
  rw [if_neg h3] at h
  by_cases h4 : nI n ≤ v
  · exact Or.inr h4
  · rw [if_neg h4] at h; cases h
theorem x_209 (hq : isP q) (e6 : s.2.2 0 6 = q) (k16 : k < 16) (e1 : s.1 (q + 1) k = nI n) : mjF (d + 1) 209 [.ref 0, .int (nI k), .int v] (mjW0 s) = some (some (.int (match owAsk n v with
    | some o => nI o
    | none => -1)), mjW0 s) := by
  rw [e_209]
  unfold f_209 b_209_0 b_209_37 owAsk
  by_cases h1 : v = -1
  · rw [if_pos h1, if_pos h1]; rfl
  rw [if_neg h1, if_neg h1]
  by_cases h2 : v = -2
  · rw [if_pos h2, if_pos h2]; rfl
  rw [if_neg h2, if_neg h2]
  by_cases h3 : v < 0
  · rw [if_pos h3, if_pos h3]
  rw [if_neg h3, if_neg h3, xg_0_6, e6, yg_1 hq, wya_1 hq k16, e1]
  by_cases h4 : nI n ≤ v
  · rw [if_pos h4, if_pos h4]
  · rw [if_neg h4, if_neg h4]
    obtain ⟨x, x31, ex⟩ := nI_of h3
    show _ = some (some (Value.int (nI (nN v))), mjW0 s)
    rw [ex, nN_nI (by omega)]
theorem pair_isIn (I : Inv i s) (a v w : Int32) : PairOK (Inv (i + 1)) 208 339 [.int a, .int v, .int w] s := by
  have J : Inv (i + 1) s := I.mono (by omega)
  rcases I.2 with ⟨a1, a2, a3⟩ | ⟨T, N, b, q, t, rs, kb, z, tr, cs, G, hR⟩
  · refine ⟨0, s, s, ?_, ?_, J⟩
    · rw [e_208 (d := 1998)]
      unfold f_208 b_208_0 b_208_22
      rw [xg_0_8, a1, if_pos rfl]
    · rw [e_339 (d := 1998)]
      unfold f_339 b_339_0
      rw [xV_97, x_338n (d := 1997) a2, bI_s, if_pos rfl]
  · have hb := G.1.1
    have e8 := G.1.2.2.2.2
    have e6 := G.1.2.2.2.1
    have e9 := G.1.2.1
    obtain ⟨⟨g1, g2, g3, g4⟩, ⟨g5, g6, g7⟩, ⟨g8, g9, g10⟩, ⟨g11, g12⟩, g13, _⟩ := id G.2.2.2.1
    have hq : isP q := g1
    obtain ⟨_, rf, wit, _⟩ := G.ref
    have x338 := x_338 (d := 1997) (a := a) G
    by_cases hr : a < 0 ∨ nI t.1.length ≤ a
    · rw [if_pos hr] at x338
      refine ⟨0, s, s, ?_, ?_, J⟩
      · rw [e_208 (d := 1998)]
        unfold f_208 b_208_0 b_208_22
        rw [xg_0_8, e8, if_neg (show ¬ ((1 : Int32) = 0) by decide)]
        by_cases h1 : a < 0
        · rw [if_pos h1]
        · rw [if_neg h1, xg_0_6, e6, yg_0 hq, g3, if_neg (Int32.not_lt.mpr (hr.resolve_left h1))]
      · rw [e_339 (d := 1998)]
        unfold f_339 b_339_0
        rw [xV_97, x338, bI_s, if_pos rfl]
    · rw [if_neg hr] at x338
      have a0 : ¬ a < 0 := fun x => hr (Or.inl x)
      have al : a < nI t.1.length := Int32.not_le.mp (fun x => hr (Or.inr x))
      obtain ⟨k, k31, ek⟩ := nI_of a0
      rw [ek] at al
      have kl : k < t.1.length := (nI_ltI (by omega) (by omega)).mp al
      obtain ⟨r1, _⟩ := rf k kl
      obtain ⟨p1, p2⟩ := g2 k (by omega)
      have pc : mjF 1999 208 [.ref 0, .int a, .int v, .int w] (mjW0 s) = (f_208 (mjF 1998) 0 (nI k) v w (mjW0 s)) := by rw [ek]; exact e_208 (d := 1998)
      have pr : mjF 1999 339 [.ref 97, .int a, .int v, .int w] (mjW0 s) = (f_339 (mjF 1998) 97 (nI k) v w (mjW0 s)) := by rw [ek]; exact e_339 (d := 1998)
      rw [ek] at x338 a0
      have y1 := x_209 (d := 1997) (v := v) hq e6 (show k < 16 by omega) p1
      have y2 := x_209 (d := 1997) (v := w) hq e6 (show k < 16 by omega) p1
      unfold f_208 b_208_0 b_208_22 b_208_71 at pc
      rw [xg_0_8, e8, if_neg (show ¬ ((1 : Int32) = 0) by decide), if_neg a0, xg_0_6, e6, yg_0 hq, g3, if_pos al, xV_0, y1, bI_s, xV_0, y2, bI_s] at pc
      unfold f_339 b_339_0 b_339_55 at pr
      rw [xV_97, x338, bI_s, if_neg (show ¬ ((1 : Int32) = 0) by decide), xg_97_9, e9, bix] at pr
      have rno : (v < -2 ∨ w < -2 ∨ nI (nmL t.1 k) ≤ v ∨ nI (nmL t.1 k) ≤ w) → mjF 1999 339 [.ref 97, .int a, .int v, .int w] (mjW0 s) = some (some (.int 0), mjW0 s) := by
        intro h
        rw [pr]
        by_cases h1 : v < -2
        · rw [if_pos h1]
        rw [if_neg h1]
        by_cases h2 : w < -2
        · rw [if_pos h2]
        rw [if_neg h2, xg_97_15, wa_104 (by omega), r1]
        by_cases h3 : nI (nmL t.1 k) ≤ v
        · rw [if_pos h3]
        rw [if_neg h3, xg_97_15, wa_104 (by omega), r1, if_neg (Int32.not_lt.mpr (((h.resolve_left h1).resolve_left h2).resolve_left h3))]
      cases h1 : owAsk (nmL t.1 k) v with
      | none =>
        rw [h1] at pc
        refine ⟨0, s, s, ?_, rno (by rcases owAsk_n h1 with x | x; exact Or.inl x; exact Or.inr (Or.inr (Or.inl x))), J⟩
        rw [pc]
        exact if_pos rfl
      | some o1 =>
        obtain ⟨q1, q2, q3, q4⟩ := owAsk_s p2 h1
        rw [h1] at pc
        dsimp only at pc
        rw [if_neg (nI_m1 (show o1 < 2 ^ 31 by omega))] at pc
        cases h2 : owAsk (nmL t.1 k) w with
        | none =>
          rw [h2] at pc
          refine ⟨0, s, s, ?_, rno (by rcases owAsk_n h2 with x | x; exact Or.inr (Or.inl x); exact Or.inr (Or.inr (Or.inr x))), J⟩
          rw [pc]
          exact if_pos rfl
        | some o2 =>
          obtain ⟨u1, u2, u3, u4⟩ := owAsk_s p2 h2
          rw [h2] at pc
          dsimp only at pc
          have kn := x_known (d := 1997) (h := some k) (a := o1) (b := o2) hq g10 (fun c hc => by cases hc; omega) (by omega) (by omega)
          have kn' : mjF 1998 107 [.ref q, .int (nI k), .int (nI o1), .int (nI o2)] (mjW0 s) = some (some (.int (b2 (knF T t.1 k o1 o2))), mjW0 s) := kn
          refine ⟨b2 (knF T t.1 k o1 o2), s, s, ?_, ?_, J⟩
          · rw [pc, if_neg (nI_m1 (show o2 < 2 ^ 31 by omega)), xg_0_6, e6, yV hq, kn', bI_s]
            cases knF T t.1 k o1 o2 <;> first | rfl | (rw [if_pos (b2_nar _)])
          · have w1 := wit k kl o1 (by omega) o2 (by omega)
            have ix : (49 : Int32) * nI (16 * b + k) + (7 : Int32) * nI (rwR o1) + nI (rwR o2) = nI (49 * (16 * b + k) + 7 * rwR o1 + rwR o2) := by rw [show (49 : Int32) = nI 49 from rfl, show (7 : Int32) = nI 7 from rfl, nI_mul, nI_mul, nI_add, nI_add]
            have rb : ∀ o, o ≤ 6 → rwR o ≤ 6 := fun o ho => by unfold rwR; split <;> (try split) <;> omega
            have b1 := rb o1 q1
            have b2' := rb o2 u1
            rw [pr, if_neg q3, if_neg u3, xg_97_15, wa_104 (by omega), r1, if_neg q4, xg_97_15, wa_104 (by omega), r1, if_pos (Int32.not_le.mp u4), xg_97_30, q2, x_312 (d := 1997) q1, bI_s, u2, x_312 (d := 1997) u1, bI_s, ix, wa_119 (by omega), w1]
            cases knF T t.1 k o1 o2 <;> first | rfl | (rw [if_pos (b2_nar _)])
end MJB85
end
section
/-! ===== the OBJECTS, on both ===== -/
/-- how many owners, from a on -/
def chN (H : HEAP) : Nat → Nat → Nat
  | 0, _ => 0
  | n + 1, a => if a = 0 then 0 else chN H n ((H.2 a).2.1 0) + 1
/-- is c the OBJECT a, or an owner of it -/
def inF (H : HEAP) (c : Nat) : Nat → Nat → Bool
  | 0, a => decide (a = c)
  | n + 1, a => if a = c then true else if a = 0 then false else inF H c n ((H.2 a).2.1 0)
section MJB86
variable {T : TT} {d N b kb q i o c m n : Nat} {t : PT} {L : List CD} {rs : List RcM} {z : PB} {tr : Bool} {cs : Nat → Nat} {H : HEAP} {s : mjSt3} {a v : Int32}
theorem x_43g : mjF (d + 1) 43 [.ref 79, .int a] (mjW0 s) = some (some (.int (if a ≤ 0 ∨ s.1 79 2 < a then 0 else 1)), mjW0 s) := by
  rw [e_43]
  unfold f_43 b_43_0
  by_cases h1 : a ≤ 0
  · rw [if_pos h1, if_pos (Or.inl h1)]; rfl
  · rw [if_neg h1, xg_79_2]
    by_cases h2 : s.1 79 2 < a
    · rw [if_pos h2, if_pos (Or.inr h2)]; rfl
    · rw [if_neg h2, if_neg (fun x => x.elim h1 h2)]
theorem x_246g : mjF (d + 1) 246 [.ref 97, .int a] (mjW0 s) = some (some (.int (if s.1 97 96 ≤ 0 ∨ a < 1 ∨ s.1 97 103 < a then 0 else 1)), mjW0 s) := by
  rw [e_246]
  unfold f_246 b_246_0 b_246_24
  rw [xg_97_96]
  by_cases h1 : s.1 97 96 ≤ 0
  · rw [if_pos h1, if_pos (Or.inl h1)]
  rw [if_neg h1]
  by_cases h2 : a < 1
  · rw [if_pos h2, if_pos (Or.inr (Or.inl h2))]
  rw [if_neg h2, xg_97_103]
  by_cases h3 : s.1 97 103 < a
  · rw [if_pos h3, if_pos (Or.inr (Or.inr h3))]
  · rw [if_neg h3, if_neg (fun x => x.elim h1 (fun x => x.elim h2 h3))]
theorem lt_1 : a < 1 ↔ a ≤ 0 := by
  rw [Int32.lt_iff_toInt_lt, Int32.le_iff_toInt_le]
  have e1 : (1 : Int32).toInt = 1 := by decide
  have e0 : (0 : Int32).toInt = 0 := by decide
  rw [e1, e0]
  omega
theorem IRN.hb {wm cm : Nat} {A : AMS} (G : IPG T N b q t rs kb z tr cs s) (R : IRN i T b q t rs z tr cs wm cm A s) : HBs T t.1 A.1 := ⟨Nat.le_trans R.2.2.1.1.2.1 R.1.1, bs_3 G.2.1.1.1.1.1 A.1 A.1.1 (fun o o1 o2 => (R.2.2.1.1.1 o o1 o2).1)⟩
/-- an OBJECT of that number: on both, or on none -/
theorem Inv.obj (I : Inv i s) (a : Int32) : ((∀ d, mjF (d + 1) 43 [.ref 79, .int a] (mjW0 s) = some (some (.int 0), mjW0 s)) ∧ ∀ d, mjF (d + 1) 246 [.ref 97, .int a] (mjW0 s) = some (some (.int 0), mjW0 s)) ∨ ∃ T N b q t rs kb z tr cs wm cm A o, IPG T N b q t rs kb z tr cs s ∧ IRN i T b q t rs z tr cs wm cm A s ∧ HBs T t.1 A.1 ∧ a = nI o ∧ 1 ≤ o ∧ o ≤ A.1.1 ∧ (∀ d, mjF (d + 1) 43 [.ref 79, .int a] (mjW0 s) = some (some (.int 1), mjW0 s)) ∧ ∀ d, mjF (d + 1) 246 [.ref 97, .int a] (mjW0 s) = some (some (.int 1), mjW0 s) := by
  have kz : IZ s → (∀ d, mjF (d + 1) 43 [.ref 79, .int a] (mjW0 s) = some (some (.int 0), mjW0 s)) ∧ ∀ d, mjF (d + 1) 246 [.ref 97, .int a] (mjW0 s) = some (some (.int 0), mjW0 s) := by
    intro ⟨⟨a1, a2⟩, _, ⟨a3, _⟩, _⟩
    refine ⟨fun d => ?_, fun d => ?_⟩
    · rw [x_43g, a3, if_pos (show a ≤ 0 ∨ 0 < a from (Classical.em (a ≤ 0)).elim Or.inl (fun h => Or.inr (Int32.not_le.mp h)))]
    · rw [x_246g, a1, if_pos (Or.inl (Int32.le_refl 0))]
  rcases I.2 with ⟨_, _, a3⟩ | ⟨T, N, b, q, t, rs, kb, z, tr, cs, G, hR⟩
  · exact Or.inl (kz a3)
  rcases hR with a3 | ⟨wm, cm, A, R⟩
  · exact Or.inl (kz a3)
  have B := R.hb G
  have b1 := B.1
  have b2' := B.2
  have c79 : s.1 79 2 = nI A.1.1 := R.2.2.2.1.1.2.2.1.2.1
  have r103 : s.1 97 103 = nI A.1.1 := R.2.2.2.2.1.1.2.2.1.2.1
  have r96 : s.1 97 96 = nI A.2.2.2.2.2.2.2.2.1 := R.2.2.2.2.1.1.1.1
  have p1 := R.2.1.1
  have p3 := R.2.1.2.1
  have n96 : ¬ s.1 97 96 ≤ 0 := by rw [r96]; exact nI_nle (by omega) (by omega)
  by_cases h : a ≤ 0 ∨ nI A.1.1 < a
  · refine Or.inl ⟨fun d => ?_, fun d => ?_⟩
    · rw [x_43g, c79, if_pos h]
    · rw [x_246g, r103, if_pos (h.elim (fun x => Or.inr (Or.inl (lt_1.mpr x))) (fun x => Or.inr (Or.inr x)))]
  · have h0 : ¬ a ≤ 0 := fun x => h (Or.inl x)
    have h1 : ¬ nI A.1.1 < a := fun x => h (Or.inr x)
    obtain ⟨o, o31, eo⟩ := nI_of (x := a) (fun x => h0 (Int32.le_of_lt x))
    have ol : o ≤ A.1.1 := by
      rw [eo] at h1
      exact (nI_leI (by omega) (by omega)).mp (Int32.not_lt.mp h1)
    have o1 : 1 ≤ o := by
      by_cases g : o = 0
      · rw [eo, g] at h0
        exact absurd (show nI 0 ≤ (0 : Int32) by decide) h0
      · omega
    refine Or.inr ⟨T, N, b, q, t, rs, kb, z, tr, cs, wm, cm, A, o, G, R, B, eo, o1, ol, fun d => ?_, fun d => ?_⟩
    · rw [x_43g, c79, if_neg h]
    · rw [x_246g, r103, if_neg (fun x => x.elim n96 (fun x => x.elim (fun y => h0 (lt_1.mp y)) h1))]
/-- an OBJECT's first OWNER, the reference -/
theorem x_253 (hP : HPr T L b H s) (B : HBs T L H) (n1 : 1 ≤ nmL L (H.2 o).1) (o1 : 1 ≤ o) (o2 : o ≤ H.1) : mjF (d + 1) 253 [.ref 97, .int (nI o)] (mjW0 s) = some (some (.int (nI ((H.2 o).2.1 0))), mjW0 s) := by
  obtain ⟨p1, p2, p3, p4⟩ := hP o o1 o2
  have l := fr_lt T L H o1 o2
  have b1 := B.1
  have b2' := B.2
  have p3' := p3 0 (by omega)
  rw [e_253]
  unfold f_253 b_253_0
  rw [xg_97_108, xg_97_110, wa_170 (by omega), p2, wa_168 (by omega), show frO T L H o = frO T L H o + 0 from rfl, p3']
theorem L51_S (R : mjR) (n a : Nat) (x y : Int32) (hp : mjH) : L_51_9 R (n + 1) a x y hp = b_51_9 R (L_51_9 R n) a x y hp := rfl
theorem L347_S (R : mjR) (n a : Nat) (x y : Int32) (hp : mjH) : L_347_8 R (n + 1) a x y hp = b_347_8 R (L_347_8 R n) a x y hp := rfl
theorem L52_S (R : mjR) (n a : Nat) (x y w : Int32) (hp : mjH) : L_52_5 R (n + 1) a x y w hp = b_52_5 R (L_52_5 R n) a x y w hp := rfl
theorem L350_S (R : mjR) (n a : Nat) (x y : Int32) (hp : mjH) : L_350_24 R (n + 1) a x y hp = b_350_24 R (L_350_24 R n) a x y hp := rfl
theorem lq_51 (hH : HPc T L H s) (B : HBs T L H) (h79 : s.1 79 2 = nI H.1) (hO : HOK T L H) (n1 : ∀ o, 1 ≤ o → o ≤ H.1 → 1 ≤ nmL L (H.2 o).1) : ∀ (n m dep a : Nat), a ≤ n → dep + a ≤ H.1 → a < m → L_51_9 (mjF (d + 1)) m 79 (nI dep) (nI a) (mjW0 s) = some (some (.int (nI (dep + chN H n a))), mjW0 s)
  | n, 0, dep, a, ha, hd, hm => by omega
  | 0, m + 1, dep, a, ha, hd, hm => by
    have e : a = 0 := by omega
    rw [L51_S]
    unfold b_51_9 b_51_34
    rw [e, if_pos (show nI 0 ≤ (0 : Int32) by decide)]
    rfl
  | n + 1, m + 1, dep, a, ha, hd, hm => by
    have b1 := B.1
    have b2' := B.2
    rw [L51_S]
    unfold b_51_9 b_51_34
    by_cases e : a = 0
    · rw [e, if_pos (show nI 0 ≤ (0 : Int32) by decide)]
      rfl
    · have ol := (hO a (by omega) (by omega)).2.1 0
      have ih := lq_51 hH B h79 hO n1 n m (dep + 1) ((H.2 a).2.1 0) (by omega) (by omega) (by omega)
      have ec : dep + chN H (n + 1) a = dep + 1 + chN H n ((H.2 a).2.1 0) := by
        show dep + (if a = 0 then 0 else chN H n ((H.2 a).2.1 0) + 1) = _
        rw [if_neg e]
        omega
      rw [if_neg (nI_nle (by omega) (by omega)), xg_79_2, h79, if_neg (nI_nlt (by omega) (by omega)), xV_79, show (0 : Int32) = nI 0 from rfl, x_49 hH B (by omega) (by omega) (n1 a (by omega) (by omega)), bI_s, nI_1, ih, ec]
theorem lq_347 (hP : HPr T L b H s) (B : HBs T L H) (hO : HOK T L H) (n1 : ∀ o, 1 ≤ o → o ≤ H.1 → 1 ≤ nmL L (H.2 o).1) : ∀ (n m dep a : Nat), a ≤ n → a ≤ H.1 → a < m → L_347_8 (mjF (d + 1)) m 97 (nI dep) (nI a) (mjW0 s) = some (some (.int (nI (dep + chN H n a))), mjW0 s)
  | n, 0, dep, a, ha, hd, hm => by omega
  | 0, m + 1, dep, a, ha, hd, hm => by
    have e : a = 0 := by omega
    rw [L347_S]
    unfold b_347_8
    rw [e, if_pos (show nI 0 = 0 from rfl)]
    rfl
  | n + 1, m + 1, dep, a, ha, hd, hm => by
    have b1 := B.1
    have b2' := B.2
    rw [L347_S]
    unfold b_347_8
    by_cases e : a = 0
    · rw [e, if_pos (show nI 0 = 0 from rfl)]
      rfl
    · have ol := (hO a (by omega) (by omega)).2.1 0
      have ih := lq_347 hP B hO n1 n m (dep + 1) ((H.2 a).2.1 0) (by omega) (by omega) (by omega)
      have ec : dep + chN H (n + 1) a = dep + 1 + chN H n ((H.2 a).2.1 0) := by
        show dep + (if a = 0 then 0 else chN H n ((H.2 a).2.1 0) + 1) = _
        rw [if_neg e]
        omega
      rw [if_neg (nI_ne0 (by omega) (by omega)), xV_97, x_253 hP B (n1 a (by omega) (by omega)) (by omega) (by omega), bI_s, nI_1, ih, ec]
/-- below the one that is asked for -/
theorem inF_lt (hO : HOK T L H) : ∀ (n a : Nat), a ≤ c → a ≤ H.1 → inF H c n a = decide (a = c)
  | 0, a, h, ha => rfl
  | n + 1, a, h, ha => by
    show (if a = c then true else if a = 0 then false else inF H c n ((H.2 a).2.1 0)) = _
    by_cases e : a = c
    · rw [if_pos e, decide_eq_true e]
    · rw [if_neg e, decide_eq_false e]
      by_cases e0 : a = 0
      · rw [if_pos e0]
      · have ol := (hO a (by omega) (by omega)).2.1 0
        rw [if_neg e0, inF_lt hO n ((H.2 a).2.1 0) (by omega) (by omega)]
        exact decide_eq_false (by omega)
theorem inF_0 (hO : HOK T L H) : ∀ (n a : Nat), a ≤ n → a ≤ H.1 → inF H 0 n a = true
  | 0, a, h, ha => by
    have e : a = 0 := by omega
    rw [e]
    rfl
  | n + 1, a, h, ha => by
    show (if a = 0 then true else if a = 0 then false else inF H 0 n ((H.2 a).2.1 0)) = _
    by_cases e : a = 0
    · rw [if_pos e]
    · have ol := (hO a (by omega) (by omega)).2.1 0
      rw [if_neg e, if_neg e]
      exact inF_0 hO n _ (by omega) (by omega)
theorem lq_52 (hH : HPc T L H s) (B : HBs T L H) (h79 : s.1 79 2 = nI H.1) (hO : HOK T L H) (n1 : ∀ o, 1 ≤ o → o ≤ H.1 → 1 ≤ nmL L (H.2 o).1) (hc : c ≤ H.1) : ∀ (n m k a : Nat), a ≤ n → k + a ≤ H.1 → a < m → L_52_5 (mjF (d + 1)) m 79 (nI c) (nI a) (nI k) (mjW0 s) = some (some (.int (b2 (inF H c n a))), mjW0 s)
  | n, 0, k, a, ha, hd, hm => by omega
  | n, m + 1, k, a, ha, hd, hm => by
    have b1 := B.1
    have b2' := B.2
    rw [L52_S]
    unfold b_52_5
    rw [xg_79_2, h79, if_neg (nI_nlt (by omega) (by omega))]
    by_cases g : a ≤ c
    · rw [if_pos (nI_le g (by omega)), inF_lt hO n a g (by omega)]
      unfold b_52_32 b_52_41
      by_cases e : a = c
      · rw [if_pos (by rw [e]), decide_eq_true e]; rfl
      · rw [if_neg (fun x => e ((nI_eq (by omega) (by omega)).mp x)), decide_eq_false e, if_neg (nI_ne0 (by omega) (by omega))]; rfl
    · cases n with
      | zero => omega
      | succ n =>
        have ol := (hO a (by omega) (by omega)).2.1 0
        have ih := lq_52 hH B h79 hO n1 hc n m (k + 1) ((H.2 a).2.1 0) (by omega) (by omega) (by omega)
        have ec : inF H c (n + 1) a = inF H c n ((H.2 a).2.1 0) := by
          show (if a = c then true else if a = 0 then false else inF H c n ((H.2 a).2.1 0)) = _
          rw [if_neg (by omega), if_neg (by omega)]
        rw [if_neg (nI_ge (by omega) (by omega)), xV_79, show (0 : Int32) = nI 0 from rfl, x_49 hH B (by omega) (by omega) (n1 a (by omega) (by omega)), bI_s, nI_1, ih, ec]
theorem lq_350 (hP : HPr T L b H s) (B : HBs T L H) (hO : HOK T L H) (n1 : ∀ o, 1 ≤ o → o ≤ H.1 → 1 ≤ nmL L (H.2 o).1) (hc : c ≤ H.1) : ∀ (n m a : Nat), a ≤ n → a ≤ H.1 → a < m → L_350_24 (mjF (d + 1)) m 97 (nI c) (nI a) (mjW0 s) = some (some (.int (b2 (inF H c n a))), mjW0 s)
  | n, 0, a, ha, hd, hm => by omega
  | n, m + 1, a, ha, hd, hm => by
    have b1 := B.1
    have b2' := B.2
    rw [L350_S]
    unfold b_350_24 b_350_42
    by_cases e0 : a = 0
    · rw [e0, if_pos (show nI 0 = 0 from rfl), inF_lt hO n 0 (Nat.zero_le _) (Nat.zero_le _)]
      by_cases e : 0 = c
      · rw [if_pos (by rw [e]), decide_eq_true e]; rfl
      · rw [if_neg (fun x => e ((nI_eq (by omega) (by omega)).mp x)), decide_eq_false e]; rfl
    · rw [if_neg (nI_ne0 (by omega) (by omega))]
      by_cases e : a = c
      · rw [if_pos (by rw [e]), if_pos (by rw [e])]
        cases n with
        | zero => omega
        | succ n =>
          have ec : inF H c (n + 1) a = true := if_pos e
          rw [ec]
          rfl
      · rw [if_neg (fun x => e ((nI_eq (by omega) (by omega)).mp x))]
        cases n with
        | zero => omega
        | succ n =>
          have ol := (hO a (by omega) (by omega)).2.1 0
          have ih := lq_350 hP B hO n1 hc n m ((H.2 a).2.1 0) (by omega) (by omega) (by omega)
          have ec : inF H c (n + 1) a = inF H c n ((H.2 a).2.1 0) := by
            show (if a = c then true else if a = 0 then false else inF H c n ((H.2 a).2.1 0)) = _
            rw [if_neg e, if_neg e0]
          rw [xV_97, x_253 hP B (n1 a (by omega) (by omega)) (by omega) (by omega), bI_s, ih, ec]
end MJB86
end
section
/-! ===== object, owner, field, isInside, on both ===== -/
section MJB87
variable {T : TT} {d N b kb q i o c m n wm cm : Nat} {t : PT} {L : List CD} {rs : List RcM} {z : PB} {tr : Bool} {cs : Nat → Nat} {H : HEAP} {A : AMS} {s : mjSt3} {a v : Int32}
theorem IRN.obj (G : IPG T N b q t rs kb z tr cs s) (R : IRN i T b q t rs z tr cs wm cm A s) (a : Int32) : ((∀ d, mjF (d + 1) 43 [.ref 79, .int a] (mjW0 s) = some (some (.int 0), mjW0 s)) ∧ ∀ d, mjF (d + 1) 246 [.ref 97, .int a] (mjW0 s) = some (some (.int 0), mjW0 s)) ∨ ∃ o, a = nI o ∧ 1 ≤ o ∧ o ≤ A.1.1 ∧ (∀ d, mjF (d + 1) 43 [.ref 79, .int a] (mjW0 s) = some (some (.int 1), mjW0 s)) ∧ ∀ d, mjF (d + 1) 246 [.ref 97, .int a] (mjW0 s) = some (some (.int 1), mjW0 s) := by
  have B := R.hb G
  have b1 := B.1
  have b2' := B.2
  have c79 : s.1 79 2 = nI A.1.1 := R.2.2.2.1.1.2.2.1.2.1
  have r103 : s.1 97 103 = nI A.1.1 := R.2.2.2.2.1.1.2.2.1.2.1
  have r96 : s.1 97 96 = nI A.2.2.2.2.2.2.2.2.1 := R.2.2.2.2.1.1.1.1
  have p1 := R.2.1.1
  have p3 := R.2.1.2.1
  have n96 : ¬ s.1 97 96 ≤ 0 := by rw [r96]; exact nI_nle (by omega) (by omega)
  by_cases h : a ≤ 0 ∨ nI A.1.1 < a
  · refine Or.inl ⟨fun d => ?_, fun d => ?_⟩
    · rw [x_43g, c79, if_pos h]
    · rw [x_246g, r103, if_pos (h.elim (fun x => Or.inr (Or.inl (lt_1.mpr x))) (fun x => Or.inr (Or.inr x)))]
  · have h0 : ¬ a ≤ 0 := fun x => h (Or.inl x)
    have h1 : ¬ nI A.1.1 < a := fun x => h (Or.inr x)
    obtain ⟨o, o31, eo⟩ := nI_of (x := a) (fun x => h0 (Int32.le_of_lt x))
    have ol : o ≤ A.1.1 := by
      rw [eo] at h1
      exact (nI_leI (by omega) (by omega)).mp (Int32.not_lt.mp h1)
    have o1 : 1 ≤ o := by
      by_cases g : o = 0
      · rw [eo, g] at h0
        exact absurd (show nI 0 ≤ (0 : Int32) by decide) h0
      · omega
    refine Or.inr ⟨o, eo, o1, ol, fun d => ?_, fun d => ?_⟩
    · rw [x_43g, c79, if_neg h]
    · rw [x_246g, r103, if_neg (fun x => x.elim n96 (fun x => x.elim (fun y => h0 (lt_1.mp y)) h1))]
/-- what is to be known of an OBJECT -/
theorem IRN.at (G : IPG T N b q t rs kb z tr cs s) (R : IRN i T b q t rs z tr cs wm cm A s) : HPc T t.1 A.1 s ∧ HPr T t.1 b A.1 s ∧ HOK T t.1 A.1 ∧ s.1 79 2 = nI A.1.1 ∧ (∀ o, 1 ≤ o → o ≤ A.1.1 → (A.1.2 o).1 < t.1.length ∧ 1 ≤ nmL t.1 (A.1.2 o).1 ∧ nmL t.1 (A.1.2 o).1 ≤ 5) ∧ t.1.length ≤ 16 := by
  have hn := G.2.1.1.1.1.1
  refine ⟨R.2.2.2.1.2.1, R.2.2.2.2.1.2.1, R.2.2.1.1.1, R.2.2.2.1.1.2.2.1.2.1, fun o o1 o2 => ?_, hn.1⟩
  have cl := (R.2.2.1.1.1 o o1 o2).1
  exact ⟨cl, vK.n5 hn cl⟩
theorem x_51 (hH : HPc T L H s) (B : HBs T L H) (h79 : s.1 79 2 = nI H.1) (hO : HOK T L H) (n1 : ∀ o, 1 ≤ o → o ≤ H.1 → 1 ≤ nmL L (H.2 o).1) (o1 : 1 ≤ o) (o2 : o ≤ H.1) : mjF (d + 2) 51 [.ref 79, .int (nI o)] (mjW0 s) = some (some (.int (nI (chN H H.1 ((H.2 o).2.1 0)))), mjW0 s) := by
  have b1 := B.1
  have b2' := B.2
  have ol := (hO o o1 o2).2.1 0
  have k := lq_51 (d := d) hH B h79 hO n1 H.1 mjN 0 ((H.2 o).2.1 0) (by omega) (by omega) (by unfold mjN; omega)
  rw [Nat.zero_add] at k
  rw [e_51]
  unfold f_51 b_51_0
  rw [xV_79, show (0 : Int32) = nI 0 from rfl, x_49 hH B o1 o2 (n1 o o1 o2), bI_s]
  exact k
theorem x_347 (hP : HPr T L b H s) (B : HBs T L H) (hO : HOK T L H) (n1 : ∀ o, 1 ≤ o → o ≤ H.1 → 1 ≤ nmL L (H.2 o).1) (o1 : 1 ≤ o) (o2 : o ≤ H.1) : mjF (d + 2) 347 [.ref 97, .int (nI o)] (mjW0 s) = some (some (.int (nI (chN H H.1 ((H.2 o).2.1 0)))), mjW0 s) := by
  have b1 := B.1
  have b2' := B.2
  have ol := (hO o o1 o2).2.1 0
  have k := lq_347 (d := d) hP B hO n1 H.1 mjN 0 ((H.2 o).2.1 0) (by omega) (by omega) (by unfold mjN; omega)
  rw [Nat.zero_add] at k
  rw [e_347]
  unfold f_347 b_347_0
  rw [xV_97, x_253 hP B (n1 o o1 o2) o1 o2, bI_s]
  exact k
theorem m16 (b k : Nat) : nI (16 * b + k) - (16 : Int32) * nI b = nI k := by
  rw [show (16 : Int32) = nI 16 from rfl, nI_mul, pk_sub (by omega), show 16 * b + k - 16 * b = k by omega]
theorem pair_object (I : Inv i s) (a v : Int32) : PairOK (Inv (i + 1)) 216 346 [.int a, .int v] s := by
  have J : Inv (i + 1) s := I.mono (by omega)
  rcases I.obj a with ⟨c43, r246⟩ | ⟨T, N, b, q, t, rs, kb, z, tr, cs, wm, cm, A, o, G, R, B, eo, o1, o2, c43, r246⟩
  · refine ⟨-1, s, s, ?_, ?_, J⟩
    · rw [e_216 (d := 1998)]
      unfold f_216 b_216_0
      rw [xg_0_11, xV_79, c43 1997, bI_s, if_pos rfl]
    · rw [e_346 (d := 1998)]
      unfold f_346 b_346_0
      rw [xV_97, r246 1997, bI_s, if_pos rfl]
  · obtain ⟨hHc, hPr, hO, h79, hcl, l16⟩ := R.at G
    obtain ⟨cl, n1, n5⟩ := hcl o o1 o2
    have n1' : ∀ o, 1 ≤ o → o ≤ A.1.1 → 1 ≤ nmL t.1 (A.1.2 o).1 := fun o o1 o2 => (hcl o o1 o2).2.1
    have hb := G.1.1
    have e6 := G.1.2.2.2.1
    have e9 := G.1.2.1
    have hq : isP q := G.2.2.2.1.1.1
    have g8 := G.2.2.2.1.2.2.1.1
    obtain ⟨_, rf, _⟩ := G.ref
    obtain ⟨r1, r2, r3, r4, r5, r6⟩ := rf (A.1.2 o).1 cl
    have b1 := B.1
    have b2' := B.2
    have p169 := (hPr o o1 o2).1
    have c43' := c43 1997
    have r246' := r246 1997
    have pc : mjF 1999 216 [.ref 0, .int a, .int v] (mjW0 s) = (f_216 (mjF 1998) 0 (nI o) v (mjW0 s)) := by rw [eo]; exact e_216 (d := 1998)
    have pr : mjF 1999 346 [.ref 97, .int a, .int v] (mjW0 s) = (f_346 (mjF 1998) 97 (nI o) v (mjW0 s)) := by rw [eo]; exact e_346 (d := 1998)
    rw [eo] at c43' r246'
    unfold f_216 b_216_0 at pc
    rw [xg_0_11, xV_79, c43', bI_s, if_neg (show ¬ ((1 : Int32) = 0) by decide)] at pc
    unfold f_346 b_346_0 at pr
    rw [xV_97, r246', bI_s, if_neg (show ¬ ((1 : Int32) = 0) by decide), xg_97_109, wa_169 (by omega), p169] at pr
    by_cases v0 : v = 0
    · refine ⟨nI (A.1.2 o).1, s, s, ?_, ?_, J⟩
      · rw [pc, if_pos v0, xg_0_11, xV_79, x_46 hHc B o1 o2, bI_s]
      · rw [pr, if_pos v0, xg_97_9, e9, m16]
    by_cases v1 : v = 1
    · refine ⟨nI ((A.1.2 o).2.1 0), s, s, ?_, ?_, J⟩
      · rw [pc, if_neg v0, if_pos v1, xg_0_11, xV_79, show (0 : Int32) = nI 0 from rfl, x_49 hHc B o1 o2 n1, bI_s]
      · rw [pr, if_neg v0, if_pos v1, xV_97, x_253 hPr B n1 o1 o2, bI_s]
    by_cases v2 : v = 2
    · refine ⟨nI (nmL t.1 (A.1.2 o).1), s, s, ?_, ?_, J⟩
      · rw [pc, if_neg v0, if_neg v1, if_pos v2, xg_0_11, xV_79, x_48 hHc B o1 o2, bI_s]
      · rw [pr, if_neg v0, if_neg v1, if_pos v2, xg_97_15, wa_104 (by omega), r1]
    by_cases v3 : v = 3
    · refine ⟨nI (fldT T t.1 (A.1.2 o).1), s, s, ?_, ?_, J⟩
      · rw [pc, if_neg v0, if_neg v1, if_neg v2, if_pos v3, xg_0_6, e6, yg_8 hq, xg_0_11, xV_79, x_46 hHc B o1 o2, bI_s, wya_8 hq (by omega), g8 _ cl]
      · rw [pr, if_neg v0, if_neg v1, if_neg v2, if_pos v3, xg_97_20, wa_109 (by omega), r4]
    by_cases v4 : v = 4
    · refine ⟨nI (chN A.1 A.1.1 ((A.1.2 o).2.1 0)), s, s, ?_, ?_, J⟩
      · rw [pc, if_neg v0, if_neg v1, if_neg v2, if_neg v3, if_pos v4, xg_0_11, xV_79, x_51 (d := 1996) hHc B h79 hO n1' o1 o2, bI_s]
      · rw [pr, if_neg v0, if_neg v1, if_neg v2, if_neg v3, if_pos v4, xV_97, x_347 (d := 1996) hPr B hO n1' o1 o2, bI_s]
    · refine ⟨-1, s, s, ?_, ?_, J⟩
      · rw [pc, if_neg v0, if_neg v1, if_neg v2, if_neg v3, if_neg v4]
      · rw [pr, if_neg v0, if_neg v1, if_neg v2, if_neg v3, if_neg v4]
theorem pair_owner (I : Inv i s) (a v : Int32) : PairOK (Inv (i + 1)) 217 348 [.int a, .int v] s := by
  have J : Inv (i + 1) s := I.mono (by omega)
  rcases I.obj a with ⟨c43, r246⟩ | ⟨T, N, b, q, t, rs, kb, z, tr, cs, wm, cm, A, o, G, R, B, eo, o1, o2, c43, r246⟩
  · refine ⟨-1, s, s, ?_, ?_, J⟩
    · rw [e_217 (d := 1998)]
      unfold f_217 b_217_0 b_217_31 b_217_32
      rw [xg_0_11, xV_79, c43 1997, bI_s, if_pos rfl, if_pos rfl]
    · rw [e_348 (d := 1998)]
      unfold f_348 b_348_0 b_348_27
      rw [xV_97, r246 1997, bI_s, if_pos rfl]
  · obtain ⟨hHc, hPr, hO, h79, hcl, l16⟩ := R.at G
    obtain ⟨cl, n1, n5⟩ := hcl o o1 o2
    have hb := G.1.1
    obtain ⟨_, rf, _⟩ := G.ref
    obtain ⟨r1, r2, r3, r4, r5, r6⟩ := rf (A.1.2 o).1 cl
    have b1 := B.1
    have b2' := B.2
    obtain ⟨p1, p2, p3, p4⟩ := hPr o o1 o2
    have fl := fr_lt T t.1 A.1 o1 o2
    have c43' := c43 1997
    have r246' := r246 1997
    have pc : mjF 1999 217 [.ref 0, .int a, .int v] (mjW0 s) = (f_217 (mjF 1998) 0 (nI o) v (mjW0 s)) := by rw [eo]; exact e_217 (d := 1998)
    have pr : mjF 1999 348 [.ref 97, .int a, .int v] (mjW0 s) = (f_348 (mjF 1998) 97 (nI o) v (mjW0 s)) := by rw [eo]; exact e_348 (d := 1998)
    rw [eo] at c43' r246'
    unfold f_217 b_217_0 b_217_31 b_217_32 at pc
    rw [xg_0_11, xV_79, c43', bI_s, if_neg (show ¬ ((1 : Int32) = 0) by decide)] at pc
    unfold f_348 b_348_0 b_348_27 at pr
    rw [xV_97, r246', bI_s, if_neg (show ¬ ((1 : Int32) = 0) by decide)] at pr
    by_cases h1 : v < 0
    · refine ⟨-1, s, s, ?_, ?_, J⟩
      · rw [pc, if_pos h1, if_pos rfl]
      · rw [pr, if_pos h1]
    rw [if_neg h1, xg_0_11, xV_79, x_48 hHc B o1 o2, bI_s] at pc
    rw [if_neg h1, xg_97_15, xg_97_109, wa_169 (by omega), p1, wa_104 (by omega), r1] at pr
    by_cases h2 : nI (nmL t.1 (A.1.2 o).1) ≤ v
    · refine ⟨-1, s, s, ?_, ?_, J⟩
      · rw [pc, if_pos h2, if_pos rfl]
      · rw [pr, if_neg (Int32.not_lt.mpr h2)]
    · obtain ⟨x, x31, ex⟩ := nI_of h1
      have xl : x < nmL t.1 (A.1.2 o).1 := by
        rw [ex] at h2
        exact (nI_ltI (by omega) (by omega)).mp (Int32.not_le.mp h2)
      refine ⟨nI ((A.1.2 o).2.1 x), s, s, ?_, ?_, J⟩
      · rw [pc, if_neg h2, if_neg (show ¬ ((1 : Int32) = 0) by decide), xg_0_11, xV_79, ex, x_49 hHc B o1 o2 xl, bI_s]
      · rw [pr, if_pos (Int32.not_le.mp h2), xg_97_108, xg_97_110, wa_170 (by omega), p2, ex, nI_add, wa_168 (by omega), p3 x xl]
theorem pair_field (I : Inv i s) (a v : Int32) : PairOK (Inv (i + 1)) 218 349 [.int a, .int v] s := by
  have J : Inv (i + 1) s := I.mono (by omega)
  rcases I.obj a with ⟨c43, r246⟩ | ⟨T, N, b, q, t, rs, kb, z, tr, cs, wm, cm, A, o, G, R, B, eo, o1, o2, c43, r246⟩
  · refine ⟨0, s, s, ?_, ?_, J⟩
    · rw [e_218 (d := 1998)]
      unfold f_218 b_218_0 b_218_39 b_218_40
      rw [xg_0_11, xV_79, c43 1997, bI_s, if_pos rfl, if_pos rfl]
    · rw [e_349 (d := 1998)]
      unfold f_349 b_349_0 b_349_27
      rw [xV_97, r246 1997, bI_s, if_pos rfl]
  · obtain ⟨hHc, hPr, hO, h79, hcl, l16⟩ := R.at G
    obtain ⟨cl, n1, n5⟩ := hcl o o1 o2
    have hb := G.1.1
    have e6 := G.1.2.2.2.1
    have hq : isP q := G.2.2.2.1.1.1
    have g8 := G.2.2.2.1.2.2.1.1
    have h384 := G.2.1.2.2.1 (A.1.2 o).1
    obtain ⟨_, rf, _⟩ := G.ref
    obtain ⟨r1, r2, r3, r4, r5, r6⟩ := rf (A.1.2 o).1 cl
    have b1 := B.1
    have b2' := B.2
    obtain ⟨p1, p2, p3, p4⟩ := hPr o o1 o2
    have fl := fr_lt T t.1 A.1 o1 o2
    have c43' := c43 1997
    have r246' := r246 1997
    have pc : mjF 1999 218 [.ref 0, .int a, .int v] (mjW0 s) = (f_218 (mjF 1998) 0 (nI o) v (mjW0 s)) := by rw [eo]; exact e_218 (d := 1998)
    have pr : mjF 1999 349 [.ref 97, .int a, .int v] (mjW0 s) = (f_349 (mjF 1998) 97 (nI o) v (mjW0 s)) := by rw [eo]; exact e_349 (d := 1998)
    rw [eo] at c43' r246'
    unfold f_218 b_218_0 b_218_39 b_218_40 at pc
    rw [xg_0_11, xV_79, c43', bI_s, if_neg (show ¬ ((1 : Int32) = 0) by decide)] at pc
    unfold f_349 b_349_0 b_349_27 at pr
    rw [xV_97, r246', bI_s, if_neg (show ¬ ((1 : Int32) = 0) by decide)] at pr
    by_cases h1 : v < 0
    · refine ⟨0, s, s, ?_, ?_, J⟩
      · rw [pc, if_pos h1, if_pos rfl]
      · rw [pr, if_pos h1]
    rw [if_neg h1, xg_0_6, e6, yg_8 hq, xg_0_11, xV_79, x_46 hHc B o1 o2, bI_s, wya_8 hq (by omega), g8 _ cl] at pc
    rw [if_neg h1, xg_97_20, xg_97_109, wa_169 (by omega), p1, wa_109 (by omega), r4] at pr
    by_cases h2 : nI (fldT T t.1 (A.1.2 o).1) ≤ v
    · refine ⟨0, s, s, ?_, ?_, J⟩
      · rw [pc, if_pos h2, if_pos rfl]
      · rw [pr, if_neg (Int32.not_lt.mpr h2)]
    · obtain ⟨x, x31, ex⟩ := nI_of h1
      have xl : x < fldT T t.1 (A.1.2 o).1 := by
        rw [ex] at h2
        exact (nI_ltI (by omega) (by omega)).mp (Int32.not_le.mp h2)
      refine ⟨(A.1.2 o).2.2 x, s, s, ?_, ?_, J⟩
      · rw [pc, if_neg h2, if_neg (show ¬ ((1 : Int32) = 0) by decide), xg_0_11, xV_79, ex, x_45 hHc B o1 o2 xl, bI_s]
      · rw [pr, if_pos (Int32.not_le.mp h2), xg_97_108, xg_97_110, wa_170 (by omega), p2, xg_97_15, xg_97_109, wa_169 (by omega), p1, wa_104 (by omega), r1, ex, nI_add, nI_add, wa_168 (by omega), p4 x xl]
theorem pair_inside (I : Inv i s) (a v : Int32) : PairOK (Inv (i + 1)) 219 350 [.int a, .int v] s := by
  have J : Inv (i + 1) s := I.mono (by omega)
  rcases I.obj a with ⟨c43, r246⟩ | ⟨T, N, b, q, t, rs, kb, z, tr, cs, wm, cm, A, o, G, R, B, eo, o1, o2, c43, r246⟩
  · refine ⟨0, s, s, ?_, ?_, J⟩
    · rw [e_219 (d := 1998)]
      unfold f_219 b_219_0 b_219_42
      rw [xg_0_11, xV_79, c43 1997, bI_s, if_pos rfl]
    · rw [e_350 (d := 1998)]
      unfold f_350 b_350_0 b_350_20
      rw [xV_97, r246 1997, bI_s, if_pos rfl]
  · obtain ⟨hHc, hPr, hO, h79, hcl, l16⟩ := R.at G
    have n1' : ∀ o, 1 ≤ o → o ≤ A.1.1 → 1 ≤ nmL t.1 (A.1.2 o).1 := fun o o1 o2 => (hcl o o1 o2).2.1
    have b1 := B.1
    have b2' := B.2
    have c43' := c43 1997
    have r246' := r246 1997
    have pc : mjF 1999 219 [.ref 0, .int a, .int v] (mjW0 s) = (f_219 (mjF 1998) 0 (nI o) v (mjW0 s)) := by rw [eo]; exact e_219 (d := 1998)
    have pr : mjF 1999 350 [.ref 97, .int a, .int v] (mjW0 s) = (f_350 (mjF 1998) 97 (nI o) v (mjW0 s)) := by rw [eo]; exact e_350 (d := 1998)
    rw [eo] at c43' r246'
    unfold f_219 b_219_0 b_219_26 b_219_42 at pc
    rw [xg_0_11, xV_79, c43', bI_s, if_neg (show ¬ ((1 : Int32) = 0) by decide)] at pc
    unfold f_350 b_350_0 b_350_20 b_350_22 at pr
    rw [xV_97, r246', bI_s, if_neg (show ¬ ((1 : Int32) = 0) by decide)] at pr
    have fin : ∀ c, c ≤ A.1.1 → v = nI c → (bI (mjF 1998 52 [.ref 79, .int (nI o), .int v] (mjW0 s)) (fun v2 hp3 => (if v2 = 0 then some (some (.int (0 : Int32)), hp3) else some (some (.int (1 : Int32)), hp3))) : mjU) = some (some (.int (b2 (inF A.1 c A.1.1 o))), mjW0 s) ∧ L_350_24 (mjF 1998) mjN 97 v (nI o) (mjW0 s) = some (some (.int (b2 (inF A.1 c A.1.1 o))), mjW0 s) := by
      intro c hc ev
      have k1 := lq_52 (d := 1996) (c := c) hHc B h79 hO n1' hc A.1.1 mjN 0 o (by omega) (by omega) (by unfold mjN; omega)
      have k2 := lq_350 (d := 1997) (c := c) hPr B hO n1' hc A.1.1 mjN o (by omega) (by omega) (by unfold mjN; omega)
      refine ⟨?_, by rw [ev]; exact k2⟩
      have k0 : mjF 1998 52 [.ref 79, .int (nI o), .int v] (mjW0 s) = some (some (.int (b2 (inF A.1 c A.1.1 o))), mjW0 s) := by
        rw [ev, e_52 (d := 1997)]
        unfold f_52 b_52_0
        exact k1
      rw [k0, bI_s]
      cases inF A.1 c A.1.1 o <;> rfl
    by_cases v0 : v = 0
    · obtain ⟨f1, f2⟩ := fin 0 (Nat.zero_le _) v0
      refine ⟨b2 (inF A.1 0 A.1.1 o), s, s, ?_, ?_, J⟩
      · rw [pc, if_pos v0, xg_0_11, xV_79, f1]
      · rw [pr, if_pos v0, f2]
    · rcases R.obj G v with ⟨d43, d246⟩ | ⟨c, ec, c1, c2, d43, d246⟩
      · refine ⟨0, s, s, ?_, ?_, J⟩
        · rw [pc, if_neg v0, xg_0_11, xV_79, d43 1997, bI_s, if_pos rfl]
        · rw [pr, if_neg v0, xV_97, d246 1997, bI_s, if_pos rfl]
      · obtain ⟨f1, f2⟩ := fin c c2 ec
        refine ⟨b2 (inF A.1 c A.1.1 o), s, s, ?_, ?_, J⟩
        · rw [pc, if_neg v0, xg_0_11, xV_79, d43 1997, bI_s, if_neg (show ¬ ((1 : Int32) = 0) by decide), xg_0_11, xV_79, f1]
        · rw [pr, if_neg v0, xV_97, d246 1997, bI_s, if_neg (show ¬ ((1 : Int32) = 0) by decide), f2]
end MJB87
end
section
/-! ===== call, variable, on both ===== -/
def frK : List FRM → Nat → Option FRM
  | [], _ => none
  | f :: fs, k => if k = fs.length then some f else frK fs k
section MJB88
variable {T : TT} {d N b kb q i k k0 m wm cm : Nat} {t : PT} {L : List CD} {rs : List RcM} {z : PB} {tr : Bool} {cs : Nat → Nat} {pf : Nat → Nat → Nat} {H : HEAP} {A : AMS} {f : FRM} {s : mjSt3} {a v : Int32}
theorem frK_ex : ∀ (fs : List FRM) (k : Nat), k < fs.length → ∃ f, frK fs k = some f ∧ f ∈ fs
  | [], k, h => by cases h
  | f :: fs, k, h => by
    have h' : k < fs.length + 1 := h
    by_cases e : k = fs.length
    · exact ⟨f, if_pos e, List.mem_cons_self⟩
    · obtain ⟨g, g1, g2⟩ := frK_ex fs k (by omega)
      exact ⟨g, (if_neg e).trans g1, List.mem_cons_of_mem _ g2⟩
theorem FRc.nth : ∀ (fs : List FRM) (k : Nat) (f : FRM), FRc pf s fs → frK fs k = some f → s.1 84 k = nI f.1 ∧ s.1 85 k = nI f.2.1 ∧ s.1 87 k = f.2.2.1 ∧ ∀ v, v < 16 → s.1 88 (16 * k + v) = f.2.2.2.1 v
  | [], k, f, h, e => by cases e
  | g :: fs, k, f, h, e => by
    have e' : (if k = fs.length then some g else frK fs k) = some f := e
    by_cases q : k = fs.length
    · rw [if_pos q] at e'
      have e2 := Option.some.inj e'
      rw [q, ← e2]
      exact ⟨h.1.1, h.1.2.1, h.1.2.2.1, h.1.2.2.2.1⟩
    · rw [if_neg q] at e'
      exact FRc.nth fs k f h.2 e'
theorem FRr.nth : ∀ (fs : List FRM) (k : Nat) (f : FRM), FRr b t s fs → frK fs k = some f → s.1 171 k = mR b (moM f.1) ∧ s.1 172 k = nI f.2.1 ∧ s.1 173 k = f.2.2.1 ∧ ∀ v, v < 16 → s.1 175 (16 * k + v) = f.2.2.2.1 v
  | [], k, f, h, e => by cases e
  | g :: fs, k, f, h, e => by
    have e' : (if k = fs.length then some g else frK fs k) = some f := e
    by_cases q : k = fs.length
    · rw [if_pos q] at e'
      have e2 := Option.some.inj e'
      rw [q, ← e2]
      exact ⟨h.1.1, h.1.2.1, h.1.2.2.1, h.1.2.2.2.1⟩
    · rw [if_neg q] at e'
      exact FRr.nth fs k f h.2 e'
theorem SUS.all : ∀ (fs : List FRM) (m k : Nat) (st : List Int32), SUS T t rs z tr k0 H fs m k st → ∀ f, f ∈ fs → FOK T t rs z tr k0 H f
  | [], m, k, st, h, f, hf => by cases hf
  | g :: fs, m, k, st, ⟨h0, h1, h2, j, l, x, xs, seg, rest, h3, h4, h5, h6, h7, h8⟩, f, hf => by
    rcases List.mem_cons.mp hf with e | e
    · rw [e]; exact h1
    · exact SUS.all fs _ _ _ h8 f e
theorem AOK.all (hA : AOK T t rs z tr k0 wm cm A) : ∀ f, f ∈ A.2.1 → FOK T t rs z tr k0 A.1 f := by
  intro f hf
  by_cases ph : A.2.2.2.2.2.2.2.2.1 = 1
  · obtain ⟨g, gs, e, F, _, j, l, seg, rest, _, _, _, S⟩ := hA.2.2.2.1 ph
    rw [e] at hf
    rcases List.mem_cons.mp hf with e | e
    · rw [e]; exact F
    · exact SUS.all gs _ _ _ S f e
  · rw [hA.2.2.2.2 ph] at hf
    cases hf
theorem x_344 : mjF (d + 1) 344 [.ref 97, .int a] (mjW0 s) = some (some (.int (if ¬ s.1 97 96 = 1 ∨ a < 0 ∨ s.1 97 116 ≤ a then 0 else 1)), mjW0 s) := by
  rw [e_344]
  unfold f_344 b_344_0 b_344_24
  rw [xg_97_96]
  by_cases h1 : s.1 97 96 = 1
  · rw [if_pos h1]
    by_cases h2 : a < 0
    · rw [if_pos h2, if_pos (Or.inr (Or.inl h2))]
    rw [if_neg h2, xg_97_116]
    by_cases h3 : s.1 97 116 ≤ a
    · rw [if_pos h3, if_pos (Or.inr (Or.inr h3))]
    · rw [if_neg h3, if_neg (fun x => x.elim (fun y => y h1) (fun x => x.elim h2 h3))]
  · rw [if_neg h1, if_pos (Or.inl h1)]
/-- a CALL of that number: on both, or on none -/
theorem Inv.frm (I : Inv i s) (a : Int32) : ((a < 0 ∨ ¬ a < s.1 83 0) ∧ ∀ d, mjF (d + 1) 344 [.ref 97, .int a] (mjW0 s) = some (some (.int 0), mjW0 s)) ∨ ∃ T N b q t rs kb z tr cs wm cm A k f, IPG T N b q t rs kb z tr cs s ∧ IRN i T b q t rs z tr cs wm cm A s ∧ FOK T t rs z tr (800 * b) A.1 f ∧ frK A.2.1 k = some f ∧ f ∈ A.2.1 ∧ a = nI k ∧ k < 40 ∧ ¬ a < 0 ∧ a < s.1 83 0 ∧ ∀ d, mjF (d + 1) 344 [.ref 97, .int a] (mjW0 s) = some (some (.int 1), mjW0 s) := by
  have kz : IZ s → (a < 0 ∨ ¬ a < s.1 83 0) ∧ ∀ d, mjF (d + 1) 344 [.ref 97, .int a] (mjW0 s) = some (some (.int 0), mjW0 s) := by
    intro ⟨⟨a1, a2⟩, _, _, ⟨a3, _⟩, _⟩
    refine ⟨?_, fun d => ?_⟩
    · rw [a3]
      by_cases h : a < 0
      · exact Or.inl h
      · exact Or.inr h
    · rw [x_344, a1, if_pos (Or.inl (by decide))]
  rcases I.2 with ⟨_, _, a3⟩ | ⟨T, N, b, q, t, rs, kb, z, tr, cs, G, hR⟩
  · exact Or.inl (kz a3)
  rcases hR with a3 | ⟨wm, cm, A, R⟩
  · exact Or.inl (kz a3)
  have hA := R.2.2.1.1
  have c83 : s.1 83 0 = nI A.2.1.length := R.2.2.2.1.1.2.2.1.2.2
  have r116 : s.1 97 116 = nI A.2.1.length := R.2.2.2.2.1.1.2.2.1.2.2
  have r96 : s.1 97 96 = nI A.2.2.2.2.2.2.2.2.1 := R.2.2.2.2.1.1.1.1
  have p3 := R.2.1.2.1
  have l40 : A.2.1.length ≤ 40 := Nat.le_trans hA.2.2.1 R.1.2
  by_cases h : a < 0 ∨ ¬ a < nI A.2.1.length
  · refine Or.inl ⟨by rw [c83]; exact h, fun d => ?_⟩
    rw [x_344, r116, if_pos (Or.inr (h.imp id (fun x => Int32.not_lt.mp x)))]
  · have h0 : ¬ a < 0 := fun x => h (Or.inl x)
    have h1 : a < nI A.2.1.length := Classical.byContradiction (fun x => h (Or.inr x))
    obtain ⟨k, k31, ek⟩ := nI_of h0
    have kl : k < A.2.1.length := by
      rw [ek] at h1
      exact (nI_ltI (by omega) (by omega)).mp h1
    have ph : A.2.2.2.2.2.2.2.2.1 = 1 := Classical.byContradiction (fun x => by
      rw [hA.2.2.2.2 x] at kl
      exact absurd kl (Nat.not_lt_zero k))
    obtain ⟨f, f1, f2⟩ := frK_ex A.2.1 k kl
    refine Or.inr ⟨T, N, b, q, t, rs, kb, z, tr, cs, wm, cm, A, k, f, G, R, hA.all f f2, f1, f2, ek, by omega, h0, by rw [c83]; exact h1, fun d => ?_⟩
    rw [x_344, r116, r96, if_neg]
    rintro (x | x | x)
    · exact x (by rw [ph]; rfl)
    · exact h0 x
    · exact Int32.not_lt.mpr x h1
theorem pair_call (I : Inv i s) (a v : Int32) : PairOK (Inv (i + 1)) 214 343 [.int a, .int v] s := by
  have J : Inv (i + 1) s := I.mono (by omega)
  rcases I.frm a with ⟨hc, r344⟩ | ⟨T, N, b, q, t, rs, kb, z, tr, cs, wm, cm, A, k, f, G, R, F, f1, f2, ek, k40, a0, al, r344⟩
  · refine ⟨-1, s, s, ?_, ?_, J⟩
    · rw [e_214 (d := 1998)]
      unfold f_214 b_214_0 b_214_20
      rw [xg_0_12, xg_82_1]
      by_cases h : a < 0
      · rw [if_pos h]
      · rw [if_neg h, xg_83_0, if_neg (hc.resolve_left h)]
    · rw [e_343 (d := 1998)]
      unfold f_343 b_343_0
      rw [xV_97, r344 1997, bI_s, if_pos rfl]
  · obtain ⟨c1, c2, c3, _⟩ := FRc.nth _ _ _ R.2.2.2.1.2.2.1 f1
    obtain ⟨d1, d2, d3, _⟩ := FRr.nth _ _ _ R.2.2.2.2.1.2.2.1 f1
    have e6 := G.1.2.2.2.1
    have e9 := G.1.2.1
    have hb := G.1.1
    have hq : isP q := G.2.2.2.1.1.1
    have g9 := G.2.2.2.1.2.2.1.2.1
    have g16 := G.2.2.2.1.2.2.2.2.2.2.1
    have m384 := G.2.1.1.2.1
    obtain ⟨_, _, _, rm, _⟩ := G.ref
    have r344' := r344 1997
    have pc : mjF 1999 214 [.ref 0, .int a, .int v] (mjW0 s) = (f_214 (mjF 1998) 0 (nI k) v (mjW0 s)) := by rw [ek]; exact e_214 (d := 1998)
    have pr : mjF 1999 343 [.ref 97, .int a, .int v] (mjW0 s) = (f_343 (mjF 1998) 97 (nI k) v (mjW0 s)) := by rw [ek]; exact e_343 (d := 1998)
    rw [ek] at r344' a0 al
    unfold f_214 b_214_0 b_214_20 at pc
    rw [xg_0_12, xg_82_1, if_neg a0, xg_83_0, if_pos al, xg_83_2, wa_84 k40, c1] at pc
    unfold f_343 b_343_0 at pr
    rw [xV_97, r344', bI_s, if_neg (show ¬ ((1 : Int32) = 0) by decide), xg_97_111, wa_171 k40, d1] at pr
    rcases F.1 with ⟨fm, _⟩ | ⟨fm, _⟩
    · have c384 : nI f.1 = 384 := by rw [fm]; rfl
      have m1 : mR b (moM f.1) = -1 := by rw [fm]; rfl
      by_cases v0 : v = 0
      · refine ⟨-1, s, s, ?_, ?_, J⟩
        · rw [pc, if_pos v0, if_pos c384]
        · rw [pr, if_pos v0, if_pos m1]
      by_cases v1 : v = 1
      · refine ⟨-1, s, s, ?_, ?_, J⟩
        · rw [pc, if_neg v0, if_pos v1, if_pos c384]
        · rw [pr, if_neg v0, if_pos v1, if_pos m1]
      by_cases v2 : v = 2
      · refine ⟨nI f.2.1, s, s, ?_, ?_, J⟩
        · rw [pc, if_neg v0, if_neg v1, if_pos v2, xg_83_3, wa_85 k40, c2]
        · rw [pr, if_neg v0, if_neg v1, if_pos v2, xg_97_112, wa_172 k40, d2]
      by_cases v3 : v = 3
      · refine ⟨f.2.2.1, s, s, ?_, ?_, J⟩
        · rw [pc, if_neg v0, if_neg v1, if_neg v2, if_pos v3, xg_83_5, wa_87 k40, c3]
        · rw [pr, if_neg v0, if_neg v1, if_neg v2, if_pos v3, xg_97_113, wa_173 k40, d3]
      · refine ⟨-1, s, s, ?_, ?_, J⟩
        · rw [pc, if_neg v0, if_neg v1, if_neg v2, if_neg v3]
        · rw [pr, if_neg v0, if_neg v1, if_neg v2, if_neg v3]
    · have n384 : ¬ nI f.1 = 384 := fun x => by
        have := (nI_eq (a := f.1) (b := 384) (by omega) (by omega)).mp x
        omega
      have em : mR b (moM f.1) = nI (400 * b + f.1) := by
        unfold moM
        rw [if_neg (by omega)]
        rfl
      have nm1 : ¬ nI (400 * b + f.1) = -1 := nI_m1 (by omega)
      rw [em] at pr
      obtain ⟨q1, q2, _⟩ := g16 f.1 fm
      obtain ⟨r1, r2⟩ := rm f.1 fm
      have n9 := (g9 f.1 fm).1
      by_cases v0 : v = 0
      · refine ⟨nI (hmM t.1 f.1), s, s, ?_, ?_, J⟩
        · rw [pc, if_pos v0, if_neg n384, xg_0_6, e6, yg_14 hq, ymg_2 hq, wya_16 hq (by omega), q1]
        · rw [pr, if_pos v0, if_neg nm1, xg_97_35, wa_124 (by omega), r1, xg_97_9, e9, m16]
      by_cases v1 : v = 1
      · refine ⟨nI (numM T t.1 f.1), s, s, ?_, ?_, J⟩
        · rw [pc, if_neg v0, if_pos v1, if_neg n384, xg_0_6, e6, yg_14 hq, ymg_5 hq, wya_19 hq (by omega), n9]
        · rw [pr, if_neg v0, if_pos v1, if_neg nm1, xg_97_41, wa_130 (by omega), r2]
      by_cases v2 : v = 2
      · refine ⟨nI f.2.1, s, s, ?_, ?_, J⟩
        · rw [pc, if_neg v0, if_neg v1, if_pos v2, xg_83_3, wa_85 k40, c2]
        · rw [pr, if_neg v0, if_neg v1, if_pos v2, xg_97_112, wa_172 k40, d2]
      by_cases v3 : v = 3
      · refine ⟨f.2.2.1, s, s, ?_, ?_, J⟩
        · rw [pc, if_neg v0, if_neg v1, if_neg v2, if_pos v3, xg_83_5, wa_87 k40, c3]
        · rw [pr, if_neg v0, if_neg v1, if_neg v2, if_pos v3, xg_97_113, wa_173 k40, d3]
      · refine ⟨-1, s, s, ?_, ?_, J⟩
        · rw [pc, if_neg v0, if_neg v1, if_neg v2, if_neg v3]
        · rw [pr, if_neg v0, if_neg v1, if_neg v2, if_neg v3]
/-- VARIABLES of a METHOD: at most 16 -/
theorem IPG.vn (G : IPG T N b q t rs kb z tr cs s) (hm : m ≤ 384) (im : isMT t.1 m = true) : vnT t m ≤ 16 := by
  obtain ⟨R, hN⟩ := G.2.2.2.2.2.2
  have hb := G.1.1
  obtain ⟨⟨o, ho, k1⟩, k2, _⟩ := MBk_ex R (by omega) hN m hm im
  rw [← k2]
  refine prS_16 30 0 o _ _ _ _ _ ?_ k1
  unfold npT
  by_cases e : m = 384
  · rw [if_pos e]; omega
  · rw [if_neg e]
    have := (G.2.1.1.1.2.1 m (isMT_lt im e).1).2.1
    omega
theorem pair_variable (I : Inv i s) (a v : Int32) : PairGo (Inv (i + 1)) 215 345 [.int a, .int v] s := by
  have J : Inv (i + 1) s := I.mono (by omega)
  rcases I.frm a with ⟨hc, r344⟩ | ⟨T, N, b, q, t, rs, kb, z, tr, cs, wm, cm, A, k, f, G, R, F, f1, f2, ek, k40, a0, al, r344⟩
  · refine ⟨0, 0, s, s, ?_, ?_, J⟩
    · rw [e_215 (d := 1998)]
      unfold f_215 b_215_0 b_215_20
      rw [xg_0_12, xg_82_1]
      by_cases h : a < 0
      · rw [if_pos h]
      · rw [if_neg h, xg_83_0, if_neg (hc.resolve_left h)]
    · rw [e_345 (d := 1998)]
      unfold f_345 b_345_0 b_345_18
      rw [xV_97, r344 1997, bI_s, if_pos rfl]
  · obtain ⟨c1, c2, c3, c4⟩ := FRc.nth _ _ _ R.2.2.2.1.2.2.1 f1
    obtain ⟨d1, d2, d3, d4⟩ := FRr.nth _ _ _ R.2.2.2.2.1.2.2.1 f1
    have e6 := G.1.2.2.2.1
    have hq : isP q := G.2.2.2.1.1.1
    obtain ⟨fm, im⟩ := F.mt G.2.1.1.2.1
    have hv := G.2.2.2.2.2.1 f.1 fm im
    have v16 := G.vn fm im
    have r344' := r344 1997
    have pc : mjF 1999 215 [.ref 0, .int a, .int v] (mjW0 s) = (f_215 (mjF 1998) 0 (nI k) v (mjW0 s)) := by rw [ek]; exact e_215 (d := 1998)
    have pr : mjF 1999 345 [.ref 97, .int a, .int v] (mjW0 s) = (f_345 (mjF 1998) 97 (nI k) v (mjW0 s)) := by rw [ek]; exact e_345 (d := 1998)
    rw [ek] at r344' a0 al
    unfold f_215 b_215_0 b_215_20 b_215_51 b_215_52 at pc
    rw [xg_0_12, xg_82_1, if_neg a0, xg_83_0, if_pos al] at pc
    unfold f_345 b_345_0 b_345_18 at pr
    rw [xV_97, r344', bI_s, if_neg (show ¬ ((1 : Int32) = 0) by decide)] at pr
    by_cases h1 : v < 0
    · refine ⟨0, 0, s, s, ?_, ?_, J⟩
      · rw [pc, if_pos h1, if_pos rfl]
      · rw [pr, if_pos h1]
    rw [if_neg h1, xg_0_6, e6, yg_14 hq, ymg_8 hq, xg_83_2, wa_84 k40, c1, wya_22 hq (by omega), hv] at pc
    rw [if_neg h1] at pr
    obtain ⟨x, x31, ex⟩ := nI_of h1
    have rr : ∃ r, mjF 1999 345 [.ref 97, .int a, .int v] (mjW0 s) = some (some (.int r), mjW0 s) := by
      by_cases h2 : v < 16
      · have xl : x < 16 := by
          rw [ex] at h2
          exact (nI_ltI (a := x) (b := 16) (by omega) (by omega)).mp h2
        exact ⟨_, by rw [pr, if_pos h2, xg_97_115, ex, show (16 : Int32) * nI k + nI x = nI (16 * k + x) by rw [show (16 : Int32) = nI 16 from rfl, nI_mul, nI_add], wa_175 (by omega)]⟩
      · exact ⟨0, by rw [pr, if_neg h2]⟩
    have rc : ∃ r, mjF 1999 215 [.ref 0, .int a, .int v] (mjW0 s) = some (some (.int r), mjW0 s) := by
      by_cases h2 : nI (vnT t f.1) ≤ v
      · exact ⟨0, by rw [pc, if_pos h2, if_pos rfl]⟩
      · have xl : x < vnT t f.1 := by
          rw [ex] at h2
          exact (nI_ltI (by omega) (by omega)).mp (Int32.not_le.mp h2)
        refine ⟨s.1 88 (16 * k + x), ?_⟩
        rw [pc, if_neg h2, if_neg (show ¬ ((1 : Int32) = 0) by decide), xV_83, e_39 (d := 1997)]
        unfold f_39 b_39_0
        rw [xg_83_6, ex, show nI k * (16 : Int32) + nI x = nI (16 * k + x) by rw [show (16 : Int32) = nI 16 from rfl, nI_mul, nI_add, Nat.mul_comm], wa_88 (by omega), bI_s]
    obtain ⟨r1, e1⟩ := rc
    obtain ⟨r2, e2⟩ := rr
    exact ⟨r1, r2, s, s, e1, e2, J⟩
end MJB88
end
section
/-! ===== VARIABLES that were not told are 0 ===== -/
section MJB88V
variable {T : TT} {N b kb q m i : Nat} {E : EV} {t : PT} {rs : List RcM} {z : PB} {tr : Bool} {cs : Nat → Nat} {H : HEAP} {f : FRM} {s : mjSt3}
theorem vtR_out : ∀ (a : List Row) (j : JS) (G : GS) (j' : JS) (l : List Ins), sdG a G → jrun E a j = some (j', l) → ∀ v, j.2.2.2.1 + n20 a ≤ v → vtR E a j v = 1
  | [], _, _, _, _, _, _, _, _ => rfl
  | r :: a, j, G, j', l, sc, h, v, hv => by
    obtain ⟨j1, l1, l2, h1, h2, h3⟩ := jcons2 h
    have t1 := (td_step sc.1 h1).1
    have hv' : j.2.2.2.1 + ((if r.1 = 20 then 1 else 0) + n20 a) ≤ v := hv
    show (match jrow E r j with
      | none => fun _ => 0
      | some (j', _) => fun v => if r.1 = 20 ∧ v = j.2.2.2.1 then j.2.2.2.2.2.1.2 else vtR E a j' v) v = 1
    rw [h1]
    dsimp only
    rw [if_neg (fun q => by
      rw [if_pos q.1] at hv'
      have := q.2
      omega)]
    exact vtR_out a j1 _ j' l2 sc.2 h2 v (by omega)
theorem IPG.vn2 (G : IPG T N b q t rs kb z tr cs s) (hm : m ≤ 384) (im : isMT t.1 m = true) : vnT t m = npT t.1 m + n20 (osM rs z m) ∧ ∃ j l, sdG (osM rs z m) [] ∧ jrun (EMx T t tr (800 * b) m) (osM rs z m) (jmT T t.1 m) = some (j, l) := by
  obtain ⟨R, hN⟩ := G.2.2.2.2.2.2
  have hb := G.1.1
  obtain ⟨Ac, PM, PB⟩ := G.2.1.1.1
  obtain ⟨⟨g1, g2, g3⟩, sw, j, l, hj⟩ := PB m hm im
  obtain ⟨⟨o, ho, k1⟩, k2, k3, k4, k5, ⟨k6, k6'⟩, k7, k8, k9⟩ := MBk_ex R (by omega) hN m hm im
  have n16 : npT t.1 m ≤ 16 := by
    unfold npT
    by_cases e : m = 384
    · rw [if_pos e]; omega
    · rw [if_neg e]
      have := (PM m (isMT_lt im e).1).2.1
      omega
  obtain ⟨_, _, w3⟩ := prS_gd 30 0 o _ _ _ _ _ (by omega) (by omega) n16 k1
  obtain ⟨lx', s1, s2⟩ := w3 (by omega) (i0T t m + (zT rs z m).2.2.2.1.length) 0
  have vr := (val_run (osM rs z m) _ _ [] s1 g1 rfl (Nat.zero_le _)).2.1
  refine ⟨?_, j, l, g1, hj⟩
  rw [← k2]
  have s3 := congrArg (fun x : WS => x.2.1) s2
  exact s3.symm.trans vr
theorem FOK.out (F : FOK T t rs z tr (800 * b) H f) (G : IPG T N b q t rs kb z tr cs s) : ∀ x, vnT t f.1 ≤ x → x < 16 → f.2.2.2.1 x = 0 := by
  intro x h1 h2
  obtain ⟨fm, im⟩ := F.mt G.2.1.1.2.1
  obtain ⟨e, j, l, sg, hj⟩ := G.vn2 fm im
  have h := F.2 x h2
  have e1 : vtX T t rs z tr (800 * b) f.1 x = 1 := by
    unfold vtX vtM
    rw [if_neg (by omega)]
    exact vtR_out _ _ [] j l sg hj x (by
      have : (jmT T t.1 f.1).2.2.2.1 = npT t.1 f.1 := rfl
      omega)
  rw [e1] at h
  exact h
theorem pair_variable2 (I : Inv i s) (a v : Int32) : PairOK (Inv (i + 1)) 215 345 [.int a, .int v] s := by
  have J : Inv (i + 1) s := I.mono (by omega)
  rcases I.frm a with ⟨hc, r344⟩ | ⟨T, N, b, q, t, rs, kb, z, tr, cs, wm, cm, A, k, f, G, R, F, f1, f2, ek, k40, a0, al, r344⟩
  · refine ⟨0, s, s, ?_, ?_, J⟩
    · rw [e_215 (d := 1998)]
      unfold f_215 b_215_0 b_215_20
      rw [xg_0_12, xg_82_1]
      by_cases h : a < 0
      · rw [if_pos h]
      · rw [if_neg h, xg_83_0, if_neg (hc.resolve_left h)]
    · rw [e_345 (d := 1998)]
      unfold f_345 b_345_0 b_345_18
      rw [xV_97, r344 1997, bI_s, if_pos rfl]
  · obtain ⟨c1, c2, c3, c4⟩ := FRc.nth _ _ _ R.2.2.2.1.2.2.1 f1
    obtain ⟨d1, d2, d3, d4⟩ := FRr.nth _ _ _ R.2.2.2.2.1.2.2.1 f1
    have e6 := G.1.2.2.2.1
    have hq : isP q := G.2.2.2.1.1.1
    obtain ⟨fm, im⟩ := F.mt G.2.1.1.2.1
    have hv := G.2.2.2.2.2.1 f.1 fm im
    have v16 := G.vn fm im
    have r344' := r344 1997
    have pc : mjF 1999 215 [.ref 0, .int a, .int v] (mjW0 s) = (f_215 (mjF 1998) 0 (nI k) v (mjW0 s)) := by rw [ek]; exact e_215 (d := 1998)
    have pr : mjF 1999 345 [.ref 97, .int a, .int v] (mjW0 s) = (f_345 (mjF 1998) 97 (nI k) v (mjW0 s)) := by rw [ek]; exact e_345 (d := 1998)
    rw [ek] at r344' a0 al
    unfold f_215 b_215_0 b_215_20 b_215_51 b_215_52 at pc
    rw [xg_0_12, xg_82_1, if_neg a0, xg_83_0, if_pos al] at pc
    unfold f_345 b_345_0 b_345_18 at pr
    rw [xV_97, r344', bI_s, if_neg (show ¬ ((1 : Int32) = 0) by decide)] at pr
    by_cases h1 : v < 0
    · refine ⟨0, s, s, ?_, ?_, J⟩
      · rw [pc, if_pos h1, if_pos rfl]
      · rw [pr, if_pos h1]
    rw [if_neg h1, xg_0_6, e6, yg_14 hq, ymg_8 hq, xg_83_2, wa_84 k40, c1, wya_22 hq (by omega), hv] at pc
    rw [if_neg h1] at pr
    obtain ⟨x, x31, ex⟩ := nI_of h1
    have F2 := F.out G
    by_cases h2 : v < 16
    · have xl : x < 16 := by
        rw [ex] at h2
        exact (nI_ltI (a := x) (b := 16) (by omega) (by omega)).mp h2
      have er : mjF 1999 345 [.ref 97, .int a, .int v] (mjW0 s) = some (some (.int (f.2.2.2.1 x)), mjW0 s) := by
        rw [pr, if_pos h2, xg_97_115, ex, show (16 : Int32) * nI k + nI x = nI (16 * k + x) by rw [show (16 : Int32) = nI 16 from rfl, nI_mul, nI_add], wa_175 (by omega), d4 x xl]
      by_cases h3 : nI (vnT t f.1) ≤ v
      · have xg : vnT t f.1 ≤ x := by
          rw [ex] at h3
          exact (nI_leI (by omega) (by omega)).mp h3
        refine ⟨0, s, s, ?_, ?_, J⟩
        · rw [pc, if_pos h3, if_pos rfl]
        · rw [er, F2 x xg xl]
      · refine ⟨f.2.2.2.1 x, s, s, ?_, er, J⟩
        rw [pc, if_neg h3, if_neg (show ¬ ((1 : Int32) = 0) by decide), xV_83, e_39 (d := 1997)]
        unfold f_39 b_39_0
        rw [xg_83_6, ex, show nI k * (16 : Int32) + nI x = nI (16 * k + x) by rw [show (16 : Int32) = nI 16 from rfl, nI_mul, nI_add, Nat.mul_comm], wa_88 (by omega), bI_s, c4 x xl]
    · have h3 : nI (vnT t f.1) ≤ v := by
        rw [ex] at h2 ⊢
        have := (nI_leI (a := 16) (b := x) (by omega) (by omega)).mp (Int32.not_lt.mp h2)
        exact (nI_leI (by omega) (by omega)).mpr (by omega)
      refine ⟨0, s, s, ?_, ?_, J⟩
      · rw [pc, if_pos h3, if_pos rfl]
      · rw [pr, if_neg h2]
end MJB88V
end
section
/-! ===== WAYS, the reference ===== -/
/-- what is come to, in the reference's rows -/
def WRr (H : HEAP) (Q : WQ) (s : mjSt3) : Prop := s.1 97 124 = nI Q.length ∧ (∀ (k : Nat) (e : Nat × Nat × Nat × Nat), Q[k]? = some e → s.1 178 k = nI e.1 ∧ s.1 179 k = (if e.2.1 = 0 then -1 else nI e.2.2.1) ∧ s.1 180 k = nI e.2.2.2) ∧ ∀ o, o ≤ H.1 → s.1 177 o = b2 (inWb Q o)
/-- what it goes by -/
def HWr (T : TT) (L : List CD) (b : Nat) (H : HEAP) (s : mjSt3) : Prop := HPr T L b H s ∧ s.1 97 103 = nI H.1 ∧ (∀ c, c < L.length → s.1 104 (16 * b + c) = nI (nmL L c) ∧ s.1 109 (16 * b + c) = nI (fldT T L c)) ∧ ∀ c, c < L.length → ∀ i, i < fldT T L c → s.1 184 (400 * (16 * b + c) + i) = b2 (obT T L c i)
/-- what it goes by, apart from the rows: OBJECTS and CLASSES in their bounds -/
def HWp (T : TT) (L : List CD) (b : Nat) (H : HEAP) : Prop := HOK T L H ∧ HBs T L H ∧ b ≤ 1 ∧ L.length ≤ 16 ∧ (∀ c, c < L.length → 1 ≤ nmL L c ∧ nmL L c ≤ 5) ∧ ∀ c, fldT T L c ≤ 384
def oWr : mjSt3 → mjSt3 → Prop := offG (fun h j => (h = 97 ∧ j = 124) ∨ (177 ≤ h ∧ h ≤ 180)) (fun _ _ => False)
section MJB89
variable {T : TT} {d b o fo fi dd sh k i n m c : Nat} {L : List CD} {H : HEAP} {Q : WQ} {s s' : mjSt3} {e : Nat × Nat × Nat × Nat}
theorem HWr.wr (h : HWr T L b H s) (o : oWr s s') : HWr T L b H s' := by
  have r : ∀ h, ¬ (h = 97 ∨ (177 ≤ h ∧ h ≤ 180)) → s'.1 h = s.1 h := fun h e => funext fun j => o.1 h j (by omega)
  obtain ⟨h1, h2, h3, h4⟩ := h
  exact ⟨h1.keep (fun x hx => r x (by omega)), by rw [o.1 97 103 (by omega)]; exact h2, fun c hc => by rw [r 104 (by omega), r 109 (by omega)]; exact h3 c hc, fun c hc i hi => by rw [r 184 (by omega)]; exact h4 c hc i hi⟩
theorem oWr.w1 {v : Int32} : oWr s (uI s 97 (upd (s.1 97) 124 v)) := offG.w (Or.inl ⟨rfl, rfl⟩)
theorem oWr.w2 {h : Nat} {g : Nat → Int32} (hh : 177 ≤ h ∧ h ≤ 180) : oWr s (uI s h g) := offG_of (fun h' j e => by rw [uI_ne _ _ _ _ (fun q => e (by rw [q]; exact Or.inr hh))]) rfl
theorem nb1 : vp_nar .boolean 1 = 1 := by decide
theorem nb0 : vp_nar .boolean 0 = 0 := by decide
theorem inWb_app (Q : WQ) (o fo fi dd x : Nat) : inWb (Q ++ [(o, fo, fi, dd)]) x = (inWb Q x || decide (o = x)) := by
  unfold inWb
  rw [List.any_append]
  simp
/-- comeTo -/
theorem x_248 (W : WRr H Q s) (hQ : WOK H Q) (hb : H.1 ≤ 1334) (o1 : 1 ≤ o) (o2 : o ≤ H.1) {x : Int32} (hp : (fo = 0 ∧ dd = 0 ∧ x = -1) ∨ (1 ≤ fo ∧ x = nI fi ∧ ∃ p : Nat × Nat × Nat × Nat, Q[fi]? = some p ∧ p.1 = fo ∧ dd = p.2.2.2 + 1)) : ∃ s', mjF (d + 1) 248 [.ref 97, .int (nI o), .int x] (mjW0 s) = some (none, mjW0 s') ∧ oWr s s' ∧ WRr H (wCome Q o fo fi dd) s' ∧ WOK H (wCome Q o fo fi dd) := by
  have hok : WOK H (wCome Q o fo fi dd) := hQ.come o1 o2 (hp.imp (fun h => ⟨h.1, h.2.1⟩) (fun h => ⟨h.1, h.2.2⟩))
  have ln := hQ.len
  obtain ⟨w1, w2, w3⟩ := W
  have wo := w3 o o2
  have pre : mjF (d + 1) 248 [.ref 97, .int (nI o), .int x] (mjW0 s) = f_248 (mjF d) 97 (nI o) x (mjW0 s) := e_248
  unfold f_248 b_248_0 b_248_61 at pre
  rw [xg_97_120, wa_177 (by omega), wo] at pre
  cases hi : inWb Q o with
  | true =>
    rw [hi, if_neg (show ¬ b2 true = 0 by decide)] at pre
    have ew : wCome Q o fo fi dd = Q := if_pos hi
    rw [ew] at hok ⊢
    exact ⟨s, pre, offG.rf, ⟨w1, w2, w3⟩, hok⟩
  | false =>
    have ew : wCome Q o fo fi dd = Q ++ [(o, fo, fi, dd)] := if_neg (by rw [hi]; decide)
    rw [ew] at hok ⊢
    have ln2 := hok.len
    rw [List.length_append, List.length_singleton] at ln2
    obtain ⟨z1, g1⟩ : ∃ y, y = uI s 177 (upd (s.1 177) o 1) := ⟨_, rfl⟩
    obtain ⟨z2, g2⟩ : ∃ y, y = uI z1 178 (upd (z1.1 178) Q.length (nI o)) := ⟨_, rfl⟩
    obtain ⟨z3, g3⟩ : ∃ y, y = uI z2 179 (upd (z2.1 179) Q.length x) := ⟨_, rfl⟩
    obtain ⟨z4, g4⟩ : ∃ y, y = uI z3 180 (upd (z3.1 180) Q.length (nI dd)) := ⟨_, rfl⟩
    obtain ⟨z5, g5⟩ : ∃ y, y = uI z4 97 (upd (z4.1 97) 124 (nI (Q.length + 1))) := ⟨_, rfl⟩
    have c1 : z1.1 97 124 = nI Q.length := by rw [g1, uI_ne _ _ _ _ (by decide)]; exact w1
    have c2 : z2.1 97 124 = nI Q.length := by rw [g2, uI_ne _ _ _ _ (by decide)]; exact c1
    have c3 : z3.1 97 124 = nI Q.length := by rw [g3, uI_ne _ _ _ _ (by decide)]; exact c2
    have c4 : z4.1 97 124 = nI Q.length := by rw [g4, uI_ne _ _ _ _ (by decide)]; exact c3
    have v180 : z3.1 180 = s.1 180 := by rw [g3, uI_ne _ _ _ _ (by decide), g2, uI_ne _ _ _ _ (by decide), g1, uI_ne _ _ _ _ (by decide)]
    have o5 : oWr s z5 := offG.tr (b := z1) (by rw [g1]; exact oWr.w2 (by omega)) (offG.tr (b := z2) (by rw [g2]; exact oWr.w2 (by omega)) (offG.tr (b := z3) (by rw [g3]; exact oWr.w2 (by omega)) (offG.tr (b := z4) (by rw [g4]; exact oWr.w2 (by omega)) (by rw [g5]; exact oWr.w1))))
    have e177 : ∀ j, z5.1 177 j = if j = o then 1 else s.1 177 j := fun j => by rw [g5, uI_ne _ _ _ _ (by decide), g4, uI_ne _ _ _ _ (by decide), g3, uI_ne _ _ _ _ (by decide), g2, uI_ne _ _ _ _ (by decide), g1, uI_same, upd_g]
    have e178 : ∀ j, z5.1 178 j = if j = Q.length then nI o else s.1 178 j := fun j => by rw [g5, uI_ne _ _ _ _ (by decide), g4, uI_ne _ _ _ _ (by decide), g3, uI_ne _ _ _ _ (by decide), g2, uI_same, upd_g, g1, uI_ne _ _ _ _ (by decide)]
    have e179 : ∀ j, z5.1 179 j = if j = Q.length then x else s.1 179 j := fun j => by rw [g5, uI_ne _ _ _ _ (by decide), g4, uI_ne _ _ _ _ (by decide), g3, uI_same, upd_g, g2, uI_ne _ _ _ _ (by decide), g1, uI_ne _ _ _ _ (by decide)]
    have e180 : ∀ j, z5.1 180 j = if j = Q.length then nI dd else s.1 180 j := fun j => by rw [g5, uI_ne _ _ _ _ (by decide), g4, uI_same, upd_g, v180]
    refine ⟨z5, ?_, o5, ⟨?_, fun k e he => ?_, fun y hy => ?_⟩, hok⟩
    · rw [hi, if_pos (show b2 false = 0 from rfl), xg_97_120, ws_177 (by omega), nb1, ← g1, xg_97_121, xg_97_124, c1, ws_178 (by omega), ← g2, xg_97_122, xg_97_124, c2, ws_179 (by omega), ← g3, xg_97_123, xg_97_124, c3] at pre
      rw [pre]
      rcases hp with ⟨p1, p2, p3⟩ | ⟨p1, p3, p, p4, p5, p6⟩
      · rw [p2] at g4
        rw [p3, if_neg (show ¬ (0 : Int32) ≤ -1 by decide), ws_180 (by omega), show (0 : Int32) = nI 0 from rfl, ← g4, xg_97_124, c4, nI_1, xp_97_124, ← g5]
      · have pl := (List.getElem?_eq_some_iff.mp p4).1
        rw [p3, if_pos (nI_pos' (by omega)), xg_97_123, wa_180 (by omega), v180, (w2 fi p p4).2.2, nI_1, ← p6, ws_180 (by omega), ← g4, xg_97_124, c4, nI_1, xp_97_124, ← g5]
    · rw [g5, uI_same, upd_g, if_pos rfl, List.length_append, List.length_singleton]
    · by_cases kl : k < Q.length
      · rw [List.getElem?_append_left kl] at he
        obtain ⟨a1, a2, a3⟩ := w2 k e he
        exact ⟨by rw [e178, if_neg (by omega)]; exact a1, by rw [e179, if_neg (by omega)]; exact a2, by rw [e180, if_neg (by omega)]; exact a3⟩
      · rw [List.getElem?_append_right (by omega)] at he
        have kl2 := (List.getElem?_eq_some_iff.mp he).1
        rw [List.length_singleton] at kl2
        have ek : k = Q.length := by omega
        rw [show k - Q.length = 0 by omega] at he
        have e' : (o, fo, fi, dd) = e := by simpa using he
        rw [← e', e178, e179, e180, if_pos ek, if_pos ek, if_pos ek]
        refine ⟨rfl, ?_, rfl⟩
        rcases hp with ⟨p1, p2, p3⟩ | ⟨p1, p3, _⟩
        · rw [p3]; exact (if_pos p1).symm
        · rw [p3]; exact (if_neg (show ¬ fo = 0 by omega)).symm
    · rw [e177, inWb_app]
      by_cases q : y = o
      · rw [if_pos q, decide_eq_true q.symm, Bool.or_true]; rfl
      · rw [if_neg q, decide_eq_false (fun h => q h.symm), Bool.or_false]; exact w3 y hy
theorem L247_S (R : mjR) (n a : Nat) (x : Int32) (hp : mjH) : L_247_2 R (n + 1) a x hp = b_247_2 R (L_247_2 R n) a x hp := rfl
theorem lq_247 (R : mjR) (hb : H.1 ≤ 1334) : ∀ (r i n : Nat) (s : mjSt3), i + r = H.1 + 1 → r < n → s.1 97 103 = nI H.1 → (∀ o, o < i → s.1 177 o = 0) → ∃ s', L_247_2 R n 97 (nI i) (mjW0 s) = some (none, mjW0 s') ∧ oWr s s' ∧ WRr H [] s'
  | r, i, 0, s, e, hr, h, w => by omega
  | 0, i, n + 1, s, e, hr, h, w => by
    refine ⟨uI s 97 (upd (s.1 97) 124 0), ?_, oWr.w1, by rw [uI_same, upd_g, if_pos rfl]; rfl, fun k e he => (by cases he), fun o ho => ?_⟩
    · rw [L247_S]
      unfold b_247_2
      rw [xg_97_103, h, if_pos (nI_lt (by omega) (by omega)), xp_97_124]
    · rw [uI_ne _ _ _ _ (by decide), w o (by omega)]
      rfl
  | r + 1, i, n + 1, s, e, hr, h, w => by
    obtain ⟨z1, g1⟩ : ∃ y, y = uI s 177 (upd (s.1 177) i 0) := ⟨_, rfl⟩
    obtain ⟨s', a1, a2, a3⟩ := lq_247 R hb r (i + 1) n z1 (by omega) (by omega) (by rw [g1, uI_ne _ _ _ _ (by decide)]; exact h) (fun o ho => by
      rw [g1, uI_same, upd_g]
      by_cases q : o = i
      · rw [if_pos q]
      · rw [if_neg q]; exact w o (by omega))
    refine ⟨s', ?_, offG.tr (b := z1) (by rw [g1]; exact oWr.w2 (by omega)) a2, a3⟩
    rw [L247_S]
    unfold b_247_2
    rw [xg_97_103, h, if_neg (nI_nlt (by omega) (by omega)), xg_97_120, ws_177 (by omega), nb0, ← g1, nI_1]
    exact a1
/-- clear -/
theorem x_247 (hb : H.1 ≤ 1334) (h : s.1 97 103 = nI H.1) : ∃ s', mjF (d + 1) 247 [.ref 97] (mjW0 s) = some (none, mjW0 s') ∧ oWr s s' ∧ WRr H [] s' := by
  obtain ⟨s', a1, a2, a3⟩ := lq_247 (mjF d) hb (H.1 + 1) 0 mjN s (by omega) (by unfold mjN; omega) h (fun o ho => absurd ho (Nat.not_lt_zero o))
  refine ⟨s', ?_, a2, a3⟩
  rw [e_247]
  unfold f_247 b_247_0
  exact a1
theorem L249_S (R : mjR) (n a : Nat) (x y : Int32) (hp : mjH) : L_249_2 R (n + 1) a x y hp = b_249_2 R (L_249_2 R n) a x y hp := rfl
theorem L249b_S (R : mjR) (k2 : Nat → Int32 → Int32 → mjH → mjU) (n a : Nat) (x y u v w : Int32) (hp : mjH) : L_249_28 R k2 (n + 1) a x y u v w hp = b_249_28 R k2 (L_249_28 R k2 n) a x y u v w hp := rfl
/-- the FIELDS of an OBJECT -/
theorem lq_249b (k2 : Nat → Int32 → Int32 → mjH → mjU) (P : HWp T L b H) (hsh : sh ≤ H.1) : ∀ (r i m : Nat) (Q : WQ) (s : mjSt3), Q[k]? = some e → i + r = fldT T L (H.2 e.1).1 → r < m → HWr T L b H s → WRr H Q s → WOK H Q → ∃ s', L_249_28 (mjF (d + 1)) k2 m 97 (nI sh) (nI k) (nI e.1) (nI (16 * b + (H.2 e.1).1)) (nI i) (mjW0 s) = k2 97 (nI sh) (nI (k + 1)) (mjW0 s') ∧ oWr s s' ∧ WRr H (wSlots T L H sh e.1 k e.2.2.2 r i Q) s' ∧ WOK H (wSlots T L H sh e.1 k e.2.2.2 r i Q)
  | r, i, 0, Q, s, he, ei, hr, hW, W, hQ => by omega
  | 0, i, m + 1, Q, s, he, ei, hr, hW, W, hQ => by
    obtain ⟨hO, B, hb, l16, nm, f384⟩ := P
    obtain ⟨e1, e2⟩ := hQ.2.1 e (List.mem_of_getElem? he)
    have cl := (hO e.1 e1 e2).1
    have f3 := f384 (H.2 e.1).1
    refine ⟨s, ?_, offG.rf, W, hQ⟩
    rw [L249b_S]
    unfold b_249_28
    rw [xg_97_20, wa_109 (by omega), (hW.2.2.1 _ cl).2, if_pos (nI_le (by omega) (by omega)), nI_1]
  | r + 1, i, m + 1, Q, s, he, ei, hr, hW, W, hQ => by
    obtain ⟨hO, B, hb, l16, nm, f384⟩ := id P
    have b1 := B.1
    have b2' := B.2
    obtain ⟨e1, e2⟩ := hQ.2.1 e (List.mem_of_getElem? he)
    have cl := (hO e.1 e1 e2).1
    have f3 := f384 (H.2 e.1).1
    have ln := hQ.len
    obtain ⟨n1, n5⟩ := nm _ cl
    obtain ⟨hP, h103, h104, h184⟩ := id hW
    obtain ⟨p1, p2, p3, p4⟩ := hP e.1 e1 e2
    have fl := fr_lt T L H e1 e2
    have il : i < fldT T L (H.2 e.1).1 := by omega
    obtain ⟨hh1, hh2⟩ := hop_ok (T := T) (L := L) (H := H) (o := e.1) (i := i) hO (by omega) e1 e2
    have pre : L_249_28 (mjF (d + 1)) k2 (m + 1) 97 (nI sh) (nI k) (nI e.1) (nI (16 * b + (H.2 e.1).1)) (nI i) (mjW0 s) = b_249_83 (mjF (d + 1)) k2 (L_249_28 (mjF (d + 1)) k2 m) 97 (nI sh) (nI k) (nI e.1) (nI (16 * b + (H.2 e.1).1)) (nI i) (nI (hopN T L H e.1 i)) (mjW0 s) := by
      rw [L249b_S]
      unfold b_249_28
      rw [xg_97_20, wa_109 (by omega), (h104 _ cl).2, if_neg (nI_ge (by omega) (by omega)), xg_97_131, show (400 : Int32) * nI (16 * b + (H.2 e.1).1) + nI i = nI (400 * (16 * b + (H.2 e.1).1) + i) by rw [show (400 : Int32) = nI 400 from rfl, nI_mul, nI_add], wa_184 (by omega), h184 _ cl i il, b2_i]
      by_cases g : obT T L (H.2 e.1).1 i = true
      · rw [if_pos g, xg_97_108, xg_97_110, wa_170 (by omega), p2, xg_97_15, wa_104 (by omega), (h104 _ cl).1, nI_add, nI_add, wa_168 (by omega), p4 i il, hh2 g]
      · rw [if_neg g]
        have : hopN T L H e.1 i = 0 := if_neg g
        rw [this]
        rfl
    have st : wSlots T L H sh e.1 k e.2.2.2 (r + 1) i Q = wSlots T L H sh e.1 k e.2.2.2 r (i + 1) (wHop T L H sh e.1 k e.2.2.2 i Q) := rfl
    rw [pre, st]
    unfold b_249_83 b_249_103
    by_cases c0 : hopN T L H e.1 i = 0
    · have ew : wHop T L H sh e.1 k e.2.2.2 i Q = Q := if_pos (Or.inl c0)
      rw [ew, c0, if_pos (show nI 0 = 0 from rfl), nI_1]
      exact lq_249b k2 P hsh r (i + 1) m Q s he (by omega) (by omega) hW W hQ
    · rw [if_neg (nI_ne0 (by omega) (by omega))]
      by_cases c1 : hopN T L H e.1 i = sh
      · have ew : wHop T L H sh e.1 k e.2.2.2 i Q = Q := if_pos (Or.inr c1)
        rw [ew, if_pos (by rw [c1]), nI_1]
        exact lq_249b k2 P hsh r (i + 1) m Q s he (by omega) (by omega) hW W hQ
      · have ew : wHop T L H sh e.1 k e.2.2.2 i Q = wCome Q (hopN T L H e.1 i) e.1 k (e.2.2.2 + 1) := if_neg (fun x => x.elim c0 c1)
        rw [ew, if_neg (fun x => c1 ((nI_eq (by omega) (by omega)).mp x)), xV_97]
        obtain ⟨s1, a1, a2, a3, a4⟩ := x_248 (d := d) (fo := e.1) (fi := k) (dd := e.2.2.2 + 1) (x := nI k) W hQ (by omega) (show 1 ≤ hopN T L H e.1 i by omega) hh1 (Or.inr ⟨e1, rfl, e, he, rfl, rfl⟩)
        obtain ⟨R, eR⟩ := come_pre (Q := Q) (o := hopN T L H e.1 i) (fo := e.1) (fi := k) (d := e.2.2.2 + 1)
        obtain ⟨s2, d1, d2, d3, d4⟩ := lq_249b k2 P hsh r (i + 1) m _ s1 (by rw [eR]; exact pre_at he) (by omega) (by omega) (hW.wr a2) a3 a4
        refine ⟨s2, ?_, offG.tr a2 d2, d3, d4⟩
        rw [a1, bN_s, nI_1]
        exact d1
/-- from place k of the queue on -/
theorem lq_249 (P : HWp T L b H) (hsh : sh ≤ H.1) : ∀ (n k m : Nat) (Q : WQ) (s : mjSt3), n + k = H.1 + 1 → n < m → HWr T L b H s → WRr H Q s → WOK H Q → ∃ s', L_249_2 (mjF (d + 1)) m 97 (nI sh) (nI k) (mjW0 s) = some (none, mjW0 s') ∧ oWr s s' ∧ WRr H (wGo T L H sh n k Q) s' ∧ WOK H (wGo T L H sh n k Q)
  | n, k, 0, Q, s, en, hm, hW, W, hQ => by omega
  | 0, k, m + 1, Q, s, en, hm, hW, W, hQ => by
    have ln := hQ.len
    have b1 := P.2.1.1
    have b2' := P.2.1.2
    refine ⟨s, ?_, offG.rf, W, hQ⟩
    rw [L249_S]
    unfold b_249_2
    rw [xg_97_124, W.1, if_pos (nI_le (by omega) (by omega))]
  | n + 1, k, m + 1, Q, s, en, hm, hW, W, hQ => by
    have ln := hQ.len
    have b1 := P.2.1.1
    have b2' := P.2.1.2
    cases he : Q[k]? with
    | none =>
      have kl := List.getElem?_eq_none_iff.mp he
      have ew : wGo T L H sh (n + 1) k Q = Q := by
        show (match Q[k]? with
          | none => Q
          | some e => wGo T L H sh n (k + 1) (wSlots T L H sh e.1 k e.2.2.2 (fldT T L (H.2 e.1).1) 0 Q)) = Q
        rw [he]
      rw [ew]
      refine ⟨s, ?_, offG.rf, W, hQ⟩
      rw [L249_S]
      unfold b_249_2
      rw [xg_97_124, W.1, if_pos (nI_le (by omega) (by omega))]
    | some e =>
      have kl := (List.getElem?_eq_some_iff.mp he).1
      obtain ⟨e1, e2⟩ := hQ.2.1 e (List.mem_of_getElem? he)
      have ew : wGo T L H sh (n + 1) k Q = wGo T L H sh n (k + 1) (wSlots T L H sh e.1 k e.2.2.2 (fldT T L (H.2 e.1).1) 0 Q) := by
        show (match Q[k]? with
          | none => Q
          | some e => wGo T L H sh n (k + 1) (wSlots T L H sh e.1 k e.2.2.2 (fldT T L (H.2 e.1).1) 0 Q)) = _
        rw [he]
      rw [ew]
      have f3 := P.2.2.2.2.2 (H.2 e.1).1
      obtain ⟨s1, a1, a2, a3, a4⟩ := lq_249b (d := d) (L_249_2 (mjF (d + 1)) m) P hsh (fldT T L (H.2 e.1).1) 0 mjN Q s he (by omega) (by unfold mjN; omega) hW W hQ
      obtain ⟨s2, d1, d2, d3, d4⟩ := lq_249 P hsh n (k + 1) m _ s1 (by omega) (by omega) (hW.wr a2) a3 a4
      refine ⟨s2, ?_, offG.tr a2 d2, d3, d4⟩
      have p1 := (hW.1 e.1 e1 e2).1
      rw [L249_S]
      unfold b_249_2
      rw [xg_97_124, W.1, if_neg (nI_ge (by omega) (by omega)), xg_97_121, wa_178 (by omega), (W.2.1 k e he).1, xg_97_109, wa_169 (by omega), p1]
      exact a1.trans d1
end MJB89
end
section
/-! ===== WAYS and LEAKS, the reference ===== -/
/-- all that its walker changes -/
def oWl : mjSt3 → mjSt3 → Prop := offG (fun h j => (h = 97 ∧ (j = 124 ∨ j = 126 ∨ j = 127)) ∨ (177 ≤ h ∧ h ≤ 181) ∨ h = 186 ∨ h = 187) (fun _ _ => False)
section MJB90
variable {T : TT} {d b o sh k i n m c : Nat} {L : List CD} {H : HEAP} {Q : WQ} {s s' : mjSt3}
theorem oWr.l (o : oWr s s') : oWl s s' := offG.mono o (fun h j w => by rcases w with w | w; exact Or.inl ⟨w.1, Or.inl w.2⟩; exact Or.inr (Or.inl ⟨w.1, by omega⟩)) (fun _ _ x => x)
theorem HWr.wl (h : HWr T L b H s) (o : oWl s s') : HWr T L b H s' := by
  have r : ∀ h, ¬ (h = 97 ∨ (177 ≤ h ∧ h ≤ 181) ∨ h = 186 ∨ h = 187) → s'.1 h = s.1 h := fun h e => funext fun j => o.1 h j (by omega)
  obtain ⟨h1, h2, h3, h4⟩ := h
  exact ⟨h1.keep (fun x hx => r x (by omega)), by rw [o.1 97 103 (by omega)]; exact h2, fun c hc => by rw [r 104 (by omega), r 109 (by omega)]; exact h3 c hc, fun c hc i hi => by rw [r 184 (by omega)]; exact h4 c hc i hi⟩
theorem oWl.w1 {v : Int32} {j : Nat} (hj : j = 124 ∨ j = 126 ∨ j = 127) : oWl s (uI s 97 (upd (s.1 97) j v)) := offG.w (Or.inl ⟨rfl, hj⟩)
theorem oWl.w2 {h : Nat} {g : Nat → Int32} (hh : (177 ≤ h ∧ h ≤ 181) ∨ h = 186 ∨ h = 187) : oWl s (uI s h g) := offG_of (fun h' j e => by rw [uI_ne _ _ _ _ (fun q => e (by rw [q]; exact Or.inr hh))]) rfl
theorem HWp.n1 (P : HWp T L b H) (o1 : 1 ≤ o) (o2 : o ≤ H.1) : 1 ≤ nmL L (H.2 o).1 := (P.2.2.2.2.1 _ (P.1 o o1 o2).1).1
/-- from the first of the queue on -/
theorem x_249 (P : HWp T L b H) (hsh : sh ≤ H.1) (hW : HWr T L b H s) (W : WRr H Q s) (hQ : WOK H Q) : ∃ s', mjF (d + 2) 249 [.ref 97, .int (nI sh)] (mjW0 s) = some (none, mjW0 s') ∧ oWr s s' ∧ WRr H (wGo T L H sh (H.1 + 1) 0 Q) s' ∧ WOK H (wGo T L H sh (H.1 + 1) 0 Q) := by
  have b1 := P.2.1.1
  have b2' := P.2.1.2
  obtain ⟨s', a1, a2, a3, a4⟩ := lq_249 (d := d) P hsh (H.1 + 1) 0 mjN Q s (by omega) (by unfold mjN; omega) hW W hQ
  refine ⟨s', ?_, a2, a3, a4⟩
  rw [e_249]
  unfold f_249 b_249_0
  exact a1
theorem L250_S (R : mjR) (n a : Nat) (x y : Int32) (hp : mjH) : L_250_2 R (n + 1) a x y hp = b_250_2 R (L_250_2 R n) a x y hp := rfl
/-- the place of an OBJECT in the queue -/
theorem lq_250 (R : mjR) (hb : H.1 ≤ 1334) (W : WRr H Q s) (hQ : WOK H Q) (o2 : o ≤ H.1) : ∀ (r i n : Nat), i + r = Q.length → r < n → (∀ (k : Nat) (e : Nat × Nat × Nat × Nat), k < i → Q[k]? = some e → ¬ e.1 = o) → ∃ v : Int32, L_250_2 R n 97 (nI o) (nI i) (mjW0 s) = some (some (.int v), mjW0 s) ∧ ((v = -1 ∧ ¬ inW Q o) ∨ ∃ (k : Nat) (e : Nat × Nat × Nat × Nat), Q[k]? = some e ∧ e.1 = o ∧ v = nI k)
  | r, i, 0, e, hr, w => by omega
  | 0, i, n + 1, e, hr, w => by
    have ln := hQ.len
    refine ⟨-1, ?_, Or.inl ⟨rfl, fun ⟨x, x1, x2⟩ => ?_⟩⟩
    · rw [L250_S]
      unfold b_250_2
      rw [xg_97_124, W.1, if_pos (nI_le (by omega) (by omega))]
    · obtain ⟨k, hk⟩ := List.getElem?_of_mem x1
      have kl := (List.getElem?_eq_some_iff.mp hk).1
      exact w k x (by omega) hk x2
  | r + 1, i, n + 1, e, hr, w => by
    have ln := hQ.len
    obtain ⟨x, hx⟩ : ∃ x, Q[i]? = some x := ⟨_, List.getElem?_eq_getElem (by omega)⟩
    obtain ⟨x1, x2⟩ := hQ.2.1 x (List.mem_of_getElem? hx)
    have pre : L_250_2 R (n + 1) 97 (nI o) (nI i) (mjW0 s) = (if nI x.1 = nI o then some (some (.int (nI i)), mjW0 s) else L_250_2 R n 97 (nI o) (nI (i + 1)) (mjW0 s)) := by
      rw [L250_S]
      unfold b_250_2
      rw [xg_97_124, W.1, if_neg (nI_ge (by omega) (by omega)), xg_97_121, wa_178 (by omega), (W.2.1 i x hx).1, nI_1]
    rw [pre]
    by_cases g : x.1 = o
    · rw [if_pos (by rw [g])]
      exact ⟨_, rfl, Or.inr ⟨i, x, hx, g, rfl⟩⟩
    · rw [if_neg (fun y => g ((nI_eq (by omega) (by omega)).mp y))]
      exact lq_250 R hb W hQ o2 r (i + 1) n (by omega) (by omega) (fun k y hk hy => by
        by_cases q : k = i
        · rw [q, hx] at hy
          rw [← Option.some.inj hy]
          exact g
        · exact w k y (by omega) hy)
theorem x_250 (hb : H.1 ≤ 1334) (W : WRr H Q s) (hQ : WOK H Q) (o2 : o ≤ H.1) : ∃ v : Int32, mjF (d + 1) 250 [.ref 97, .int (nI o)] (mjW0 s) = some (some (.int v), mjW0 s) ∧ ((v = -1 ∧ ¬ inW Q o) ∨ ∃ (k : Nat) (e : Nat × Nat × Nat × Nat), Q[k]? = some e ∧ e.1 = o ∧ v = nI k) := by
  have ln := hQ.len
  obtain ⟨v, a1, a2⟩ := lq_250 (mjF d) hb W hQ o2 Q.length 0 mjN (by omega) (by unfold mjN; omega) (fun k e hk _ => absurd hk (Nat.not_lt_zero k))
  refine ⟨v, ?_, a2⟩
  rw [e_250]
  unfold f_250 b_250_0
  exact a1
theorem L254_S (R : mjR) (n a : Nat) (x y : Int32) (hp : mjH) : L_254_6 R (n + 1) a x y hp = b_254_6 R (L_254_6 R n) a x y hp := rfl
theorem lq_254 (P : HWp T L b H) (hsh : sh ≤ H.1) : ∀ (r o m : Nat) (Q : WQ) (s : mjSt3), o + r = H.1 + 1 → 1 ≤ o → r < m → HWr T L b H s → WRr H Q s → WOK H Q → ∃ s', L_254_6 (mjF (d + 2)) m 97 (nI sh) (nI o) (mjW0 s) = some (none, mjW0 s') ∧ oWr s s' ∧ WRr H (wGo T L H sh (H.1 + 1) 0 (wRoots H sh r o Q)) s' ∧ WOK H (wGo T L H sh (H.1 + 1) 0 (wRoots H sh r o Q))
  | r, o, 0, Q, s, eo, o1, hm, hW, W, hQ => by omega
  | 0, o, m + 1, Q, s, eo, o1, hm, hW, W, hQ => by
    have b1 := P.2.1.1
    have b2' := P.2.1.2
    obtain ⟨s', a1, a2, a3, a4⟩ := x_249 (d := d) P hsh hW W hQ
    refine ⟨s', ?_, a2, a3, a4⟩
    rw [L254_S]
    unfold b_254_6
    rw [xg_97_103, hW.2.1, if_pos (nI_lt (by omega) (by omega)), xV_97, a1, bN_s]
  | r + 1, o, m + 1, Q, s, eo, o1, hm, hW, W, hQ => by
    have b1 := P.2.1.1
    have b2' := P.2.1.2
    have ol := (P.1 o o1 (by omega)).2.1 0
    have st : wRoots H sh (r + 1) o Q = wRoots H sh r (o + 1) (wRoot H sh o Q) := rfl
    have pre : L_254_6 (mjF (d + 2)) (m + 1) 97 (nI sh) (nI o) (mjW0 s) = (if nI ((H.2 o).2.1 0) = 0 then (if nI o = nI sh then L_254_6 (mjF (d + 2)) m 97 (nI sh) (nI (o + 1)) (mjW0 s) else bN (mjF (d + 2) 248 [.ref 97, .int (nI o), .int (-1)] (mjW0 s)) (fun hp5 => L_254_6 (mjF (d + 2)) m 97 (nI sh) (nI (o + 1)) hp5)) else L_254_6 (mjF (d + 2)) m 97 (nI sh) (nI (o + 1)) (mjW0 s)) := by
      rw [L254_S]
      unfold b_254_6 b_254_33
      rw [xg_97_103, hW.2.1, if_neg (nI_nlt (by omega) (by omega)), xV_97, x_253 hW.1 P.2.1 (P.n1 o1 (by omega)) o1 (by omega), bI_s, nI_1, xV_97]
    rw [pre, st]
    by_cases g : (H.2 o).2.1 0 = 0 ∧ ¬ o = sh
    · have ew : wRoot H sh o Q = wCome Q o 0 0 0 := if_pos g
      rw [ew, if_pos (by rw [g.1]; rfl), if_neg (fun x => g.2 ((nI_eq (by omega) (by omega)).mp x))]
      obtain ⟨s1, a1, a2, a3, a4⟩ := x_248 (d := d + 1) (fo := 0) (fi := 0) (dd := 0) (x := -1) W hQ (by omega) o1 (by omega) (Or.inl ⟨rfl, rfl, rfl⟩)
      obtain ⟨s2, d1, d2, d3, d4⟩ := lq_254 P hsh r (o + 1) m _ s1 (by omega) (by omega) (by omega) (hW.wr a2) a3 a4
      exact ⟨s2, by rw [a1, bN_s]; exact d1, offG.tr a2 d2, d3, d4⟩
    · have ew : wRoot H sh o Q = Q := if_neg g
      rw [ew]
      have ih := lq_254 P hsh r (o + 1) m Q s (by omega) (by omega) (by omega) hW W hQ
      by_cases g0 : (H.2 o).2.1 0 = 0
      · have g1 : o = sh := Classical.byContradiction (fun x => g ⟨g0, x⟩)
        rw [if_pos (by rw [g0]; rfl), if_pos (by rw [g1])]
        exact ih
      · rw [if_neg (nI_ne0 (by omega) (by omega))]
        exact ih
/-- from all ROOTS but one -/
theorem x_254 (P : HWp T L b H) (hsh : sh ≤ H.1) (hW : HWr T L b H s) : ∃ s', mjF (d + 3) 254 [.ref 97, .int (nI sh)] (mjW0 s) = some (none, mjW0 s') ∧ oWr s s' ∧ WRr H (walkR T L H sh) s' ∧ WOK H (walkR T L H sh) := by
  have b1 := P.2.1.1
  have b2' := P.2.1.2
  obtain ⟨s1, c1, c2, c3⟩ := x_247 (d := d + 1) (H := H) (s := s) (by omega) hW.2.1
  obtain ⟨s', a1, a2, a3, a4⟩ := lq_254 (d := d) P hsh H.1 1 mjN [] s1 (by omega) (by omega) (by unfold mjN; omega) (hW.wr c2) c3 WOK.nil
  refine ⟨s', ?_, offG.tr c2 a2, a3, a4⟩
  rw [e_254]
  unfold f_254 b_254_0
  rw [xV_97, c1, bN_s]
  exact a1
/-- from an OBJECT -/
theorem x_walkO (P : HWp T L b H) (o1 : 1 ≤ o) (o2 : o ≤ H.1) (hW : HWr T L b H s) : ∃ s1 s2 s', mjF (d + 2) 247 [.ref 97] (mjW0 s) = some (none, mjW0 s1) ∧ mjF (d + 2) 248 [.ref 97, .int (nI o), .int (-1)] (mjW0 s1) = some (none, mjW0 s2) ∧ mjF (d + 2) 249 [.ref 97, .int 0] (mjW0 s2) = some (none, mjW0 s') ∧ oWr s s' ∧ WRr H (walkO T L H o) s' ∧ WOK H (walkO T L H o) := by
  have b1 := P.2.1.1
  have b2' := P.2.1.2
  obtain ⟨s1, c1, c2, c3⟩ := x_247 (d := d + 1) (H := H) (s := s) (by omega) hW.2.1
  obtain ⟨s2, e1, e2, e3, e4⟩ := x_248 (d := d + 1) (fo := 0) (fi := 0) (dd := 0) (x := -1) c3 WOK.nil (by omega) o1 o2 (Or.inl ⟨rfl, rfl, rfl⟩)
  have ew : wCome [] o 0 0 0 = [(o, 0, 0, 0)] := rfl
  rw [ew] at e3 e4
  obtain ⟨s3, f1, f2, f3, f4⟩ := x_249 (d := d) (sh := 0) P (Nat.zero_le _) ((hW.wr c2).wr e2) e3 e4
  exact ⟨s1, s2, s3, c1, e1, f1, offG.tr c2 (offG.tr e2 f2), f3, f4⟩
end MJB90
end
section
/-! ===== the LEAKS, the reference ===== -/
section MJB91
variable {T : TT} {d b o w i n m c : Nat} {L : List CD} {H : HEAP} {Q : WQ} {s s' : mjSt3}
theorem L252a_S (R : mjR) (n a : Nat) (x : Int32) (hp : mjH) : L_252_20 R (n + 1) a x hp = b_252_20 R (L_252_20 R n) a x hp := rfl
theorem L252b_S (R : mjR) (n a : Nat) (x : Int32) (hp : mjH) : L_252_43 R (n + 1) a x hp = b_252_43 R (L_252_43 R n) a x hp := rfl
theorem L252c_S (R : mjR) (n a : Nat) (x : Int32) (hp : mjH) : L_252_66 R (n + 1) a x hp = b_252_66 R (L_252_66 R n) a x hp := rfl
theorem L252d_S (R : mjR) (n a : Nat) (x : Int32) (hp : mjH) : L_252_93 R (n + 1) a x hp = b_252_93 R (L_252_93 R n) a x hp := rfl
theorem L252e_S (R : mjR) (k93 : Nat → Int32 → mjH → mjU) (n a : Nat) (x y : Int32) (hp : mjH) : L_252_120 R k93 (n + 1) a x y hp = b_252_120 R k93 (L_252_120 R k93 n) a x y hp := rfl
theorem L252f_S (R : mjR) (n a : Nat) (x : Int32) (hp : mjH) : L_252_167 R (n + 1) a x hp = b_252_167 R (L_252_167 R n) a x hp := rfl
theorem lq_252a (R : mjR) (hb : H.1 ≤ 1334) : ∀ (r i n : Nat) (s : mjSt3), i + r = H.1 + 1 → r < n → s.1 97 103 = nI H.1 → (∀ o, o < i → s.1 181 o = 0) → ∃ s', L_252_20 R n 97 (nI i) (mjW0 s) = L_252_43 R mjN 97 (nI 0) (mjW0 s') ∧ oWl s s' ∧ s'.1 97 = s.1 97 ∧ ∀ o, o ≤ H.1 → s'.1 181 o = 0
  | r, i, 0, s, e, hr, h, w => by omega
  | 0, i, n + 1, s, e, hr, h, w => by
    refine ⟨s, ?_, offG.rf, rfl, fun o ho => w o (by omega)⟩
    rw [L252a_S]
    unfold b_252_20
    rw [xg_97_103, h, if_pos (nI_lt (by omega) (by omega))]
    rfl
  | r + 1, i, n + 1, s, e, hr, h, w => by
    obtain ⟨z1, g1⟩ : ∃ y, y = uI s 181 (upd (s.1 181) i 0) := ⟨_, rfl⟩
    have e97 : z1.1 97 = s.1 97 := by rw [g1, uI_ne _ _ _ _ (by decide)]
    obtain ⟨s', a1, a2, a3, a4⟩ := lq_252a R hb r (i + 1) n z1 (by omega) (by omega) (by rw [e97]; exact h) (fun o ho => by
      rw [g1, uI_same, upd_g]
      by_cases q : o = i
      · rw [if_pos q]
      · rw [if_neg q]; exact w o (by omega))
    refine ⟨s', ?_, offG.tr (b := z1) (by rw [g1]; exact oWl.w2 (by omega)) a2, by rw [a3, e97], a4⟩
    rw [L252a_S]
    unfold b_252_20
    rw [xg_97_103, h, if_neg (nI_nlt (by omega) (by omega)), xg_97_125, ws_181 (by omega), nb0, ← g1, nI_1]
    exact a1
theorem lq_252b (R : mjR) (hb : H.1 ≤ 1334) : ∀ (r i n : Nat) (s : mjSt3), i + r = H.1 + 1 → r < n → s.1 97 103 = nI H.1 → ∃ s', L_252_43 R n 97 (nI i) (mjW0 s) = L_252_66 R mjN 97 (nI 1) (mjW0 s') ∧ oWl s s' ∧ s'.1 97 = s.1 97 ∧ s'.1 181 = s.1 181
  | r, i, 0, s, e, hr, h => by omega
  | 0, i, n + 1, s, e, hr, h => by
    refine ⟨s, ?_, offG.rf, rfl, rfl⟩
    rw [L252b_S]
    unfold b_252_43
    rw [xg_97_103, h, if_pos (nI_lt (by omega) (by omega))]
    rfl
  | r + 1, i, n + 1, s, e, hr, h => by
    obtain ⟨z1, g1⟩ : ∃ y, y = uI s 186 (upd (s.1 186) i 0) := ⟨_, rfl⟩
    have e97 : z1.1 97 = s.1 97 := by rw [g1, uI_ne _ _ _ _ (by decide)]
    obtain ⟨s', a1, a2, a3, a4⟩ := lq_252b R hb r (i + 1) n z1 (by omega) (by omega) (by rw [e97]; exact h)
    refine ⟨s', ?_, offG.tr (b := z1) (by rw [g1]; exact oWl.w2 (by omega)) a2, by rw [a3, e97], by rw [a4, g1, uI_ne _ _ _ _ (by decide)]⟩
    rw [L252b_S]
    unfold b_252_43
    rw [xg_97_103, h, if_neg (nI_nlt (by omega) (by omega)), xg_97_135, ws_186 (by omega), nb0, ← g1, nI_1]
    exact a1
/-- those who own -/
theorem lq_252c (P : HWp T L b H) : ∀ (r i n : Nat) (s : mjSt3), i + r = H.1 + 1 → 1 ≤ i → r < n → HWr T L b H s → (∀ o, 1 ≤ o → o < i → ¬ s.1 186 ((H.2 o).2.1 0) = 0) → ∃ s', L_252_66 (mjF (d + 1)) n 97 (nI i) (mjW0 s) = L_252_93 (mjF (d + 1)) mjN 97 (nI 1) (mjW0 s') ∧ oWl s s' ∧ s'.1 97 = s.1 97 ∧ s'.1 181 = s.1 181 ∧ ∀ o, 1 ≤ o → o ≤ H.1 → ¬ s'.1 186 ((H.2 o).2.1 0) = 0
  | r, i, 0, s, e, i1, hr, hW, w => by omega
  | 0, i, n + 1, s, e, i1, hr, hW, w => by
    have b1 := P.2.1.1
    have b2' := P.2.1.2
    refine ⟨s, ?_, offG.rf, rfl, rfl, fun o o1 o2 => w o o1 (by omega)⟩
    rw [L252c_S]
    unfold b_252_66
    rw [xg_97_103, hW.2.1, if_pos (nI_lt (by omega) (by omega))]
    rfl
  | r + 1, i, n + 1, s, e, i1, hr, hW, w => by
    have b1 := P.2.1.1
    have b2' := P.2.1.2
    have ol := (P.1 i i1 (by omega)).2.1 0
    obtain ⟨z1, g1⟩ : ∃ y, y = uI s 186 (upd (s.1 186) ((H.2 i).2.1 0) 1) := ⟨_, rfl⟩
    have e97 : z1.1 97 = s.1 97 := by rw [g1, uI_ne _ _ _ _ (by decide)]
    have o1' : oWl s z1 := by rw [g1]; exact oWl.w2 (by omega)
    obtain ⟨s', a1, a2, a3, a4, a5⟩ := lq_252c P r (i + 1) n z1 (by omega) (by omega) (by omega) (hW.wl o1') (fun o o1 o2 => by
      rw [g1, uI_same, upd_g]
      by_cases q : (H.2 o).2.1 0 = (H.2 i).2.1 0
      · rw [if_pos q]; decide
      · rw [if_neg q]
        exact w o o1 (by
          by_cases y : o = i
          · exact absurd (by rw [y]) q
          · omega))
    refine ⟨s', ?_, offG.tr o1' a2, by rw [a3, e97], by rw [a4, g1, uI_ne _ _ _ _ (by decide)], a5⟩
    rw [L252c_S]
    unfold b_252_66
    rw [xg_97_103, hW.2.1, if_neg (nI_nlt (by omega) (by omega)), xg_97_135, xV_97, x_253 hW.1 P.2.1 (P.n1 i1 (by omega)) i1 (by omega), bI_s, ws_186 (by omega), nb1, ← g1, nI_1]
    exact a1
/-- those of one owner -/
theorem lq_252e (k93 : Nat → Int32 → mjH → mjU) (P : HWp T L b H) (w1 : 1 ≤ w) (w2 : w ≤ H.1) : ∀ (r i n : Nat) (s : mjSt3), i + r = H.1 + 1 → 1 ≤ i → r < n → HWr T L b H s → WRr H (walkR T L H w) s → (∀ o, 1 ≤ o → o ≤ H.1 → s.1 181 o = b2 (lkO T L H o && (decide ((H.2 o).2.1 0 < w) || (decide ((H.2 o).2.1 0 = w) && decide (o < i))))) → ∃ s', L_252_120 (mjF (d + 1)) k93 n 97 (nI w) (nI i) (mjW0 s) = k93 97 (nI (w + 1)) (mjW0 s') ∧ oWl s s' ∧ s'.1 97 = s.1 97 ∧ s'.1 186 = s.1 186 ∧ ∀ o, 1 ≤ o → o ≤ H.1 → s'.1 181 o = b2 (lkO T L H o && decide ((H.2 o).2.1 0 < w + 1))
  | r, i, 0, s, e, i1, hr, hW, W, K => by omega
  | 0, i, n + 1, s, e, i1, hr, hW, W, K => by
    have b1 := P.2.1.1
    have b2' := P.2.1.2
    refine ⟨s, ?_, offG.rf, rfl, rfl, fun o o1 o2 => ?_⟩
    · rw [L252e_S]
      unfold b_252_120 b_252_159
      rw [xg_97_103, hW.2.1, if_pos (nI_lt (by omega) (by omega)), nI_1]
    · rw [K o o1 o2, decide_eq_true (show o < i by omega), Bool.and_true]
      congr 2
      by_cases q : (H.2 o).2.1 0 < w
      · rw [decide_eq_true q, decide_eq_true (show (H.2 o).2.1 0 < w + 1 by omega)]; rfl
      · rw [decide_eq_false q, Bool.false_or]
        by_cases q2 : (H.2 o).2.1 0 = w
        · rw [decide_eq_true q2, decide_eq_true (show (H.2 o).2.1 0 < w + 1 by omega)]
        · rw [decide_eq_false q2, decide_eq_false (show ¬ (H.2 o).2.1 0 < w + 1 by omega)]
  | r + 1, i, n + 1, s, e, i1, hr, hW, W, K => by
    have b1 := P.2.1.1
    have b2' := P.2.1.2
    have ol := (P.1 i i1 (by omega)).2.1 0
    have pre : L_252_120 (mjF (d + 1)) k93 (n + 1) 97 (nI w) (nI i) (mjW0 s) = (if nI ((H.2 i).2.1 0) = nI w then (if b2 (inWb (walkR T L H w) i) = 0 then L_252_120 (mjF (d + 1)) k93 n 97 (nI w) (nI (i + 1)) (mjW0 s) else L_252_120 (mjF (d + 1)) k93 n 97 (nI w) (nI (i + 1)) (mjW0 (uI s 181 (upd (s.1 181) i 1)))) else L_252_120 (mjF (d + 1)) k93 n 97 (nI w) (nI (i + 1)) (mjW0 s)) := by
      rw [L252e_S]
      unfold b_252_120 b_252_153
      rw [xg_97_103, hW.2.1, if_neg (nI_nlt (by omega) (by omega)), xV_97, x_253 hW.1 P.2.1 (P.n1 i1 (by omega)) i1 (by omega), bI_s, xg_97_120, wa_177 (by omega), W.2.2 i (by omega), xg_97_125, ws_181 (by omega), nb1, nI_1]
    have same : (¬ (H.2 i).2.1 0 = w ∨ inWb (walkR T L H w) i = false) → ∀ o, 1 ≤ o → o ≤ H.1 → s.1 181 o = b2 (lkO T L H o && (decide ((H.2 o).2.1 0 < w) || (decide ((H.2 o).2.1 0 = w) && decide (o < i + 1)))) := by
      intro hh o o1 o2
      rw [K o o1 o2]
      by_cases q : o = i
      · rw [q, decide_eq_false (show ¬ i < i by omega), decide_eq_true (show i < i + 1 by omega), Bool.and_false, Bool.and_true, Bool.or_false]
        rcases hh with h | h
        · rw [decide_eq_false h, Bool.or_false]
        · by_cases y : (H.2 i).2.1 0 = w
          · have lk : lkO T L H i = false := by
              unfold lkO
              rw [y, h, Bool.and_false]
            rw [lk, Bool.false_and, Bool.false_and]
          · rw [decide_eq_false y, Bool.or_false]
      · by_cases y : o < i
        · rw [decide_eq_true y, decide_eq_true (show o < i + 1 by omega)]
        · rw [decide_eq_false y, decide_eq_false (show ¬ o < i + 1 by omega)]
    rw [pre]
    by_cases g : (H.2 i).2.1 0 = w
    · rw [if_pos (by rw [g])]
      cases hi : inWb (walkR T L H w) i with
      | false =>
        rw [if_pos (show b2 false = 0 from rfl)]
        exact lq_252e k93 P w1 w2 r (i + 1) n s (by omega) (by omega) (by omega) hW W (same (Or.inr hi))
      | true =>
        rw [if_neg (show ¬ b2 true = 0 by decide)]
        obtain ⟨z1, g1⟩ : ∃ y, y = uI s 181 (upd (s.1 181) i 1) := ⟨_, rfl⟩
        rw [← g1]
        have o1' : oWl s z1 := by rw [g1]; exact oWl.w2 (by omega)
        have rr : ∀ h, ¬ h = 181 → z1.1 h = s.1 h := fun h e => by rw [g1, uI_ne _ _ _ _ e]
        obtain ⟨s', a1, a2, a3, a4, a5⟩ := lq_252e k93 P w1 w2 r (i + 1) n z1 (by omega) (by omega) (by omega) (hW.wl o1') (by
          unfold WRr at W ⊢
          rw [rr 97 (by decide), rr 177 (by decide), rr 178 (by decide), rr 179 (by decide), rr 180 (by decide)]
          exact W) (fun o o1 o2 => by
          rw [g1, uI_same, upd_g]
          by_cases q : o = i
          · have lk : lkO T L H i = true := by
              unfold lkO
              rw [g, hi, decide_eq_false (show ¬ w = 0 by omega)]
              rfl
            rw [if_pos q, q, lk, g, decide_eq_true (show w = w from rfl), decide_eq_true (show i < i + 1 by omega), Bool.and_true, Bool.or_true]
            rfl
          · rw [if_neg q, K o o1 o2]
            by_cases y : o < i
            · rw [decide_eq_true y, decide_eq_true (show o < i + 1 by omega)]
            · rw [decide_eq_false y, decide_eq_false (show ¬ o < i + 1 by omega)])
        exact ⟨s', a1, offG.tr o1' a2, by rw [a3, rr 97 (by decide)], by rw [a4, rr 186 (by decide)], a5⟩
    · rw [if_neg (fun x => g ((nI_eq (by omega) (by omega)).mp x))]
      exact lq_252e k93 P w1 w2 r (i + 1) n s (by omega) (by omega) (by omega) hW W (same (Or.inl g))
theorem oWr_181 (o : oWr s s') : s'.1 181 = s.1 181 ∧ s'.1 186 = s.1 186 ∧ ∀ j, ¬ j = 124 → s'.1 97 j = s.1 97 j := ⟨funext fun j => o.1 181 j (by omega), funext fun j => o.1 186 j (by omega), fun j hj => o.1 97 j (by omega)⟩
/-- all owners -/
theorem lq_252d (P : HWp T L b H) : ∀ (r w n : Nat) (s : mjSt3), w + r = H.1 + 1 → 1 ≤ w → r < n → HWr T L b H s → (∀ o, 1 ≤ o → o ≤ H.1 → ¬ s.1 186 ((H.2 o).2.1 0) = 0) → (∀ o, 1 ≤ o → o ≤ H.1 → s.1 181 o = b2 (lkO T L H o && decide ((H.2 o).2.1 0 < w))) → ∃ s', L_252_93 (mjF (d + 3)) n 97 (nI w) (mjW0 s) = L_252_167 (mjF (d + 3)) mjN 97 (nI 1) (mjW0 s') ∧ oWl s s' ∧ (∀ j, ¬ j = 124 → s'.1 97 j = s.1 97 j) ∧ ∀ o, 1 ≤ o → o ≤ H.1 → s'.1 181 o = b2 (lkO T L H o)
  | r, w, 0, s, e, w1, hr, hW, U, K => by omega
  | 0, w, n + 1, s, e, w1, hr, hW, U, K => by
    have b1 := P.2.1.1
    have b2' := P.2.1.2
    refine ⟨s, ?_, offG.rf, fun _ _ => rfl, fun o o1 o2 => ?_⟩
    · rw [L252d_S]
      unfold b_252_93
      rw [xg_97_103, hW.2.1, if_pos (nI_lt (by omega) (by omega))]
      rfl
    · have ol := (P.1 o o1 o2).2.1 0
      rw [K o o1 o2, decide_eq_true (show (H.2 o).2.1 0 < w by omega), Bool.and_true]
  | r + 1, w, n + 1, s, e, w1, hr, hW, U, K => by
    have b1 := P.2.1.1
    have b2' := P.2.1.2
    have pre : L_252_93 (mjF (d + 3)) (n + 1) 97 (nI w) (mjW0 s) = (if s.1 186 w = 0 then L_252_93 (mjF (d + 3)) n 97 (nI (w + 1)) (mjW0 s) else bN (mjF (d + 3) 254 [.ref 97, .int (nI w)] (mjW0 s)) (fun hp4 => L_252_120 (mjF (d + 3)) (L_252_93 (mjF (d + 3)) n) mjN 97 (nI w) (nI 1) hp4)) := by
      rw [L252d_S]
      unfold b_252_93 b_252_159
      rw [xg_97_103, hW.2.1, if_neg (nI_nlt (by omega) (by omega)), xg_97_135, wa_186 (by omega), xV_97, nI_1]
      rfl
    rw [pre]
    by_cases g : s.1 186 w = 0
    · rw [if_pos g]
      refine lq_252d P r (w + 1) n s (by omega) (by omega) (by omega) hW U (fun o o1 o2 => ?_)
      have ne : ¬ (H.2 o).2.1 0 = w := fun x => U o o1 o2 (by rw [x]; exact g)
      rw [K o o1 o2]
      by_cases q : (H.2 o).2.1 0 < w
      · rw [decide_eq_true q, decide_eq_true (show (H.2 o).2.1 0 < w + 1 by omega)]
      · rw [decide_eq_false q, decide_eq_false (show ¬ (H.2 o).2.1 0 < w + 1 by omega)]
    · rw [if_neg g]
      obtain ⟨s1, a1, a2, a3, a4⟩ := x_254 (d := d) (sh := w) P (by omega) hW
      obtain ⟨k1, k2, k3⟩ := oWr_181 a2
      obtain ⟨s2, c1, c2, c3, c4, c5⟩ := lq_252e (d := d + 2) (L_252_93 (mjF (d + 3)) n) P w1 (by omega) H.1 1 mjN s1 (by omega) (by omega) (by unfold mjN; omega) (hW.wr a2) a3 (fun o o1 o2 => by
        rw [k1, K o o1 o2, decide_eq_false (show ¬ o < 1 by omega), Bool.and_false, Bool.or_false])
      obtain ⟨s3, d1, d2, d3, d4⟩ := lq_252d P r (w + 1) n s2 (by omega) (by omega) (by omega) ((hW.wr a2).wl c2) (fun o o1 o2 => by rw [c4, k2]; exact U o o1 o2) c5
      refine ⟨s3, ?_, offG.tr a2.l (offG.tr c2 d2), fun j hj => by rw [d3 j hj, c3, k3 j hj], d4⟩
      rw [a1, bN_s]
      exact c1.trans d1
/-- how many -/
theorem lq_252f (R : mjR) (hb : H.1 ≤ 1334) : ∀ (r o n : Nat) (s : mjSt3), o + 1 + r = H.1 + 1 → r < n → s.1 97 103 = nI H.1 → s.1 97 127 = nI (lkN T L H o) → (∀ o, 1 ≤ o → o ≤ H.1 → s.1 181 o = b2 (lkO T L H o)) → ∃ s', L_252_167 R n 97 (nI (o + 1)) (mjW0 s) = some (none, mjW0 s') ∧ oWl s s' ∧ s'.1 181 = s.1 181 ∧ s'.1 97 126 = s.1 97 126 ∧ s'.1 97 127 = nI (lkN T L H H.1)
  | r, o, 0, s, e, hr, h, h7, K => by omega
  | 0, o, n + 1, s, e, hr, h, h7, K => by
    have eo : o = H.1 := by omega
    refine ⟨s, ?_, offG.rf, rfl, rfl, by rw [h7, eo]⟩
    rw [L252f_S]
    unfold b_252_167
    rw [xg_97_103, h, if_pos (nI_lt (by omega) (by omega))]
  | r + 1, o, n + 1, s, e, hr, h, h7, K => by
    obtain ⟨z1, g1⟩ : ∃ y, y = uI s 97 (upd (s.1 97) 127 (nI (lkN T L H (o + 1)))) := ⟨_, rfl⟩
    have v1 : ∀ j, z1.1 97 j = if j = 127 then nI (lkN T L H (o + 1)) else s.1 97 j := fun j => by rw [g1, uI_same, upd_g]
    have r1 : ∀ h, ¬ h = 97 → z1.1 h = s.1 h := fun h e => by rw [g1, uI_ne _ _ _ _ e]
    obtain ⟨s', a1, a2, a3, a4, a5⟩ := lq_252f R hb r (o + 1) n z1 (by omega) (by omega) (by rw [v1, if_neg (by decide)]; exact h) (by rw [v1, if_pos rfl]) (by rw [r1 181 (by decide)]; exact K)
    refine ⟨s', ?_, offG.tr (b := z1) (by rw [g1]; exact oWl.w1 (by omega)) a2, by rw [a3, r1 181 (by decide)], by rw [a4, v1, if_neg (by decide)], a5⟩
    have ln : lkN T L H (o + 1) = lkN T L H o + (if lkO T L H (o + 1) = true then 1 else 0) := rfl
    rw [L252f_S]
    unfold b_252_167 b_252_194
    rw [xg_97_103, h, if_neg (nI_nlt (by omega) (by omega)), xg_97_127, h7, xg_97_125, wa_181 (by omega), K (o + 1) (by omega) (by omega), nI_1]
    cases hl : lkO T L H (o + 1) with
    | false =>
      rw [hl, if_neg (show ¬ false = true by decide)] at ln
      rw [if_pos (show b2 false = 0 from rfl), show nI (lkN T L H o) + (0 : Int32) = nI (lkN T L H (o + 1)) by rw [ln]; exact nI_add _ 0, xp_97_127, ← g1]
      exact a1
    | true =>
      rw [hl, if_pos rfl] at ln
      rw [if_neg (show ¬ b2 true = 0 by decide), nI_1, ← ln, xp_97_127, ← g1]
      exact a1
/-- learn -/
theorem x_252 (P : HWp T L b H) (hW : HWr T L b H s) (K : KNm T L H s) : ∃ s', mjF (d + 4) 252 [.ref 97] (mjW0 s) = some (none, mjW0 s') ∧ oWl s s' ∧ s'.1 97 126 = 1 ∧ KNm T L H s' := by
  have b1 := P.2.1.1
  have b2' := P.2.1.2
  rcases K with h0 | h1
  · obtain ⟨z1, g1⟩ : ∃ y, y = uI s 97 (upd (s.1 97) 126 1) := ⟨_, rfl⟩
    obtain ⟨z2, g2⟩ : ∃ y, y = uI z1 97 (upd (z1.1 97) 127 0) := ⟨_, rfl⟩
    have v2 : ∀ j, z2.1 97 j = if j = 127 then 0 else if j = 126 then 1 else s.1 97 j := fun j => by rw [g2, uI_same, upd_g, g1, uI_same, upd_g]
    have o2 : oWl s z2 := offG.tr (b := z1) (by rw [g1]; exact oWl.w1 (by omega)) (by rw [g2]; exact oWl.w1 (by omega))
    obtain ⟨s1, a1, a2, a3, a4⟩ := lq_252a (mjF (d + 3)) (show H.1 ≤ 1334 by omega) (H.1 + 1) 0 mjN z2 (by omega) (by unfold mjN; omega) (by rw [v2, if_neg (by decide), if_neg (by decide)]; exact hW.2.1) (fun o ho => absurd ho (Nat.not_lt_zero o))
    obtain ⟨s2, c1, c2, c3, c4⟩ := lq_252b (mjF (d + 3)) (show H.1 ≤ 1334 by omega) (H.1 + 1) 0 mjN s1 (by omega) (by unfold mjN; omega) (by rw [a3, v2, if_neg (by decide), if_neg (by decide)]; exact hW.2.1)
    have oc : oWl s s2 := offG.tr o2 (offG.tr a2 c2)
    obtain ⟨s3, e1, e2, e3, e4, e5⟩ := lq_252c (d := d + 2) P H.1 1 mjN s2 (by omega) (by omega) (by unfold mjN; omega) (hW.wl oc) (fun o o1 o2 => by omega)
    obtain ⟨s4, f1, f2, f3, f4⟩ := lq_252d (d := d) P H.1 1 mjN s3 (by omega) (by omega) (by unfold mjN; omega) ((hW.wl oc).wl e2) e5 (fun o o1 o2 => by
      rw [e4, c4, a4 o o2]
      by_cases q : (H.2 o).2.1 0 = 0
      · have lk : lkO T L H o = false := by unfold lkO; rw [decide_eq_true q]; rfl
        rw [lk]; rfl
      · rw [decide_eq_false (show ¬ (H.2 o).2.1 0 < 1 by omega), Bool.and_false]; rfl)
    have o4 : oWl s s4 := offG.tr oc (offG.tr e2 f2)
    have x97 : ∀ j, ¬ j = 124 → s4.1 97 j = z2.1 97 j := fun j hj => by rw [f3 j hj, e3, c3, a3]
    obtain ⟨s5, k1, k2, k3, k4, k5⟩ := lq_252f (T := T) (L := L) (mjF (d + 3)) (show H.1 ≤ 1334 by omega) H.1 0 mjN s4 (by omega) (by unfold mjN; omega) (by rw [x97 103 (by decide), v2, if_neg (by decide), if_neg (by decide)]; exact hW.2.1) (by rw [x97 127 (by decide), v2, if_pos rfl]; rfl) f4
    have k6 : s5.1 97 126 = 1 := by rw [k4, x97 126 (by decide), v2, if_neg (by decide), if_pos rfl]
    refine ⟨s5, ?_, offG.tr o4 k2, k6, Or.inr ⟨k6, by rw [k3]; exact f4, k5⟩⟩
    rw [e_252]
    unfold f_252 b_252_0
    rw [xg_97_126, h0, if_pos rfl, xp_97_126 (by decide), ← g1, xp_97_127, ← g2]
    exact a1.trans (c1.trans (e1.trans (f1.trans k1)))
  · refine ⟨s, ?_, offG.rf, h1.1, Or.inr h1⟩
    rw [e_252]
    unfold f_252 b_252_0
    rw [xg_97_126, h1.1, if_neg (show ¬ ((1 : Int32) = 0) by decide)]
end MJB91
end
section
/-! ===== way, above, leaks, leak, past: the reference ===== -/
/-- the LEAK of that number -/
def lkAt (T : TT) (L : List CD) (H : HEAP) (a : Int32) : Nat → Nat → Nat → Int32
  | 0, _, _ => -1
  | r + 1, o, c => if lkO T L H o = true then (if nI c = a then nI o else lkAt T L H a r (o + 1) (c + 1)) else lkAt T L H a r (o + 1) c
/-- up a WAY from place k to where x HOPS were made -/
def upQ (Q : WQ) (x : Nat) : Nat → Nat → Nat
  | 0, _ => 0
  | n + 1, k => match Q[k]? with
    | none => 0
    | some e => if e.2.2.2 ≤ x then e.1 else upQ Q x n e.2.2.1
section MJB92
variable {T : TT} {d b o i n m c k : Nat} {L : List CD} {H : HEAP} {Q : WQ} {s s' : mjSt3} {a v : Int32} {e : Nat × Nat × Nat × Nat}
theorem WOK.dist (hQ : WOK H Q) : ∀ (n k : Nat) (e : Nat × Nat × Nat × Nat), k ≤ n → Q[k]? = some e → e.2.2.2 ≤ k
  | n, k, e, hk, he => by
    rcases hQ.2.2 k e he with ⟨_, h⟩ | ⟨_, h1, p, p1, p2, p3⟩
    · omega
    · cases n with
      | zero => omega
      | succ n =>
        have := WOK.dist hQ n e.2.2.1 p (by omega) p1
        omega
theorem x_245 (P : HWp T L b H) (hW : HWr T L b H s) (ho1 : 1 ≤ o) (ho2 : o ≤ H.1) (hc1 : 1 ≤ c) (hc2 : c ≤ H.1) (h246 : ∀ (d x : Nat) (s' : mjSt3), 1 ≤ x → x ≤ H.1 → oWl s s' → mjF (d + 1) 246 [.ref 97, .int (nI x)] (mjW0 s') = some (some (.int 1), mjW0 s')) : ∃ s' v, mjF (d + 3) 245 [.ref 97, .int (nI o), .int (nI c)] (mjW0 s) = some (some (.int v), mjW0 s') ∧ oWl s s' ∧ s'.1 97 126 = s.1 97 126 ∧ s'.1 97 127 = s.1 97 127 ∧ s'.1 181 = s.1 181 ∧ ((v = -1 ∧ ¬ inW (walkO T L H o) c) ∨ ∃ (k : Nat) (e : Nat × Nat × Nat × Nat), (walkO T L H o)[k]? = some e ∧ e.1 = c ∧ v = nI e.2.2.2) := by
  have b1 := P.2.1.1
  have b2' := P.2.1.2
  obtain ⟨s1, s2, s3, a1, a2, a3, a4, a5, a6⟩ := x_walkO (d := d) P ho1 ho2 hW
  obtain ⟨v, c1, c2⟩ := x_250 (d := d + 1) (by omega) a5 a6 hc2
  obtain ⟨k1, k2, k3⟩ := oWr_181 a4
  have pre : mjF (d + 3) 245 [.ref 97, .int (nI o), .int (nI c)] (mjW0 s) = (if 0 ≤ v then gR (mjW0 s3) 97 12 123 (fun v10 => aI (mjW0 s3) v10 v (fun v11 => some (some (.int v11), mjW0 s3))) else some (some (.int (-1)), mjW0 s3)) := by
    rw [e_245]
    unfold f_245 b_245_0 b_245_16
    rw [xV_97, h246 (d + 1) o s ho1 ho2 offG.rf, bI_s, if_neg (show ¬ ((1 : Int32) = 0) by decide), xV_97, h246 (d + 1) c s hc1 hc2 offG.rf, bI_s, if_neg (show ¬ ((1 : Int32) = 0) by decide), xV_97, a1, bN_s, xV_97, a2, bN_s, xV_97, a3, bN_s, xV_97, c1, bI_s]
  rcases c2 with ⟨c3, c4⟩ | ⟨k, e, c3, c4, c5⟩
  · refine ⟨s3, -1, ?_, a4.l, k3 126 (by decide), k3 127 (by decide), k1, Or.inl ⟨rfl, c4⟩⟩
    rw [pre, c3, if_neg (show ¬ (0 : Int32) ≤ -1 by decide)]
  · have kl := (List.getElem?_eq_some_iff.mp c3).1
    have ln := a6.len
    refine ⟨s3, nI e.2.2.2, ?_, a4.l, k3 126 (by decide), k3 127 (by decide), k1, Or.inr ⟨k, e, c3, c4, rfl⟩⟩
    rw [pre, c5, if_pos (nI_pos' (by omega)), xg_97_123, wa_180 (by omega), (a5.2.1 k e c3).2.2]
theorem x_251 (P : HWp T L b H) (hW : HWr T L b H s) (K : KNm T L H s) (h96 : ¬ s.1 97 96 = 0) : ∃ s', mjF (d + 5) 251 [.ref 97] (mjW0 s) = some (some (.int (nI (lkN T L H H.1))), mjW0 s') ∧ oWl s s' ∧ KNm T L H s' := by
  obtain ⟨s', a1, a2, a3, a4⟩ := x_252 (d := d) P hW K
  have h127 : s'.1 97 127 = nI (lkN T L H H.1) := by
    rcases a4 with h | h
    · rw [a3] at h; exact absurd h (by decide)
    · exact h.2.2
  refine ⟨s', ?_, a2, a4⟩
  rw [e_251]
  unfold f_251 b_251_0
  rw [xg_97_96, if_neg h96, xV_97, a1, bN_s, xg_97_127, h127]
theorem L255_S (R : mjR) (n x : Nat) (y u w : Int32) (hp : mjH) : L_255_21 R (n + 1) x y u w hp = b_255_21 R (L_255_21 R n) x y u w hp := rfl
theorem lq_255 (R : mjR) (hb : H.1 ≤ 1334) (h : s.1 97 103 = nI H.1) (K : ∀ o, 1 ≤ o → o ≤ H.1 → s.1 181 o = b2 (lkO T L H o)) : ∀ (r o c n : Nat), o + r = H.1 + 1 → 1 ≤ o → r < n → L_255_21 R n 97 a (nI c) (nI o) (mjW0 s) = some (some (.int (lkAt T L H a r o c)), mjW0 s)
  | r, o, c, 0, e, o1, hr => by omega
  | 0, o, c, n + 1, e, o1, hr => by
    rw [L255_S]
    unfold b_255_21
    rw [xg_97_103, h, if_pos (nI_lt (by omega) (by omega))]
    rfl
  | r + 1, o, c, n + 1, e, o1, hr => by
    have st : lkAt T L H a (r + 1) o c = if lkO T L H o = true then (if nI c = a then nI o else lkAt T L H a r (o + 1) (c + 1)) else lkAt T L H a r (o + 1) c := rfl
    rw [L255_S, st]
    unfold b_255_21 b_255_51
    rw [xg_97_103, h, if_neg (nI_nlt (by omega) (by omega)), xg_97_125, wa_181 (by omega), K o o1 (by omega), b2_i, nI_1, nI_1]
    by_cases g : lkO T L H o = true
    · rw [if_pos g, if_pos g]
      by_cases q : nI c = a
      · rw [if_pos q, if_pos q]
      · rw [if_neg q, if_neg q]
        exact lq_255 R hb h K r (o + 1) (c + 1) n (by omega) (by omega) (by omega)
    · rw [if_neg g, if_neg g]
      exact lq_255 R hb h K r (o + 1) c n (by omega) (by omega) (by omega)
theorem x_255 (P : HWp T L b H) (hW : HWr T L b H s) (K : KNm T L H s) (h96 : ¬ s.1 97 96 = 0) (a0 : 0 ≤ a) : ∃ s', mjF (d + 5) 255 [.ref 97, .int a] (mjW0 s) = some (some (.int (lkAt T L H a H.1 1 0)), mjW0 s') ∧ oWl s s' ∧ KNm T L H s' := by
  have b1 := P.2.1.1
  have b2' := P.2.1.2
  obtain ⟨s', a1, a2, a3, a4⟩ := x_252 (d := d) P hW K
  have k : ∀ o, 1 ≤ o → o ≤ H.1 → s'.1 181 o = b2 (lkO T L H o) := by
    rcases a4 with h | h
    · rw [a3] at h; exact absurd h (by decide)
    · exact h.2.1
  have l := lq_255 (a := a) (mjF (d + 4)) (show H.1 ≤ 1334 by omega) (hW.wl a2).2.1 k H.1 1 0 mjN (by omega) (by omega) (by unfold mjN; omega)
  refine ⟨s', ?_, a2, a4⟩
  rw [e_255]
  unfold f_255 b_255_0
  rw [xg_97_96, if_neg h96, if_pos a0, xV_97, a1, bN_s]
  exact l
theorem L256_S (R : mjR) (n x : Nat) (y u : Int32) (hp : mjH) : L_256_56 R (n + 1) x y u hp = b_256_56 R (L_256_56 R n) x y u hp := rfl
theorem lq_256 (R : mjR) (hb : H.1 ≤ 1334) (W : WRr H Q s) (hQ : WOK H Q) {x : Nat} (hx : x ≤ 4000) : ∀ (n k m : Nat) (e : Nat × Nat × Nat × Nat), k < n → n < m → Q[k]? = some e → L_256_56 R m 97 (nI x) (nI k) (mjW0 s) = some (some (.int (nI (upQ Q x n k))), mjW0 s)
  | n, k, 0, e, hk, hm, he => by omega
  | 0, k, m + 1, e, hk, hm, he => by omega
  | n + 1, k, m + 1, e, hk, hm, he => by
    have ln := hQ.len
    have kl := (List.getElem?_eq_some_iff.mp he).1
    have ds := hQ.dist k k e (Nat.le_refl _) he
    obtain ⟨w1, w2, w3⟩ := W.2.1 k e he
    have st : upQ Q x (n + 1) k = if e.2.2.2 ≤ x then e.1 else upQ Q x n e.2.2.1 := by
      show (match Q[k]? with
        | none => 0
        | some e => if e.2.2.2 ≤ x then e.1 else upQ Q x n e.2.2.1) = _
      rw [he]
    rw [L256_S, st]
    unfold b_256_56
    rw [xg_97_123, wa_180 (by omega), w3]
    by_cases g : e.2.2.2 ≤ x
    · rw [if_pos (nI_le g (by omega)), if_pos g, xg_97_121, wa_178 (by omega), w1]
    · rw [if_neg (nI_ge (by omega) (by omega)), if_neg g, xg_97_122, wa_179 (by omega), w2]
      rcases hQ.2.2 k e he with ⟨_, h⟩ | ⟨h0, h1, p, p1, p2, p3⟩
      · omega
      · rw [if_neg (show ¬ e.2.1 = 0 by omega)]
        exact lq_256 R hb W hQ hx n e.2.2.1 m p (by omega) (by omega) p1
theorem x_256 (P : HWp T L b H) (hW : HWr T L b H s) (K : KNm T L H s) (ho1 : 1 ≤ o) (ho2 : o ≤ H.1) (h246 : ∀ d, mjF (d + 1) 246 [.ref 97, .int (nI o)] (mjW0 s) = some (some (.int 1), mjW0 s)) : ∃ s' v, mjF (d + 5) 256 [.ref 97, .int (nI o), .int a] (mjW0 s) = some (some (.int v), mjW0 s') ∧ oWl s s' ∧ KNm T L H s' ∧ ((v = -1 ∧ (¬ 0 ≤ a ∨ lkO T L H o = false)) ∨ (0 ≤ a ∧ lkO T L H o = true ∧ ∃ (k : Nat) (e : Nat × Nat × Nat × Nat), (walkR T L H ((H.2 o).2.1 0))[k]? = some e ∧ e.1 = o ∧ ((v = -1 ∧ ¬ a ≤ nI e.2.2.2) ∨ ∃ x, a = nI x ∧ x ≤ e.2.2.2 ∧ v = nI (upQ (walkR T L H ((H.2 o).2.1 0)) x (k + 1) k)))) := by
  have b1 := P.2.1.1
  have b2' := P.2.1.2
  have ol := (P.1 o ho1 ho2).2.1 0
  by_cases a0 : 0 ≤ a
  · obtain ⟨s1, a1, a2, a3, a4⟩ := x_252 (d := d) P hW K
    have k1 : s1.1 181 o = b2 (lkO T L H o) := by
      rcases a4 with h | h
      · rw [a3] at h; exact absurd h (by decide)
      · exact h.2.1 o ho1 ho2
    have pre : mjF (d + 5) 256 [.ref 97, .int (nI o), .int a] (mjW0 s) = f_256 (mjF (d + 4)) 97 (nI o) a (mjW0 s) := e_256
    unfold f_256 b_256_0 b_256_12 at pre
    rw [xV_97, h246 (d + 3), bI_s, if_neg (show ¬ ((1 : Int32) = 0) by decide), if_pos a0, xV_97, a1, bN_s, xg_97_125, wa_181 (by omega), k1] at pre
    cases hl : lkO T L H o with
    | false =>
      rw [hl, if_pos (show b2 false = 0 from rfl)] at pre
      exact ⟨s1, -1, pre, a2, a4, Or.inl ⟨rfl, Or.inr rfl⟩⟩
    | true =>
      have hW1 := hW.wl a2
      obtain ⟨s2, c1, c2, c3, c4⟩ := x_254 (d := d + 1) (sh := (H.2 o).2.1 0) P (by omega) hW1
      obtain ⟨v, f1, f2⟩ := x_250 (d := d + 3) (by omega) c3 c4 ho2
      rw [hl, if_neg (show ¬ b2 true = 0 by decide), xV_97, x_253 hW1.1 P.2.1 (P.n1 ho1 ho2) ho1 ho2, bI_s, xV_97, c1, bN_s, xV_97, f1, bI_s] at pre
      obtain ⟨q1, q2, q3⟩ := oWr_181 c2
      have K2 : KNm T L H s2 := a4.gen ⟨q3 126 (by decide), q3 127 (by decide)⟩ q1
      have lw : inW (walkR T L H ((H.2 o).2.1 0)) o := by
        unfold lkO at hl
        rw [Bool.and_eq_true] at hl
        exact inWb_iff.mp hl.2
      rcases f2 with ⟨_, f4⟩ | ⟨k, e, f3, f4, f5⟩
      · exact absurd lw f4
      · have ln := c4.len
        have kl := (List.getElem?_eq_some_iff.mp f3).1
        have ds := c4.dist k k e (Nat.le_refl _) f3
        rw [f5, xg_97_123, wa_180 (by omega), (c3.2.1 k e f3).2.2] at pre
        by_cases g : a ≤ nI e.2.2.2
        · obtain ⟨x, x31, ex⟩ := nI_of (x := a) (fun y => Int32.not_le.mpr y a0)
          have xl : x ≤ e.2.2.2 := by
            rw [ex] at g
            exact (nI_leI (by omega) (by omega)).mp g
          have l := lq_256 (mjF (d + 4)) (show H.1 ≤ 1334 by omega) c3 c4 (x := x) (by omega) (k + 1) k mjN e (by omega) (by unfold mjN; omega) f3
          refine ⟨s2, _, ?_, offG.tr a2 c2.l, K2, Or.inr ⟨a0, rfl, k, e, f3, f4, Or.inr ⟨x, ex, xl, rfl⟩⟩⟩
          rw [pre, if_pos g, ex]
          exact l
        · refine ⟨s2, -1, ?_, offG.tr a2 c2.l, K2, Or.inr ⟨a0, rfl, k, e, f3, f4, Or.inl ⟨rfl, g⟩⟩⟩
          rw [pre, if_neg g]
  · refine ⟨s, -1, ?_, offG.rf, K, Or.inl ⟨rfl, Or.inl a0⟩⟩
    rw [e_256]
    unfold f_256 b_256_0 b_256_12
    rw [xV_97, h246 (d + 3), bI_s, if_neg (show ¬ ((1 : Int32) = 0) by decide), if_neg a0]
end MJB92
end
