/-! ===== load, on both ===== -/
section MJB82
variable {N b h kb q wm cm i n tp : Nat} {t : PT} {rs : List RcM} {z : PB} {tr : Bool} {cs : Nat → Nat} {s s' s1 s2 : mjSt3} {a : Int32}
theorem load_cn {v : Int32} (h : a < 0 ∨ ¬ a ≤ s.1 0 1) : mjF 1999 204 [.ref 0, .int a, .int v] (mjW0 s) = some (some (.int (-1)), mjW0 s) := by
  rw [show (1999 : Nat) = 1998 + 1 from rfl, e_204]
  unfold f_204 b_204_0 b_204_12
  by_cases h1 : a < 0
  · rw [if_pos h1]
  · rw [if_neg h1, xg_0_1, if_neg (h.resolve_left h1)]
theorem load_rn {v : Int32} (h : a < 0 ∨ ¬ a ≤ s.1 97 1) : mjF 1999 260 [.ref 97, .int a, .int v] (mjW0 s) = some (some (.int (-1)), mjW0 s) := by
  rw [show (1999 : Nat) = 1998 + 1 from rfl, e_260]
  unfold f_260 b_260_0 b_260_12
  by_cases h1 : a < 0
  · rw [if_pos h1]
  · rw [if_neg h1, xg_97_1, if_neg (h.resolve_left h1)]
/-- a load that both refuse -/
theorem Inv.refused (I : Inv i s) (h97 : s.1 97 9 = nI h) (hh : h ≤ 1) (hsp : s.2.2 0 7 = q) (o1 : oLd q s s1) (t1 : s1.1 0 1 = 0) (o2 : oLm (1 - h) s1 s2) (t2 : s2.1 97 1 = 0) : Inv (i + 1) s2 := by
  obtain ⟨⟨ht, hby, ⟨hw1, hw2⟩, ⟨hp, hq, hpq⟩, h9, hw⟩, hP⟩ := I
  rw [hsp] at hq hpq
  have hq' : q = 2 ∨ q = 30 := hq
  have f1 : ∀ h, h = 1 ∨ 79 ≤ h → s1.1 h = s.1 h := fun h e => funext fun j => o1.1 h j (by omega)
  have l1 : ∀ h, h = 59 ∨ 77 ≤ h → s1.2.1 h = s.2.1 h := fun h e => o1.2.1 h (by omega)
  have r1 : ∀ h, ¬ (h = 64 ∨ h = 71 ∨ h = 75) → s1.2.2 h = s.2.2 h := o1.2.2
  have f2 : ∀ h, h < 97 → s2.1 h = s1.1 h := fun h e => oLm_h o2 (by omega)
  have l2 : ∀ h, h < 101 → ¬ h = 97 → s2.2.1 h = s1.2.1 h := fun h e e' => funext fun j => o2.2.1 h j (fun w => by
    rcases w with ((w | w | w | w) | w | w | w | w | w) | w <;> omega)
  have r2 : s2.2.2 = s1.2.2 := o2.2.2
  have z0 : ∀ j, ¬ (j = 1 ∨ j = 9 ∨ j = 10) → s2.1 0 j = s.1 0 j := fun j e => by rw [f2 0 (by omega)]; exact o1.1 0 j (by omega)
  have u97 : ∀ j, ¬ (j = 1 ∨ j = 2 ∨ j = 3 ∨ j = 4 ∨ j = 5 ∨ j = 6 ∨ (59 ≤ j ∧ j ≤ 67) ∨ j = 71 ∨ j = 76 ∨ j = 77 ∨ j = 82 ∨ j = 87 ∨ j = 88 ∨ j = 92 ∨ j = 95 ∨ j = 129 ∨ j = 132 ∨ j = 133) → s2.1 97 j = s.1 97 j := fun j e => by rw [oLm_97j o2 e, f1 97 (by omega)]
  have m79 : ∀ h, 79 ≤ h → h < 97 → s2.1 h = s.1 h := fun h e e' => by rw [f2 h e', f1 h (by omega)]
  have kz : IZ s → IZ s2 := by
    intro ⟨⟨a1, a2⟩, a3, a4, a5, a6⟩
    refine ⟨⟨by rw [u97 96 (by omega)]; exact a1, by rw [m79 82 (by omega) (by omega)]; exact a2⟩, by rw [m79 82 (by omega) (by omega)]; exact a3, by rw [m79 79 (by omega) (by omega)]; exact a4, by rw [m79 83 (by omega) (by omega)]; exact a5, a6.keep (fun h e => m79 h (by omega) (by omega))⟩
  refine ⟨⟨⟨0, by omega, by rw [f2 0 (by omega)]; exact t1, t2, fun i hi => absurd hi (Nat.not_lt_zero i)⟩, by rw [f2 1 (by omega), f1 1 (by omega)]; exact hby, ⟨by rw [l2 59 (by omega) (by omega), l1 59 (by omega)]; exact hw1, by rw [l2 99 (by omega) (by omega), l1 99 (by omega)]; exact hw2⟩, ⟨by rw [r2, r1 0 (by omega)]; exact hp, by rw [r2, r1 0 (by omega), hsp]; exact hq, by rw [r2, r1 0 (by omega), hsp]; exact hpq⟩, by rw [u97 9 (by omega)]; exact h9, by rw [r2, r1 91 (by omega)]; exact hw⟩, ?_⟩
  rcases hP with ⟨a1, a2, a3⟩ | ⟨T, N, b, p, t, rs, kb, z, tr, cs, G, hR⟩
  · exact Or.inl ⟨by rw [z0 8 (by omega)]; exact a1, by rw [u97 10 (by omega)]; exact a2, kz a3⟩
  · have g9 := G.1.2.1
    have gb := G.1.1
    have ep := G.1.2.2.2.1
    have eb : h = b := (nI_eq (by omega) (by omega)).mp (h97.symm.trans g9)
    have hp2 := G.isq
    rw [ep] at hpq
    have G2 : IPG T N b p t rs kb z tr cs s2 := by
      refine G.keep ⟨u97 9 (by omega), u97 10 (by omega)⟩ ⟨by rw [r2, r1 0 (by omega)], z0 8 (by omega)⟩ (fun J => ?_) (fun x hx => ?_) (fun x hx => ?_)
      · refine J.keep (fun x y w => ?_) (fun x y w => ?_)
        · have lo := inB_97 w
          rw [o2.1 x y (fun c => ?_), f1 x (by omega)]
          rcases c with c | c | c
          · exact dis_Rd (by omega) w c
          · exact dis_JA (by omega) w c
          · omega
        · have e1 : s1.2.1 x = s.2.1 x := l1 x (by unfold inBL at w; omega)
          rw [← e1]
          refine o2.2.1 x y (fun c => ?_)
          rcases w with w | w | w | w | w | w | w | w <;> rcases c with ((c | c | c | c) | c | c | c | c | c) | c <;> omega
      · rw [f2 x (by omega)]
        exact funext fun y => o1.1 x y (by omega)
      · rw [l2 x (by omega) (by omega)]
        exact o1.2.1 x (by omega)
    refine Or.inr ⟨T, N, b, p, t, rs, kb, z, tr, cs, G2, ?_⟩
    rcases hR with a3 | ⟨wm, cm, A, R⟩
    · exact Or.inl (kz a3)
    · obtain ⟨w4, ⟨p1, p2, p3, p4⟩, k1, M, Mr, ⟨x1, x2, x3⟩, K1, K2⟩ := R
      refine Or.inr ⟨wm, cm, A, w4, ⟨p1, p2, p3, by omega⟩, k1, M.hi (fun h e => m79 h (by omega) (by omega)), Mr.gen (fun j e => u97 j (by omega)) (fun h e => by rw [oLm_h o2 (by omega), f1 h (by omega)]), ⟨by rw [r2, r1 82 (by omega)]; exact x1, by rw [r2, r1 82 (by omega)]; exact x2, by rw [r2, r1 91 (by omega)]; exact x3⟩, K1.keep (fun h e => m79 h (by omega) (by omega)), K2.gen ⟨u97 126 (by omega), u97 127 (by omega)⟩ (by rw [oLm_h o2 (by omega), f1 181 (by omega)])⟩
/-- a load that both take -/
theorem Inv.taken (I : Inv i s) (h97 : s.1 97 9 = nI h) (hh : h ≤ 1) (hsp : s.2.2 0 7 = q) {T : TT} (hN : N ≤ 3000) (R : TRc T N (800 * (1 - h)) t rs kb z) (ok : OKz T (800 * (1 - h)) t rs z tr) (l16 : t.1.length ≤ 16) (l24 : ∀ (c : Nat) (E : CD), t.1[c]? = some E → E.2.length ≤ 24) (o1 : oLd q s s1) (t1 : s1.1 0 1 = 0) {s1' : mjSt3} (k1 : TKS s1 s1') (pg : PG T t.1 q s1) (pc : PGc T N (800 * (1 - h)) q t rs z tr s1) (o2 : oLm (1 - h) s1' s2) (t2 : s2.1 97 1 = 0) (hb : HBd T N (1 - h) t rs kb z tr) (jb : JBI T N (1 - h) t rs z tr (fun _ => True) s2) {s2' : mjSt3} (k2 : RSt (1 - h) s2 s2') : Inv (i + 1) s2' := by
  obtain ⟨⟨ht, hby, ⟨hw1, hw2⟩, ⟨hp, hq, hpq⟩, h9, hw⟩, hP⟩ := I
  rw [hsp] at hq hpq
  have hq' : q = 2 ∨ q = 30 := hq
  obtain ⟨⟨c1, c2, c3⟩, c4, c5, c6, c7, ⟨c8, c9⟩, ⟨c10, c11, c12⟩, c13, c14⟩ := k1
  obtain ⟨d1, d2, d3, d4, d5⟩ := k2
  have f1 : ∀ h, h = 1 ∨ 79 ≤ h → s1.1 h = s.1 h := fun h e => funext fun j => o1.1 h j (by omega)
  have l1 : ∀ h, h = 59 ∨ 77 ≤ h → s1.2.1 h = s.2.1 h := fun h e => o1.2.1 h (by omega)
  have r1 : ∀ h, ¬ (h = 64 ∨ h = 71 ∨ h = 75) → s1.2.2 h = s.2.2 h := o1.2.2
  have f2 : ∀ h, h < 97 → s2'.1 h = s1'.1 h := fun h e => (funext fun j => d1.1 h j (by omega)).trans (oLm_h o2 (by omega))
  have l2 : ∀ h, h < 101 → ¬ h = 97 → s2'.2.1 h = s1.2.1 h := fun h e e' => by
    rw [show s2'.2.1 h = s2.2.1 h from funext fun j => d1.2.1 h j (fun x => x), ← c4]
    exact funext fun j => o2.2.1 h j (fun w => by rcases w with ((w | w | w | w) | w | w | w | w | w) | w <;> omega)
  have r2 : s2'.2.2 = s1'.2.2 := d1.2.2.trans o2.2.2
  have m : ∀ h, ¬ (h = 0 ∨ h = 82 ∨ h = 83 ∨ h = 79 ∨ h = 91) → h < 97 → s2'.1 h = s1.1 h := fun h e e' => by
    rw [f2 h e']
    exact funext fun j => c14 h j (by omega)
  have hhm : ∀ m, m < nMem t.1 → hmM t.1 m < t.1.length := fun m hm => (pg.2.2.2.2.2.2.1 m hm).2.1
  obtain ⟨P, Y⟩ := PRX_of R hN hb ok hhm
  have e01 : s2'.1 0 1 = 0 := by rw [f2 0 (by omega), c14 0 1 (by omega)]; exact t1
  refine ⟨⟨⟨0, by omega, e01, by rw [d1.1 97 1 (by omega)]; exact t2, fun i hi => absurd hi (Nat.not_lt_zero i)⟩, by rw [m 1 (by omega) (by omega), f1 1 (by omega)]; exact hby, ⟨by rw [l2 59 (by omega) (by omega), l1 59 (by omega)]; exact hw1, by rw [l2 99 (by omega) (by omega), l1 99 (by omega)]; exact hw2⟩, ⟨by rw [r2, c1, r1 0 (by omega), hsp]; exact hq, by rw [r2, c2, r1 0 (by omega)]; exact hp, by rw [r2, c1, c2, r1 0 (by omega), hsp]; exact fun e => hpq e.symm⟩, ⟨1 - h, by omega, d2⟩, by rw [r2, c3 91 1 (by omega), r1 91 (by omega)]; exact hw⟩, Or.inr ⟨T, N, 1 - h, q, t, rs, kb, z, tr, _, ⟨⟨by omega, d2, d3, by rw [r2, c1, r1 0 (by omega), hsp], by rw [f2 0 (by omega)]; exact c5⟩, ⟨P, Y, fld_384 l16 l24, hb⟩, ⟨s2, jb, fun x y w => d1.1 x y (by have := inB_97 w; omega), fun x y _ => d1.2.1 x y (fun x => x)⟩, pg.cg (fun x hx => m x (by omega) (by omega)) (fun x hx => l2 x (by omega) (by omega)), (CPC_of pc hN).cg (fun x hx => m x (by omega) (by omega)), fun k hk im => ?_, R, hN⟩, Or.inl ⟨⟨d4, ?_⟩, ?_, ?_, ?_, Or.inl ?_⟩⟩⟩
  · rw [m (q + 22) (by omega) (by omega)]
    exact pc.1 k hk im
  · rw [f2 82 (by omega)]; exact c6 8 (by omega)
  · rw [f2 82 (by omega)]
    exact ⟨c6 9 (by omega), c6 10 (by omega), c7, c6 12 (by omega), c6 13 (by omega)⟩
  · rw [f2 79 (by omega)]
    exact ⟨c10, c11⟩
  · rw [f2 83 (by omega)]
    exact ⟨c8, c9⟩
  · rw [f2 91 (by omega)]
    exact c13
theorem pair_load (I : Inv i s) (a v : Int32) (hv : v = 0 ∨ v = 1) : PairGo (Inv (i + 1)) 204 260 [.int a, .int v] s := by
  obtain ⟨tp, t1, t2, t3, t4⟩ := I.1.1
  have hby := I.1.2.1
  obtain ⟨hw1, hw2⟩ := I.1.2.2.1
  obtain ⟨hp, hq, hpq⟩ := I.1.2.2.2.1
  obtain ⟨h, hh, h97⟩ := I.1.2.2.2.2.1
  by_cases hn : a < 0 ∨ ¬ a ≤ s.1 0 1
  · exact ⟨-1, -1, s, s, load_cn hn, load_rn (by rw [t3, ← t2]; exact hn), I.mono (by omega)⟩
  have a0 : ¬ a < 0 := fun x => hn (Or.inl x)
  have a1 : a ≤ s.1 0 1 := Classical.byContradiction (fun x => hn (Or.inr x))
  obtain ⟨n, n31, en⟩ := nI_of a0
  rw [t2, en] at a1
  have ntp : n ≤ tp := (nI_leI (by omega) (by omega)).mp a1
  obtain ⟨tr, etr⟩ : ∃ tr : Bool, v = b2 tr := by
    rcases hv with e | e
    · exact ⟨false, e⟩
    · exact ⟨true, e⟩
  rw [en, etr]
  obtain ⟨q, eq⟩ : ∃ q, s.2.2 0 7 = q := ⟨_, rfl⟩
  rw [eq] at hq
  have hq' : q = 2 ∨ q = 30 := hq
  obtain ⟨N, N1, N2, X⟩ := x_204 (tr := tr) (k0 := 800 * (1 - h)) t2 t1 ntp hby hw1 eq hq (by omega)
  have hb98 : ∀ i, i < n → byR (s.1 98 i) := fun i hi => by rw [← t4 i (by omega)]; exact hby i (by omega)
  have eT : mTT (s.1 98) n = mTT (s.1 1) n := mTT_cg (fun i hi => (t4 i (by omega)).symm) hb98
  have ref : ∀ x : mjSt3, (∀ h, 97 ≤ h → x.1 h = s.1 h) → x.2.1 99 = s.2.1 99 → _ := fun x e1 e2 => x_260 (s := x) (h := h) (n := n) (N := N) (tp := tp) (tr := tr) (by rw [e1 97 (by omega)]; exact t3) t1 ntp (by rw [e1 98 (by omega)]; exact hb98) (by rw [e2]; exact hw2) (by rw [e1 97 (by omega)]; exact h97) hh (by omega) (by rw [e1 98 (by omega), eT]; exact N2)
  have lo : ∀ x, oLd q s x → (∀ h, 97 ≤ h → x.1 h = s.1 h) ∧ x.2.1 99 = s.2.1 99 := fun x o => ⟨fun h e => funext fun j => o.1 h j (by omega), o.2.1 99 (by omega)⟩
  cases hP : pText (mTT (s.1 1) n) (N + 1) (800 * (1 - h)) with
  | inl e =>
    rw [hP] at X
    obtain ⟨v1, s1, _, x1, x2, x3⟩ := X
    have Z := ref s1 (lo s1 x2).1 (lo s1 x2).2
    rw [(lo s1 x2).1 98 (by omega), eT, hP] at Z
    obtain ⟨v2, s2, _, z1, z2, z3⟩ := Z
    exact ⟨v1, v2, s1, s2, x1, z1, I.refused h97 hh eq x2 x3 z2 z3⟩
  | inr t =>
    rw [hP] at X
    obtain ⟨rs, kb, z, Rc, Rx⟩ := TRc_of (by omega) N2 (by omega) hP
    obtain ⟨l16, l24, X1, X2⟩ := X rs kb z Rc
    by_cases ok : OKz (mTT (s.1 1) n) (800 * (1 - h)) t rs z tr
    · obtain ⟨s1, s1', x1, x2, x3, x4, x5, x6⟩ := X1 ok
      have e1 : ∀ h, 97 ≤ h → s1'.1 h = s.1 h := fun h e => by
        rw [← (lo s1 x2).1 h e]
        exact funext fun j => x4.2.2.2.2.2.2.2.2 h j (by omega)
      have e2 : s1'.2.1 99 = s.2.1 99 := by rw [x4.2.1]; exact (lo s1 x2).2
      have Z := ref s1' e1 e2
      rw [e1 98 (by omega), eT, hP] at Z
      obtain ⟨s2, s2', z1, z2, z3, z4, z5, z6⟩ := (Z rs kb z Rc Rx).1 ok
      exact ⟨0, 0, s1', s2', x1, z1, I.taken h97 hh eq (by omega) Rc ok l16 l24 x2 x3 x4 x5 x6 z2 z3 z4 z5 z6⟩
    · obtain ⟨v1, s1, _, x1, x2, x3⟩ := X2 ok
      have Z := ref s1 (lo s1 x2).1 (lo s1 x2).2
      rw [(lo s1 x2).1 98 (by omega), eT, hP] at Z
      obtain ⟨v2, s2, _, z1, z2, z3⟩ := (Z rs kb z Rc Rx).2 ok
      exact ⟨v1, v2, s1, s2, x1, z1, I.refused h97 hh eq x2 x3 z2 z3⟩
end MJB82
