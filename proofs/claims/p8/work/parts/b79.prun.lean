/-! ===== run, on both ===== -/
section MJB79
variable {T : TT} {N b kb q wm cm i k0 k kk : Nat} {L : List CD} {t : PT} {rs : List RcM} {z : PB} {tr : Bool} {cs : Nat → Nat} {H : HEAP} {r : Row} {j : JS} {f : FRM} {fs : List FRM} {st : List Int32} {sc : SCL} {A : AMS} {s s' : mjSt3} {a : Int32}
theorem aStep_ph {E : EV} {i0 : Nat} (h : 1 ≤ sc.2.2.2.2.1) : 1 ≤ (aStep T L E j i0 wm cm r (H, f :: fs, kk, st, sc)).2.2.2.2.2.2.2.2.1 :=
  aStep_cs (Pd := fun A => 1 ≤ A.2.2.2.2.2.2.2.2.1) (fun _ _ _ _ => h) (fun _ _ => h) (fun _ _ => (show 1 ≤ 3 by decide)) (fun v st' => by
    cases fs with
    | nil => exact (show 1 ≤ 2 by decide)
    | cons g gs => exact h) (fun _ _ _ _ _ => h)
theorem aOne_ph (h : 1 ≤ A.2.2.2.2.2.2.2.2.1) : 1 ≤ (aOne T t rs z tr k0 wm cm A).2.2.2.2.2.2.2.2.1 := by
  obtain ⟨H, fs, k, st, sc⟩ := A
  cases fs with
  | nil => exact h
  | cons f fs => exact aStep_ph h
theorem aRun_ph : ∀ (n left : Nat) (A B : AMS), 1 ≤ A.2.2.2.2.2.2.2.2.1 → aRun T t rs z tr k0 wm cm n left A = some B → 1 ≤ B.2.2.2.2.2.2.2.2.1
  | 0, left, A, B, h, g => by cases g
  | n + 1, left, A, B, h, g => by
    unfold aRun at g
    by_cases ph : A.2.2.2.2.2.2.2.2.1 = 1
    · rw [if_neg (fun e => e ph)] at g
      by_cases c : costs (aOrd rs z A) = true
      · rw [if_pos c] at g
        by_cases l0 : left = 0
        · rw [if_pos l0] at g
          rw [← Option.some.inj g]
          exact h
        · rw [if_neg l0] at g
          exact aRun_ph n (left - 1) _ B (aOne_ph h) g
      · rw [if_neg c] at g
        exact aRun_ph n left _ B (aOne_ph h) g
    · rw [if_pos ph] at g
      rw [← Option.some.inj g]
      exact h
theorem IBs.keep (h : IBs s) (e0 : s'.1 0 1 = s.1 0 1) (e1 : s'.1 1 = s.1 1) (e97 : s'.1 97 1 = s.1 97 1 ∧ s'.1 97 9 = s.1 97 9) (e98 : s'.1 98 = s.1 98) (l : s'.2.1 59 = s.2.1 59 ∧ s'.2.1 99 = s.2.1 99) (r : s'.2.2 0 = s.2.2 0) (w : isP (s'.2.2 91 1)) : IBs s' := by
  obtain ⟨⟨tp, t1, t2, t3, t4⟩, h2, ⟨h3, h4⟩, h5, h6, h7⟩ := h
  refine ⟨⟨tp, t1, by rw [e0]; exact t2, by rw [e97.1]; exact t3, by rw [e1, e98]; exact t4⟩, by rw [e1]; exact h2, ⟨by rw [l.1]; exact h3, by rw [l.2]; exact h4⟩, by rw [r]; exact h5, by rw [e97.2]; exact h6, w⟩
/-- the state of a RUN is the same on both -/
theorem Inv.ph (h : Inv i s) : s.1 97 96 = s.1 82 8 := by
  rcases h.2 with ⟨_, _, z⟩ | ⟨T, N, b, q, t, rs, kb, z, tr, cs, G, z1 | ⟨wm, cm, A, R⟩⟩
  · rw [z.1.1, z.1.2]
  · rw [z1.1.1, z1.1.2]
  · have e1 := R.2.2.2.1.1.1.1
    have e2 := R.2.2.2.2.1.1.1.1
    rw [e1, e2]
theorem run_cn (h : a < 1 ∨ 2000 < a ∨ ¬ s.1 82 8 = 1) : mjF 1999 211 [.ref 0, .int a] (mjW0 s) = some (some (.int (-1)), mjW0 s) := by
  rw [show (1999 : Nat) = 1998 + 1 from rfl, e_211]
  unfold f_211 b_211_0 b_211_23
  by_cases h1 : a < 1
  · rw [if_pos h1]
  rw [if_neg h1]
  by_cases h2 : 2000 < a
  · rw [if_pos h2]
  rw [if_neg h2]
  have h3 : ¬ s.1 82 8 = 1 := (h.resolve_left h1).resolve_left h2
  rw [xg_0_12, xg_82_8, if_neg h3]
theorem run_rn (h : a < 1 ∨ 2000 < a ∨ ¬ s.1 97 96 = 1) : mjF 1999 229 [.ref 97, .int a] (mjW0 s) = some (some (.int (-1)), mjW0 s) := by
  rw [show (1999 : Nat) = 1998 + 1 from rfl, e_229]
  unfold f_229 b_229_0 b_229_20
  rw [xg_97_96]
  by_cases h0 : s.1 97 96 = 1
  · rw [if_pos h0]
    by_cases h1 : a < 1
    · rw [if_pos h1]
    · have h2 : 2000 < a := (h.resolve_left h1).resolve_right (fun x => x h0)
      rw [if_neg h1, if_neg (show ¬ a ≤ 2000 from Int32.not_le.mpr h2)]
  · rw [if_neg h0]
theorem pair_run (hi : i ≤ 511) (h : Inv i s) (a : Int32) : PairOK (Inv (i + 1)) 211 229 [.int a] s := by
  by_cases hn : a < 1 ∨ 2000 < a ∨ ¬ s.1 82 8 = 1
  · exact ⟨-1, s, s, run_cn hn, run_rn (by rw [h.ph]; exact hn), h.mono (by omega)⟩
  have a1 : ¬ a < 1 := fun x => hn (Or.inl x)
  have a2 : ¬ 2000 < a := fun x => hn (Or.inr (Or.inl x))
  have a3 : s.1 82 8 = 1 := Classical.byContradiction (fun x => hn (Or.inr (Or.inr x)))
  obtain ⟨hB, hP⟩ := h
  rcases hP with ⟨_, _, zz⟩ | ⟨T, N, b, q, t, rs, kb, z, tr, cs, G, hR⟩
  · rw [zz.1.2] at a3; exact absurd a3 (by decide)
  rcases hR with zz | ⟨wm, cm, A, R⟩
  · rw [zz.1.2] at a3; exact absurd a3 (by decide)
  obtain ⟨n, n1, en⟩ := nI_of2 (x := a) (M := 2000) (n := 2000) rfl (fun x => a1 (Int32.lt_trans x (by decide))) (Int32.not_lt.mp a2)
  have hq := G.isq
  obtain ⟨⟨g1, g2, g3, g4, g5⟩, ⟨P, Y, h384, hHB⟩, hJ, hPG, hC, hV⟩ := id G
  obtain ⟨⟨wm4, cm4⟩, ⟨p1, p3, m41, sle⟩, ⟨hA, hY⟩, M, Mr, ⟨r1, r2, r3⟩, K1, K2⟩ := R
  have ph : A.2.2.2.2.2.2.2.2.1 = 1 := (nI_ph p3).mp (M.1.1.1.symm.trans a3)
  have I : CIn T (800 * b) q t rs z tr cs wm cm A s := ⟨M, ⟨hPG, r1, r2⟩, hC, hA, m41⟩
  have hl : A.2.1.length ≤ 40 := Nat.le_trans hA.2.2.1 cm4
  have cw := cw_le (rs := rs) (z := z) A
  obtain ⟨B, hB'⟩ := aRun_some (cm := cm) P wm4 20300000 n A hA (by omega)
  obtain ⟨kA, kY, kS⟩ := aRun_keep P Y wm4 _ _ _ _ hA hY hB'
  have kp := aRun_ph _ _ _ _ p1 hB'
  obtain ⟨s1, c1, c2, c3, c4⟩ := x_75 (d := 1990) P Y wm4 cm4 h384 n1 p3 hY (by omega) I hB'
  obtain ⟨s2, e2⟩ : ∃ y, y = uI s1 91 (upd (s1.1 91) 5 0) := ⟨_, rfl⟩
  obtain ⟨s3, e3⟩ : ∃ y, y = uI s2 97 (upd (s2.1 97) 126 0) := ⟨_, rfl⟩
  have f1 : ∀ h, ¬ (79 ≤ h ∧ h ≤ 90) → s1.1 h = s.1 h := fun h e => funext fun j => c2.1 h j (fun x => e x)
  have f2 : ∀ h, ¬ (79 ≤ h ∧ h ≤ 91) → s2.1 h = s.1 h := fun h e => by rw [e2, uI_ne _ _ _ _ (by omega), f1 h (by omega)]
  have l2 : s2.2 = s.2 := by
    rw [e2]
    exact Prod.ext (funext fun h => funext fun j => c2.2.1 h j (fun x => x)) c2.2.2
  have Mr2 : MRn T t b wm cm A s2 := Mr.lo (fun h hh => f2 h (by omega))
  have f3 : ∀ h, ¬ h = 97 → s3.1 h = s2.1 h := fun h e => by rw [e3, uI_ne _ _ _ _ e]
  have v3 : ∀ j, s3.1 97 j = if j = 126 then 0 else s2.1 97 j := fun j => by rw [e3, uI_same, upd_g]
  have l3 : s3.2 = s.2 := by rw [e3]; exact l2
  have Mr3 : MRn T t b wm cm A s3 := Mr2.wk (fun j hj => by rw [v3, if_neg (by omega)]) (fun h hh => f3 h (by omega))
  have J2 : JKP T N b t rs z tr s2 := hJ.lo (fun h hh => f2 h (by omega)) (fun h _ => by rw [l2])
  have J3 : JKP T N b t rs z tr s3 := J2.keep (fun h j x => by rw [f3 h (by have := inB_97 x; omega)]) (fun h j _ => by rw [l3, l2])
  have RI : RIn T N b t rs z tr wm cm A s3 := ⟨Mr3, J3.rpg hHB, by rw [v3, if_neg (by decide), f2 97 (by omega)]; exact g2, hA, m41⟩
  obtain ⟨s4, d1, d2, d3⟩ := lq_229b (d := 1992) P Y g1 wm4 cm4 h384 20300000 mjN n A B s3 (by unfold mjN; omega) n1 hY (by omega) RI hB'
  rw [if_pos ph] at d3
  have f4 : ∀ h, h < 97 → s4.1 h = s2.1 h := fun h e => (funext fun j => d2.1 h j (fun x => by unfold chRn at x; omega)).trans (f3 h (by omega))
  have l4 : s4.2 = s.2 := (Prod.ext (funext fun h => funext fun j => d2.2.1 h j (fun x => x)) d2.2.2).trans l3
  have u4 : ∀ j, j < 95 → s4.1 97 j = s.1 97 j := fun j e => by rw [d2.1 97 j (fun x => by unfold chRn at x; omega), v3, if_neg (by omega), f2 97 (by omega)]
  have p82 : s2.1 82 8 = nI B.2.2.2.2.2.2.2.2.1 := by rw [e2, uI_ne _ _ _ _ (by decide)]; exact c1.1.1.1.1
  refine ⟨nI B.2.2.2.2.2.2.2.2.1, s2, s4, ?_, ?_, ?_, Or.inr ⟨T, N, b, q, t, rs, kb, z, tr, cs, ?_, Or.inr ⟨wm, cm, B, ⟨wm4, cm4⟩, ⟨kp, c4, c1.2.2.2.2, by omega⟩, ⟨kA, kY⟩, ?_, d1.1, ?_, ?_, ?_⟩⟩⟩
  · rw [show (1999 : Nat) = 1998 + 1 from rfl, e_211]
    unfold f_211 b_211_0
    rw [if_neg a1, if_neg a2, xg_0_12, xg_82_8, a3, if_pos rfl, xg_0_12, xV_82, en, c3, bN_s, xg_0_13, xV_91, show (1998 : Nat) = 1997 + 1 from rfl, e_183]
    unfold f_183 b_183_0
    rw [xp_91_5 (by decide), ← e2, bN_s, xg_0_12, xg_82_8, p82]
  · have h96 : s2.1 97 96 = 1 := by rw [f2 97 (by omega), show s.1 97 96 = nI A.2.2.2.2.2.2.2.2.1 from Mr.1.1.1, ph]; rfl
    rw [show (1999 : Nat) = 1998 + 1 from rfl, e_229]
    unfold f_229 b_229_0
    rw [xg_97_96, h96, if_pos rfl, if_neg a1, if_pos (Int32.not_lt.mp a2), xp_97_126 (by decide), ← e3, en]
    exact d3
  · exact hB.keep (by rw [f4 0 (by omega), f2 0 (by omega)]) (by rw [f4 1 (by omega), f2 1 (by omega)]) ⟨u4 1 (by omega), u4 9 (by omega)⟩ (by rw [show s4.1 98 = s3.1 98 from funext fun j => d2.1 98 j (fun x => by unfold chRn at x; omega), f3 98 (by decide), f2 98 (by omega)]) ⟨by rw [l4], by rw [l4]⟩ (by rw [l4]) (by rw [l4]; exact hB.2.2.2.2.2)
  · exact G.keep ⟨u4 9 (by omega), u4 10 (by omega)⟩ ⟨by rw [l4], by rw [f4 0 (by omega), f2 0 (by omega)]⟩ (fun _ => J3.rn d2) (fun h hh => by rw [f4 h (by omega), f2 h (by omega)]) (fun h _ => by rw [l4])
  · exact c1.1.hi (fun h hh => by rw [f4 h (by omega), e2, uI_ne _ _ _ _ (by omega)])
  · rw [l4]; exact ⟨r1, r2, r3⟩
  · exact Or.inl (by rw [f4 91 (by omega), e2, uI_same, upd_g, if_pos rfl])
  · exact Or.inl (by rw [d2.1 97 126 (fun x => by unfold chRn at x; omega), v3, if_pos rfl])
end MJB79
