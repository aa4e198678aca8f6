/-! ===== the reference's run is the pure one ===== -/
theorem L229_S {d n a : Nat} {l2 l3 : Int32} {hp : mjH} : L_229_31 (mjF d) (n + 1) a l2 l3 hp = b_229_31 (mjF d) (L_229_31 (mjF d) n) a l2 l3 hp := rfl
section MJB53
variable {T : TT} {d N kb b wm cm : Nat} {t : PT} {rs : List RcM} {z : PB} {tr : Bool} {s s' : mjSt3} {A B : AMS}
theorem lq_229 (P : PRX T N (800 * b) t rs kb z tr) (hb : b ≤ 1) (wm4 : wm ≤ 4000) (cm4 : cm ≤ 40) (h384 : ∀ c, fldT T t.1 c ≤ 384) : ∀ (n m left : Nat) (A B : AMS) (s : mjSt3), n + 1 < m → left ≤ 2000 → A.2.2.2.2.2.1 + n < 100000000 → RIn T N b t rs z tr wm cm A s → aRun T t rs z tr (800 * b) wm cm n left A = some B → ∃ s', RIn T N b t rs z tr wm cm B s' ∧ oRn s s' ∧ B.2.2.2.2.2.1 ≤ A.2.2.2.2.2.1 + n ∧ L_229_31 (mjF (d + 6)) m 97 (nI left) (if A.2.2.2.2.2.2.2.2.1 = 1 then 1 else 0) (mjW0 s) = some (some (.int (nI B.2.2.2.2.2.2.2.2.1)), mjW0 s')
  | 0, m, left, A, B, s, hm, hl, hs, I, h => by cases h
  | n + 1, 0, left, A, B, s, hm, hl, hs, I, h => by omega
  | n + 1, m + 1, left, A, B, s, hm, hl, hs, I, h => by
    unfold aRun at h
    by_cases ph : A.2.2.2.2.2.2.2.2.1 = 1
    · rw [if_neg (fun q => q ph)] at h
      rw [if_pos ph]
      obtain ⟨f, fs, e0, _⟩ := I.2.2.2.1.2.2.2.1 ph
      obtain ⟨H, gs, k, st, sc⟩ := A
      have e0' : gs = f :: fs := e0
      subst e0'
      have hs1 : sc.2.1 < 100000000 := by
        have : sc.2.1 + (n + 1) < 100000000 := hs
        omega
      obtain ⟨c1, c2, c3, s1, I1, o1, c4, c5⟩ := one_229 (d := d) P hb wm4 cm4 h384 I ph hs1
      have h9 := I.2.2.1
      have hs2 : (aOne T t rs z tr (800 * b) wm cm (H, f :: fs, k, st, sc)).2.2.2.2.2.1 + n < 100000000 := by
        have : sc.2.1 + (n + 1) < 100000000 := hs
        omega
      have ei : (5000 : Int32) * nI b + nI (i0T t f.1 + k) = nI (5000 * b + (i0T t f.1 + k)) := by rw [show (5000 : Int32) = nI 5000 from rfl, nI_mul, nI_add]
      have pre : L_229_31 (mjF (d + 6)) (m + 1) 97 (nI left) 1 (mjW0 s) = (if costs (aOrd rs z (H, f :: fs, k, st, sc)) = true then (if nI left ≤ 0 then b_229_72 (mjF (d + 6)) (L_229_31 (mjF (d + 6)) m) 97 (nI left) (nI (5000 * b + (i0T t f.1 + k))) 0 (mjW0 s) else b_229_72 (mjF (d + 6)) (L_229_31 (mjF (d + 6)) m) 97 (nI left) (nI (5000 * b + (i0T t f.1 + k))) 1 (mjW0 s)) else b_229_93 (mjF (d + 6)) (L_229_31 (mjF (d + 6)) m) 97 (nI left) (nI (5000 * b + (i0T t f.1 + k))) (mjW0 s)) := by
        rw [L229_S]
        unfold b_229_31
        rw [if_neg (show ¬ ((1 : Int32) = 0) by decide), xg_97_9, xg_97_119, xg_97_54, h9, c1, ei, wa_143 (by omega), c3, x_230, bI_s, b2_i]
      by_cases hc : costs (aOrd rs z (H, f :: fs, k, st, sc)) = true
      · rw [if_pos hc] at h c5
        rw [pre, if_pos hc]
        by_cases hz : left = 0
        · rw [if_pos hz] at h
          have eB := Option.some.inj h
          rw [hz, if_pos (show nI 0 ≤ (0 : Int32) by decide), ← eB]
          unfold b_229_72
          rw [if_pos rfl]
          obtain ⟨m2, em⟩ : ∃ m2, m = m2 + 1 := ⟨m - 1, by omega⟩
          rw [em, L229_S]
          unfold b_229_31
          rw [if_pos rfl, xg_97_96, I.1.1.1.1]
          exact ⟨s, I, offG.rf, Nat.le_add_right _ _, rfl⟩
        · rw [if_neg hz] at h
          rw [if_neg (nI_nle (by omega) (by omega))]
          unfold b_229_72
          have el : nI left + (-1) = nI (left - 1) := by
            have := nI_m (left - 1)
            rw [show left - 1 + 1 = left by omega] at this
            exact this
          rw [if_neg (show ¬ ((1 : Int32) = 0) by decide), xg_97_100, xp_97_100, el, c5]
          obtain ⟨s2, i1, i2, i3, i4⟩ := lq_229 P hb wm4 cm4 h384 n m (left - 1) _ B s1 (by omega) (by omega) hs2 I1 h
          exact ⟨s2, i1, offG.tr o1 i2, by show B.2.2.2.2.2.1 ≤ sc.2.1 + (n + 1); omega, i4⟩
      · rw [if_neg hc] at h c5
        rw [pre, if_neg hc, c5]
        obtain ⟨s2, i1, i2, i3, i4⟩ := lq_229 P hb wm4 cm4 h384 n m left _ B s1 (by omega) hl hs2 I1 h
        exact ⟨s2, i1, offG.tr o1 i2, by show B.2.2.2.2.2.1 ≤ sc.2.1 + (n + 1); omega, i4⟩
    · rw [if_pos ph] at h
      have eB := Option.some.inj h
      rw [if_neg ph, L229_S, ← eB]
      unfold b_229_31
      rw [if_pos rfl, xg_97_96, I.1.1.1.1]
      exact ⟨s, I, offG.rf, Nat.le_add_right _ _, rfl⟩
end MJB53
