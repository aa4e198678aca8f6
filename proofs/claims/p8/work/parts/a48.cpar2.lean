/-! ===== the Coder: knowParams ===== -/
section MJA48
variable {T : TT} {d N q c m n i k : Nat} {s s' s0 : mjSt3} {L : List CD} {tr : Bool}
/-- known and told are 0 -/
theorem z_75 (s : mjSt3) : ∃ s', (∀ k : mjH → mjU, pI (mjW0 s) 75 1 11 0 (fun hp1 => pI hp1 75 1 12 0 k) = k (mjW0 s')) ∧ VSr T N L [] 0 s' ∧ oSt q s s' ∧ (∀ h, ¬ h = 75 → s'.1 h = s.1 h) ∧ s'.2 = s.2 := by
  obtain ⟨z1, h1⟩ : ∃ z, z = uI s 75 (upd (s.1 75) 11 0) := ⟨_, rfl⟩
  obtain ⟨z2, h2⟩ : ∃ z, z = uI z1 75 (upd (z1.1 75) 12 0) := ⟨_, rfl⟩
  refine ⟨z2, fun k => ?_, ⟨?_, ?_, Nat.le_refl _, by omega, fun i e he => by cases he⟩, ?_, fun h hh => ?_, by rw [h2, h1]; rfl⟩
  · rw [xp_75_11, ← h1, xp_75_12, ← h2]
  · rw [h2, uI_same, upd_g, if_neg (by decide), h1, uI_same, upd_g, if_pos rfl]; rfl
  · rw [h2, uI_same, upd_g, if_pos rfl]; rfl
  · have o1 : oSt q s z1 := by rw [h1]; exact offG.w (Or.inr (Or.inl ⟨rfl, by omega, by omega⟩))
    have o2 : oSt q z1 z2 := by rw [h2]; exact offG.w (Or.inr (Or.inl ⟨rfl, by omega, by omega⟩))
    exact o1.tr o2
  · rw [h2, uI_ne _ _ _ _ hh, h1, uI_ne _ _ _ _ hh]
theorem x_5 (hm : m < nMem L) (C : CB T N q L tr s) (f : fne s c) (hc : c ≤ N) : ∃ s', mjF (d + 3) 5 [.ref 75, .int (nI m)] (mjW0 s) = some (none, mjW0 s') ∧ VSr T N L (pvs T L m (psM L m).length) (psM L m).length s' ∧ oSt q s s' ∧ fne s' (posP L m (psM L m).length) ∧ posP L m (psM L m).length ≤ N ∧ (∀ h, ¬ h = 58 → ¬ h = 75 → ¬ h = 77 → ¬ h = 78 → s'.1 h = s.1 h) := by
  have d3 := C.2.1.2.2.1
  have P := C.2.2.2.1 m hm
  have l6 : (psM L m).length ≤ 6 := P.2.2.2.2.1
  obtain ⟨s1, a1, a2, a3, a4, a5⟩ := z_75 (T := T) (N := N) (L := L) (q := q) s
  have C1 := C.oC a3.C
  have f1 : fne s1 c := ⟨by rw [a4 58 (by decide)]; exact f.1, by rw [a4 58 (by decide)]; exact f.2⟩
  have xg : o58 s1 (tkGo s1 ((mdM L m).2.1 + 2)) := o58.go _ _
  obtain ⟨s2, b1, b2', b3, b4, b5, b6⟩ := lq_5 (d := d) (tr := tr) (q := q) hm (psM L m).length 0 mjN (tkGo s1 ((mdM L m).2.1 + 2)) (by omega) (by have := mjN_v; omega) (C1.oC xg.C) (a2.oE C.pq xg.oe) (f1.go _) P.2.2.2.1
  refine ⟨s2, ?_, b2', a3.tr (xg.S.tr b3), b4, b5, fun h h1 h2 h3 h4 => by rw [b6 h h1 h2 h3 h4, xg.r h1, a4 h h2]⟩
  rw [e_5]
  unfold f_5 b_5_0
  rw [a1, xg_75_0, xg_75_1, xg_64_7, wa_69 (by omega), (C1.2.1.2.2.2.2 m hm).2.2.2.1, xV_58, show (2 : Int32) = nI 2 from rfl, nI_ad, j_go C1.1.1.1 f1 hc P.2.2.2.1, bN_s, show (0 : Int32) = nI 0 from rfl, b1]
/-- main has no PARAMS -/
theorem x_5m (C : CB T N q L tr s) (f : fne s c) (hc : c ≤ N) (h2 : 2 ≤ N) (h69 : s.1 69 384 = 0) (h20 : s.1 (q + 20) 384 = 0) : ∃ s', mjF (d + 3) 5 [.ref 75, .int (nI 384)] (mjW0 s) = some (none, mjW0 s') ∧ VSr T N L [] 0 s' ∧ oSt q s s' ∧ fne s' 2 ∧ (∀ h, ¬ h = 58 → ¬ h = 75 → s'.1 h = s.1 h) := by
  have hq' : q = 2 ∨ q = 30 := C.pq
  obtain ⟨s1, a1, a2, a3, a4, a5⟩ := z_75 (T := T) (N := N) (L := L) (q := q) s
  have C1 := C.oC a3.C
  have f1 : fne s1 c := ⟨by rw [a4 58 (by decide)]; exact f.1, by rw [a4 58 (by decide)]; exact f.2⟩
  have xg : o58 s1 (tkGo s1 (0 + 2)) := o58.go _ _
  have C2 := C1.oC xg.C
  refine ⟨tkGo s1 (0 + 2), ?_, a2.oE C.pq xg.oe, a3.tr xg.S, f1.go _, fun h h1 h2 => by rw [xg.r h1, a4 h h2]⟩
  have e20 : (tkGo s1 (0 + 2)).1 (q + 20) 384 = 0 := by rw [xg.r (by omega), a4 _ (by omega)]; exact h20
  rw [e_5]
  unfold f_5 b_5_0
  rw [a1, xg_75_0, xg_75_1, xg_64_7, wa_69 (by omega), a4 69 (by decide), h69, xV_58, show (0 : Int32) + 2 = nI (0 + 2) from rfl, j_go C1.1.1.1 f1 hc (show 0 + 2 ≤ N by omega), bN_s, show mjN = 99999999 + 1 from rfl, L5_S]
  unfold b_5_30
  rw [xg_75_4, C2.2.2.2.2.2.2.1, ymg_6 C.pq, wya_20 C.pq (by omega), e20, if_pos (Int32.le_refl _)]
end MJA48
