/-! ===== the Coder: PARAMS are known ===== -/
def pnT (L : List CD) (m i : Nat) : Nat := match (psM L m)[i]? with
  | some p => p.2.1
  | none => 0
def pvs (T : TT) (L : List CD) (m : Nat) : Nat → List VE
  | 0 => []
  | i + 1 => pvs T L m i ++ [(kyT T (pnT L m i), pyT T L m i, i, 0)]
section MJA47
variable {T : TT} {d N q c m n i k : Nat} {s s' s0 : mjSt3} {L : List CD} {tr : Bool}
theorem pvs_len : (pvs T L m i).length = i := by
  induction i with
  | zero => rfl
  | succ i ih =>
    show (pvs T L m i ++ [(kyT T (pnT L m i), pyT T L m i, i, 0)]).length = i + 1
    rw [List.length_append, List.length_singleton, ih]
theorem nI_ad (a b : Nat) : nI a + nI b = nI (a + b) := (Int32.ofNat_add a b).symm
theorem L5_S (R : mjR) (n a : Nat) (b e : Int32) (hp : mjH) : L_5_30 R (n + 1) a b e hp = b_5_30 R (L_5_30 R n) a b e hp := rfl
theorem lq_5 (hm : m < nMem L) : ∀ (r i n : Nat) (s : mjSt3), i + r = (psM L m).length → r < n → CB T N q L tr s → VSr T N L (pvs T L m i) i s → fne s (posP L m i) → posP L m i ≤ N → ∃ s', L_5_30 (mjF (d + 2)) n 75 (nI m) (nI i) (mjW0 s) = some (none, mjW0 s') ∧ VSr T N L (pvs T L m (psM L m).length) (psM L m).length s' ∧ oSt q s s' ∧ fne s' (posP L m (psM L m).length) ∧ posP L m (psM L m).length ≤ N ∧ (∀ h, ¬ h = 58 → ¬ h = 75 → ¬ h = 77 → ¬ h = 78 → s'.1 h = s.1 h)
  | r, i, 0, s, e, hr, C, V, f, hp => by omega
  | 0, i, n + 1, s, e, hr, C, V, f, hp => by
    have d3 := C.2.1.2.2.1
    have P := C.2.2.2.1 m hm
    have l6 := P.2.2.2.2.1
    have ei : i = (psM L m).length := by omega
    refine ⟨s, ?_, by rw [← ei]; exact V, offG.rf, by rw [← ei]; exact f, by rw [← ei]; exact hp, fun _ _ _ _ _ => rfl⟩
    rw [L5_S]
    unfold b_5_30
    rw [xg_75_4, C.2.2.2.2.2.2.1, ymg_6 C.pq, wya_20 C.pq (by omega), (C.2.1.2.2.2.2 m hm).2.2.2.2.2.2, show (mdM L m).2.2.2.1.length = (psM L m).length from rfl, ei, if_pos (Int32.le_refl _)]
  | r + 1, i, n + 1, s, e, hr, C, V, f, hp => by
    have d3 := C.2.1.2.2.1
    have hq' : q = 2 ∨ q = 30 := C.pq
    have P := C.2.2.2.1 m hm
    have l6 : (psM L m).length ≤ 6 := P.2.2.2.2.1
    have hT := C.1.1.1
    have h0 := hT.2.2.1
    have hN := hT.2.1
    have il : i < (psM L m).length := by omega
    obtain ⟨p, hpp⟩ : ∃ p, (psM L m)[i]? = some p := ⟨_, List.getElem?_eq_getElem il⟩
    obtain ⟨q1, q2, q3, q4, q5⟩ := P.2.2.2.2.2 i p hpp
    have q5 : p.1 = posP L m i := by
      rw [q5]
      cases i with
      | zero => rfl
      | succ i => rfl
    have pn : pnT L m i = p.2.1 := by unfold pnT; rw [hpp]
    have pp : posP L m (i + 1) = p.2.1 + 2 := by
      show (match (psM L m)[i]? with
        | some p' => p'.2.1 + 2
        | none => 0) = _
      rw [hpp]
    have pre : L_5_30 (mjF (d + 2)) (n + 1) 75 (nI m) (nI i) (mjW0 s) = _ := L5_S _ _ _ _ _ _
    unfold b_5_30 at pre
    rw [xg_75_4, C.2.2.2.2.2.2.1, ymg_6 C.pq, wya_20 C.pq (by omega), (C.2.1.2.2.2.2 m hm).2.2.2.2.2.2, show (mdM L m).2.2.2.1.length = (psM L m).length from rfl, if_neg (nI_ge il (by omega)), xg_75_0, xV_58, j_now hT f.1 hp, bI_s, xg_75_0, xV_58, j_is hT f.1 hp, bI_s, i01] at pre
    have step : L_5_30 (mjF (d + 2)) (n + 1) 75 (nI m) (nI i) (mjW0 s) = b_5_83 (mjF (d + 2)) (L_5_30 (mjF (d + 2)) n) 75 (nI m) (nI i) (nI p.2.1) (mjW0 s) := by
      rw [← q5] at pre
      unfold teT at q2
      rcases q1 with ⟨a, b⟩ | ⟨a, b⟩
      · rw [if_pos a, nI_1] at pre
        rw [if_pos a] at q2
        rw [pre, q2]
      · rw [if_neg a, xg_75_2, xV_71, x_61 hT f.1 hp b, bI_s, show (2 : Int32) = nI 2 from rfl, nI_ad, nI_mul, nI_ad] at pre
        rw [if_neg a] at q2
        rw [pre, q2]
    have Y := C.1.2.2.2.2.2.2.2.1 m hm
    have vp := py_v (T := T) (i := i) C.hn (C.2.1.2.2.2.2 m hm).2.1
    obtain ⟨s2, r1, r2, r3, r4⟩ := x_6 (d := d + 1) (c1 := p.2.1) (ty := pyT T L m i) V (by omega) (by omega) q3 vp 0 q
    have C2 := C.oC r3.C
    have f2 : fne s2 (posP L m i) := ⟨by rw [r4 58 (by decide) (by decide) (by decide)]; exact f.1, by rw [r4 58 (by decide) (by decide) (by decide)]; exact f.2⟩
    have xg : o58 s2 (tkGo s2 (p.2.1 + 2)) := o58.go _ _
    unfold b_5_83 at step
    rw [xg_75_0, xV_58, j_key hT f.1 hp (by omega), bL_s, xg_75_4, C.2.2.2.2.2.2.1, ymV C.pq, x_98 C.pq (by omega) (by omega), bI_s, Y.2 i il, xV_75, r1, bN_s, xg_75_0, xV_58, show (2 : Int32) = nI 2 from rfl, nI_ad, j_go C2.1.1.1 f2 hp (by omega), bN_s, nI_1] at step
    have f3 := f2.go (p.2.1 + 2)
    rw [← pp] at f3 xg step
    have e3 : pvs T L m (i + 1) = pvs T L m i ++ [(kyT T p.2.1, pyT T L m i, i, 0)] := by
      show pvs T L m i ++ [(kyT T (pnT L m i), pyT T L m i, i, 0)] = _
      rw [pn]
    have V3 : VSr T N L (pvs T L m (i + 1)) (i + 1) (tkGo s2 (posP L m (i + 1))) := by
      rw [e3]
      exact r2.oE C.pq xg.oe
    obtain ⟨s', a1, a2, a3, a4, a5, a6⟩ := lq_5 hm r (i + 1) n _ (by omega) (by omega) (C2.oC xg.C) V3 f3 (by rw [pp]; exact q4)
    refine ⟨s', step.trans a1, a2, r3.tr (xg.S.tr a3), a4, a5, fun h h1 h2 h3 h4 => ?_⟩
    rw [a6 h h1 h2 h3 h4, xg.r h1, r4 h h2 h3 h4]
end MJA47
