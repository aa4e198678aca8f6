/-! ===== the reference's judgeBody ===== -/
def oBy (b i en lo hi : Nat) : mjSt3 → mjSt3 → Prop := offG (fun h j => (h = 97 ∧ (j = 61 ∨ j = 62 ∨ j = 82 ∨ j = 87 ∨ j = 88 ∨ j = 92 ∨ j = 95 ∨ j = 132 ∨ j = 133)) ∨ (h = 145 ∧ 5000 * b + i ≤ j ∧ j < 5000 * b + en) ∨ (155 ≤ h ∧ h ≤ 157) ∨ (159 ≤ h ∧ h ≤ 163) ∨ h = 165 ∨ h = 166 ∨ (h = 139 ∧ lo ≤ j ∧ j < hi) ∨ (h = 142 ∧ lo ≤ j / 5 ∧ j / 5 < hi)) (fun h _ => h = 158)
/-- what putting PARAMS among the VARIABLES changes -/
def oPa : mjSt3 → mjSt3 → Prop := offG (fun h j => (h = 97 ∧ j = 87) ∨ (159 ≤ h ∧ h ≤ 161)) (fun h _ => h = 158)
section MJB10
variable {T : TT} {d N b kq en lo hi m : Nat} {ks zk : List Nat} {L : List CD} {s s' : mjSt3} {tr : Bool}
theorem oPa.V2 {k : Nat} (o : oPa s s') : oV k s s' := offG.mono o (fun h j z => by
  rcases z with z | z
  · exact Or.inl ⟨z.1, Or.inr (Or.inr (Or.inr (Or.inl z.2)))⟩
  · exact Or.inr (Or.inr (Or.inr (Or.inl ⟨z.1, by omega⟩)))) (fun _ _ x => x)
theorem oJw.By {i : Nat} (o : oJw b i en lo hi s s') : oBy b i en lo hi s s' := offG.mono o (fun h j z => by
  rcases z with z | z
  · refine Or.inl ⟨z.1, ?_⟩
    rcases z.2 with z | z | z | z | z | z | z
    · exact Or.inl z
    · exact Or.inr (Or.inl z)
    · exact Or.inr (Or.inr (Or.inl z))
    · exact Or.inr (Or.inr (Or.inr (Or.inl z)))
    · exact Or.inr (Or.inr (Or.inr (Or.inr (Or.inl z))))
    · exact Or.inr (Or.inr (Or.inr (Or.inr (Or.inr (Or.inl z)))))
    · exact Or.inr (Or.inr (Or.inr (Or.inr (Or.inr (Or.inr (Or.inl z))))))
  · exact Or.inr z) (fun _ _ x => x)
theorem oPa.By {i : Nat} (o : oPa s s') : oBy b i en lo hi s s' := offG.mono o (fun h j z => by
  rcases z with z | z
  · exact Or.inl ⟨z.1, Or.inr (Or.inr (Or.inr (Or.inl z.2)))⟩
  · exact Or.inr (Or.inr (Or.inr (Or.inl ⟨z.1, by omega⟩)))) (fun _ _ x => x)
theorem pvs_mem : ∀ (n : Nat) (e : VE), e ∈ pvs T L m n → ∃ i, i < n ∧ e = (kyT T (pnT L m i), pyT T L m i, i, 0)
  | 0, e, h => by cases h
  | n + 1, e, h => by
    rcases List.mem_append.mp h with h | h
    · obtain ⟨i, h1, h2⟩ := pvs_mem n e h
      exact ⟨i, by omega, h2⟩
    · exact ⟨n, by omega, by simpa using h⟩
theorem pvs_in : ∀ (n i : Nat), i < n → (kyT T (pnT L m i), pyT T L m i, i, 0) ∈ pvs T L m n
  | 0, i, h => by omega
  | n + 1, i, h => by
    by_cases e : i = n
    · rw [e]
      exact List.mem_append_right _ (List.mem_singleton.mpr rfl)
    · exact List.mem_append_left _ (pvs_in n i (by omega))
theorem pvs_pw : ∀ (n : Nat), (pvs T L m n).Pairwise (fun a c => a.2.2.1 < c.2.2.1)
  | 0 => List.Pairwise.nil
  | n + 1 => by
    show (pvs T L m n ++ [(kyT T (pnT L m n), pyT T L m n, n, 0)]).Pairwise _
    rw [List.pairwise_append]
    refine ⟨pvs_pw n, List.pairwise_singleton _ _, fun f hf f' hf' => ?_⟩
    obtain ⟨i, h1, h2⟩ := pvs_mem n f hf
    have ef : f' = (kyT T (pnT L m n), pyT T L m n, n, 0) := by simpa using hf'
    rw [ef, h2]
    exact h1
theorem L322p_S (R : mjR) (n a : Nat) (b e : Int32) (hp : mjH) : L_322_51 R (n + 1) a b e hp = b_322_51 R (L_322_51 R n) a b e hp := rfl
theorem lq_322p (R : mjR) (hm : m < nMem L) : ∀ (r k n : Nat) (s : mjSt3), k + r = (psM L m).length → r < n → RJ T N b ks L s → s.1 97 87 = nI k → (∀ v, v < k → s.2.1 158 v = kyT T (pnT L m v) ∧ s.1 159 v = s.1 133 (6 * (400 * b + m) + v) ∧ s.1 160 v = 0 ∧ s.1 161 v = 1) → ∃ s', L_322_51 R n 97 (nI (400 * b + m)) (nI k) (mjW0 s) = b_322_125 R 97 (nI (400 * b + m)) (mjW0 s') ∧ oPa s s' ∧ s'.1 97 87 = nI (psM L m).length ∧ ∀ v, v < (psM L m).length → s'.2.1 158 v = kyT T (pnT L m v) ∧ s'.1 159 v = s'.1 133 (6 * (400 * b + m) + v) ∧ s'.1 160 v = 0 ∧ s'.1 161 v = 1
  | r, k, 0, s, e, hr, J, h7, w => by omega
  | 0, k, n + 1, s, e, hr, J, h7, w => by
    have p6 := J.p6 hm
    have hb := J.b1
    have m384 := J.n384
    have ek : k = (psM L m).length := by omega
    refine ⟨s, ?_, offG.rf, by rw [h7, ek], fun v hv => w v (by omega)⟩
    rw [L322p_S]
    unfold b_322_51
    rw [xg_97_39, wa_128 (by omega), p6.1, if_pos (nI_le (by omega) (by omega))]
  | r + 1, k, n + 1, s, e, hr, J, h7, w => by
    have p6 := J.p6 hm
    have hb := J.b1
    have m384 := J.n384
    have hk : k < (psM L m).length := by omega
    obtain ⟨z1, g1⟩ : ∃ y, y = uL s 158 (vp_updL (s.2.1 158) k (kyT T (pnT L m k))) := ⟨_, rfl⟩
    obtain ⟨z2, g2⟩ : ∃ y, y = uI z1 159 (upd (z1.1 159) k (s.1 133 (6 * (400 * b + m) + k))) := ⟨_, rfl⟩
    obtain ⟨z3, g3⟩ : ∃ y, y = uI z2 160 (upd (z2.1 160) k 0) := ⟨_, rfl⟩
    obtain ⟨z4, g4⟩ : ∃ y, y = uI z3 161 (upd (z3.1 161) k (vp_nar .boolean 1)) := ⟨_, rfl⟩
    obtain ⟨z5, g5⟩ : ∃ y, y = uI z4 97 (upd (z4.1 97) 87 (nI (k + 1))) := ⟨_, rfl⟩
    have r1 : z1.1 = s.1 := by rw [g1]; rfl
    have r2 : ∀ h, ¬ h = 159 → z2.1 h = z1.1 h := fun h e => by rw [g2]; exact uI_ne _ _ _ _ e
    have r3 : ∀ h, ¬ h = 160 → z3.1 h = z2.1 h := fun h e => by rw [g3]; exact uI_ne _ _ _ _ e
    have r4 : ∀ h, ¬ h = 161 → z4.1 h = z3.1 h := fun h e => by rw [g4]; exact uI_ne _ _ _ _ e
    have r5 : ∀ h, ¬ h = 97 → z5.1 h = z4.1 h := fun h e => by rw [g5]; exact uI_ne _ _ _ _ e
    have l5 : z5.2 = z1.2 := by rw [g5, g4, g3, g2]; rfl
    have f97 : z4.1 97 = s.1 97 := by rw [r4 97 (by decide), r3 97 (by decide), r2 97 (by decide), r1]
    have o5 : oPa s z5 := by
      refine offG.tr (b := z1) (by rw [g1]; exact offG.wl rfl) (offG.tr (b := z2) (by rw [g2]; exact offG.w (Or.inr ⟨by omega, by omega⟩)) (offG.tr (b := z3) (by rw [g3]; exact offG.w (Or.inr ⟨by omega, by omega⟩)) (offG.tr (b := z4) (by rw [g4]; exact offG.w (Or.inr ⟨by omega, by omega⟩)) (by rw [g5]; exact offG.w (Or.inl ⟨rfl, rfl⟩)))))
    have J5 : RJ T N b ks L z5 := J.off2 (o5.1 97 63 (by omega)) (fun x hx => funext fun y => o5.1 x y (by omega)) (fun x hx => funext fun y => o5.2.1 x y hx)
    have v58 : ∀ v, z5.2.1 158 v = if v = k then kyT T (pnT L m k) else s.2.1 158 v := fun v => by
      rw [l5, g1]
      show (if (158 : Nat) = 158 then vp_updL (s.2.1 158) k (kyT T (pnT L m k)) else s.2.1 158) v = _
      rw [if_pos rfl]
      rfl
    have v59 : ∀ v, z5.1 159 v = if v = k then s.1 133 (6 * (400 * b + m) + k) else s.1 159 v := fun v => by rw [r5 159 (by decide), r4 159 (by decide), r3 159 (by decide), g2, uI_same, upd_g, r1]
    have v60 : ∀ v, z5.1 160 v = if v = k then 0 else s.1 160 v := fun v => by rw [r5 160 (by decide), r4 160 (by decide), g3, uI_same, upd_g, r2 160 (by decide), r1]
    have v61 : ∀ v, z5.1 161 v = if v = k then 1 else s.1 161 v := fun v => by
      rw [r5 161 (by decide), g4, uI_same, upd_g, r3 161 (by decide), r2 161 (by decide), r1]
      rfl
    have v33 : z5.1 133 = s.1 133 := funext fun y => o5.1 133 y (by omega)
    obtain ⟨s', b1, b2', b3, b4⟩ := lq_322p R hm r (k + 1) n z5 (by omega) (by omega) J5 (by rw [g5, uI_same, upd_g, if_pos rfl]) (fun v hv => by
      rw [v58, v59, v60, v61, v33]
      by_cases e' : v = k
      · rw [if_pos e', if_pos e', if_pos e', if_pos e', e']
        exact ⟨rfl, rfl, rfl, rfl⟩
      · rw [if_neg e', if_neg e', if_neg e', if_neg e']
        exact w v (by omega))
    refine ⟨s', ?_, offG.tr o5 b2', b3, b4⟩
    rw [← b1, L322p_S]
    unfold b_322_51
    rw [xg_97_39, wa_128 (by omega), p6.1, if_neg (nI_ge hk (by omega)), xg_97_83, xg_97_46, i6m, wa_135 (by omega), J.pn hm hk, ws_158 (by omega), ← g1, xg_97_84, xg_97_44, wa_133 (by omega), r1, ws_159 (by omega), ← g2, xg_97_85, ws_160 (by omega), ← g3, xg_97_86, ws_161 (by omega), ← g4, xg_97_87, f97, h7, nI_1, xp_97_87, ← g5]
/-- VARIABLES when a METHOD begins -/
theorem VB_pars (F : FX T N b ks L tr) (B : BK T N b ks L lo hi kq zk) (S : BS T N b ks L tr s) (hm : m < nMem L) (h87 : s.1 97 87 = nI (psM L m).length) (w : ∀ v, v < (psM L m).length → s.2.1 158 v = kyT T (pnT L m v) ∧ s.1 159 v = s.1 133 (6 * (400 * b + m) + v) ∧ s.1 160 v = 0 ∧ s.1 161 v = 1) (nw : Int64 × Nat) (dp : Nat) : VB L b s (pvs T L m (psM L m).length) (psM L m).length false nw dp kq (kq + zk.length) := by
  have J := S.1.1
  have p6 := (J.p6 hm).2
  have hb := J.b1
  have l750 := J.2.2.2.1
  refine ⟨fun e he => ?_, fun v hv => ?_, pvs_pw _, ?_, ?_, ?_, fun h => by cases h⟩
  · obtain ⟨i, h1, h2⟩ := pvs_mem _ e he
    obtain ⟨w1, w2, w3, w4⟩ := w i h1
    rw [h2]
    exact ⟨h1, w1, by rw [w2]; exact (S.2.1.1 m hm).2 i h1, w3, w4, Nat.zero_le _⟩
  · exact Or.inr ⟨_, pvs_in _ v hv, rfl⟩
  · rw [if_neg (show ¬ false = true by decide), Nat.add_zero]
    intro v hv k h1 h2 e
    obtain ⟨w1, w2, w3, w4⟩ := w v hv
    obtain ⟨p, hp⟩ : ∃ p, (psM L m)[v]? = some p := ⟨_, List.getElem?_eq_getElem hv⟩
    obtain ⟨M1, _⟩ := J.mem hm
    have v133 : s.1 133 (6 * (400 * b + m) + v) = p.2.2 := (M1.2.2.1.2 v p hp).1
    obtain ⟨t, t1, t2, t3, t4, t5, t6, t7, t8⟩ := B.ty F.2.2.2.2 h1 h2
    have tl := (List.getElem?_eq_some_iff.mp t7).1
    have out := (B.2.2.1.1 m hm).2 v p hp
    have ne : ¬ t = p.1 := fun e => out ⟨by omega, by omega⟩
    exact TyI.ne t2 ((F.2.1.1 m hm).2 v p hp).1 l750 hb ne k (by omega) (by rw [← v133, ← w2]; exact e) ⟨rfl, by omega⟩
  · rw [if_neg (show ¬ false = true by decide), Nat.add_zero]; exact h87
  · rw [if_neg (show ¬ false = true by decide), Nat.add_zero]; omega
end MJB10
