/-! ===== what the judges stand on, out of what was read ===== -/
def otL (d : Row) (l : List Row) (i : Nat) : Row := (l[i]?).getD d
theorem OT_ex (d : Row) (l : List Row) : OT (otL d l) 0 l := by
  intro j r hj
  unfold otL
  rw [Nat.zero_add, hj]
  rfl
/-- the records of a TEXT that was read -/
def TRc (T : TT) (N k0 : Nat) (t : PT) (rs : List RcM) (kb : Nat) (z : PB) : Prop := mmD t.1 = rs.map (fun r => r.1) ∧ (∀ (c : Nat) (E : CD), t.1[c]? = some E → HDk T N E.1) ∧ t.2.2.2.2.1.Pairwise (fun x y => ¬ x.1 = y.1) ∧ 4 * t.2.2.1.length ≤ N ∧ t.2.2.2.1.length ≤ 2 * N + 1 ∧ 1 ≤ t.2.1.1 ∧ t.2.1.1 ≤ N ∧ 4 * kb ≤ 4 * k0 + t.2.1.1 ∧ t.2.2.2.2.2 ≤ 2 * t.2.1.1 ∧ k0 ≤ kb ∧ ∀ kt ot ag, KT kt k0 t.2.2.1 → OT ot 0 t.2.2.2.1 → AGf ag t.2.2.2.2.1 → CHm T (N + 1) kt ot ag k0 0 rs (t.2.1.1 - 1) ∧ MNk T N kt ot ag t kb z
/-- the CLASSES' places -/
def TRx (t : PT) (rs : List RcM) : Prop := ∃ ll : List (HD × List RcM), t.1 = ll.map (fun E => (E.1, E.2.map (fun r => r.1))) ∧ rs = ll.flatMap (fun E => E.2) ∧ CCh 0 ll (t.2.1.1 - 1)
section MJA62
variable {T : TT} {N k0 q kb m : Nat} {t : PT} {rs : List RcM} {z : PB} {s s' : mjSt3}
theorem TRc_of (hN : N ≤ 3000) (h0 : (T N).1 = 0) (hk0 : k0 ≤ 1000) (h : pText T (N + 1) k0 = .inr t) : ∃ rs kb z, TRc T N k0 t rs kb z ∧ TRx t rs := by
  obtain ⟨rs, kb, z, a1, a2, a3, a4, a5, a6, a7, a8, a9, a10, al, a11⟩ := pText_ok hN h0 hk0 h
  exact ⟨rs, kb, z, ⟨a1, a2, a3, a4, a5, a6, a7, a8, a9, a10, a11⟩, al⟩
/-- the record of MEMBER m -/
theorem TRc.at (R : TRc T N k0 t rs kb z) (hm : m < nMem t.1) : ∃ r : RcM, rs[m]? = some r ∧ r.1 = mdM t.1 m := by
  have e := mmD_at hm
  rw [R.1, List.getElem?_map] at e
  cases h : rs[m]? with
  | none => rw [h] at e; cases e
  | some r =>
    rw [h] at e
    exact ⟨r, rfl, by simpa using e⟩
theorem TRc.mok (R : TRc T N k0 t rs kb z) {kt : Int32 → Nat} {ot : Nat → Row} {ag : Nat → Int32} (hk : KT kt k0 t.2.2.1) (ho : OT ot 0 t.2.2.2.1) (ha : AGf ag t.2.2.2.2.1) {r : RcM} (hr : rs[m]? = some r) : MOK T (N + 1) kt ot ag k0 r.1 r.2.1 r.2.2.1 r.2.2.2.1 r.2.2.2.2 ∧ r.2.1 < t.2.1.1 := by
  obtain ⟨a, b⟩ := R.2.2.2.2.2.2.2.2.2.2 kt ot ag hk ho ha
  obtain ⟨c, d, e⟩ := a.at hr
  have := R.2.2.2.2.2.1
  exact ⟨c, by omega⟩
theorem TRc.kex (R : TRc T N k0 t rs kb z) (hN : N ≤ 3000) (hk0 : k0 ≤ 1000) : KT (ktL k0 t.2.2.1) k0 t.2.2.1 := KT_ex _ _ (by have := R.2.2.2.1; omega)
theorem AGf_ex (l : List (Nat × Nat)) (h : l.Pairwise (fun x y => ¬ x.1 = y.1)) (ag : Nat → Int32) : AGf (rAg l ag) l := fun e he => rAg_m l ag h e he
theorem TRc.hn0 (R : TRc T N k0 t rs kb z) (h16 : t.1.length ≤ 16) : HN T N t.1 := by
  refine ⟨h16, fun c hc => ?_⟩
  obtain ⟨D, hD⟩ : ∃ D, t.1[c]? = some D := ⟨_, List.getElem?_eq_getElem hc⟩
  have e : hC t.1 c = D.1 := by unfold hC; rw [hD]
  rw [e]
  exact (R.2.1 c D hD).1
theorem TRc.pfi (R : TRc T N k0 t rs kb z) : PFi T N t.1 := by
  intro c hc
  obtain ⟨D, hD⟩ : ∃ D, t.1[c]? = some D := ⟨_, List.getElem?_eq_getElem hc⟩
  have e : hC t.1 c = D.1 := by unfold hC; rw [hD]
  rw [e]
  exact (R.2.1 c D hD).2
theorem TRc.pfm (R : TRc T N k0 t rs kb z) (hN : N ≤ 3000) (hk0 : k0 ≤ 1000) (h0 : (T N).1 = 0) : PFm T N t.1 := by
  intro m hm
  obtain ⟨r, hr, er⟩ := R.at hm
  obtain ⟨⟨m1, m2, m3, m4, m5, m6, m7, m8⟩, en⟩ := R.mok (R.kex hN hk0) (OT_ex (0, 0, 0, 0, 0) _) (AGf_ex _ R.2.2.1 (fun _ => 0)) hr
  rw [← er]
  have tN := R.2.2.2.2.2.2.1
  obtain ⟨k1, k2⟩ := pType_ok h0 (show r.1.1 ≤ N by omega) m1
  refine ⟨k1, k2.symm, m2, by omega, ?_, ?_⟩
  · rcases m8 with ⟨_, b, _⟩ | ⟨_, _, _, b, _, _, b6, _⟩
    · rw [b]; show 0 ≤ 6; omega
    · rw [b]; exact b6
  · rcases m8 with ⟨_, b, _⟩ | ⟨_, _, _, b, _, bp, b6, _, bz, be, _⟩
    · intro i p hi
      rw [b] at hi
      cases hi
    · intro i p hi
      rw [b] at hi ⊢
      have hz := (prS_ln 30 0 1 _ _ _ _ _ (by omega) bz).1
      rcases bp with ⟨_, bn⟩ | bp
      · rw [bn] at hi; cases hi
      · obtain ⟨p1, p2, p3, p4, p5, _⟩ := bp.2.2.2.2 i p hi
        obtain ⟨k3, k4⟩ := pType_ok h0 (show p.1 ≤ N by omega) p1
        refine ⟨k3, k4.symm, p2, by omega, ?_⟩
        rw [p3]
        cases i with
        | zero => rfl
        | succ j => rfl
/-- what the reader leaves is what the judges stand on -/
theorem RD0_of (R : TRc T N k0 t rs kb z) (hk0 : k0 ≤ 1000) {ag : Nat → Int32} (hR : RD T N q s' t ag) (hK : KY T N s) (o : offL q s s') (c5 : ∀ j, j < 16 → s.1 (q + 5) j = -1 ∧ s.1 (q + 8) j = 0) (c11 : ∀ j, j < 112 → s.1 (q + 11) j = 0) (c12 : ∀ j, j < 256 → s.1 (q + 12) j = -1) (c13 : ∀ j, j < 96 → s.2.1 (q + 13) j = 0) : RD0 T N q t.1 s' := by
  obtain ⟨hT, hQ, hC, h16, h24, h70, h22, h63, h7, cu, hcu, h6⟩ := hR
  have hq' : q = 2 ∨ q = 30 := hQ.1
  obtain ⟨i1, i2, ⟨i3, i4⟩, i5⟩ := hC
  have hb := CI.bound h24
  have hN := R.hn0 h16
  have orow : ∀ h, h = q + 5 ∨ h = q + 8 ∨ h = q + 11 ∨ h = q + 12 → s'.1 h = s.1 h := fun h hh => o.1 h (by omega) (by omega)
  have mem : ∀ m, m < nMem t.1 → ∃ c D k, t.1[c]? = some D ∧ D.2[k]? = some (mdM t.1 m) ∧ m = nMem (t.1.take c) + k ∧ hmM t.1 m = c ∧ c < t.1.length ∧ MF q c m (cntB (mdM t.1 m).2.2.1 (D.2.take k)) s' (mdM t.1 m) := by
    intro m hm
    obtain ⟨c, D, k, e1, e2, e3, e4⟩ := FL_ex hm
    refine ⟨c, D, k, e1, e2, e3, e4, (List.getElem?_eq_some_iff.mp e1).1, ?_⟩
    have := (i5 c D e1).2.2.2.2 k _ e2
    rw [← e3] at this
    exact this
  refine ⟨⟨hT, hK.lr (o.2.1 62 (by omega) trivial), hN, hQ.1, ?_, i1⟩, ?_, ⟨?_, i2, by omega, ?_, ?_⟩, ⟨R.pfi, R.pfm hT.2.1 hk0 hT.2.2.1⟩, ?_, ?_, ?_, ?_, ?_⟩
  · intro c hc
    by_cases hl : c < t.1.length
    · obtain ⟨D, hD⟩ : ∃ D, t.1[c]? = some D := ⟨_, List.getElem?_eq_getElem hl⟩
      have e : nmL t.1 c = D.1.2.1 := by unfold nmL hC; rw [hD]
      rw [e]
      exact ⟨(i5 c D hD).1.2.2.2.1, (R.2.1 c D hD).1.2.2.2.1⟩
    · have e : nmL t.1 c = 0 := by unfold nmL hC; rw [List.getElem?_eq_none (by omega)]
      rw [e]
      exact ⟨(i3 c (by omega) hc).1, by omega⟩
  · intro c hl
    obtain ⟨D, hD⟩ : ∃ D, t.1[c]? = some D := ⟨_, List.getElem?_eq_getElem hl⟩
    have e : hC t.1 c = D.1 := by unfold hC; rw [hD]
    rw [e]
    obtain ⟨f1, f2, f3, f4, f5, f6, f7⟩ := (i5 c D hD).1
    exact ⟨f2, f5, f7⟩
  · intro c hl
    obtain ⟨D, hD⟩ : ∃ D, t.1[c]? = some D := ⟨_, List.getElem?_eq_getElem hl⟩
    have e : mcL t.1 c = D.2.length := by unfold mcL; rw [hD]
    rw [e]
    exact ⟨(i5 c D hD).1.1, (i5 c D hD).2.1⟩
  · intro c hl
    obtain ⟨D, hD⟩ : ∃ D, t.1[c]? = some D := ⟨_, List.getElem?_eq_getElem hl⟩
    have e : mcL t.1 c = D.2.length := by unfold mcL; rw [hD]
    rw [e]
    exact ⟨h24 c D hD, nMem_take hD⟩
  · intro m hm
    obtain ⟨c, D, k, e1, e2, e3, e4, e5, f1, f2, f3, f4, f5, f6, f7, f8⟩ := mem m hm
    rw [e4]
    refine ⟨f1, e5, f2, f3, f4, ?_, f7⟩
    rw [f5]
    rfl
  · intro j hj
    refine ⟨by rw [orow _ (by omega)]; exact (c5 j hj).1, by rw [orow _ (by omega)]; exact (c5 j hj).2, ?_, ?_⟩
    · by_cases hl : j < t.1.length
      · obtain ⟨D, hD⟩ : ∃ D, t.1[j]? = some D := ⟨_, List.getElem?_eq_getElem hl⟩
        have e : inL t.1 j = D.1.2.2.2.2 := by unfold inL hC; rw [hD]
        rw [e]
        exact (i5 j D hD).1.2.2.2.2.2.1
      · have e : inL t.1 j = 0 := by unfold inL hC; rw [List.getElem?_eq_none (by omega)]
        rw [e]
        exact (i3 j (by omega) hj).2.1
    · by_cases hl : j < t.1.length
      · obtain ⟨D, hD⟩ : ∃ D, t.1[j]? = some D := ⟨_, List.getElem?_eq_getElem hl⟩
        have e : oflL t.1 j = cntB false D.2 := by unfold oflL; rw [hD]
        rw [e]
        exact (i5 j D hD).2.2.2.1
      · have e : oflL t.1 j = 0 := by unfold oflL; rw [List.getElem?_eq_none (by omega)]
        rw [e]
        exact (i3 j (by omega) hj).2.2.2.1
  · intro j hj; rw [orow _ (by omega)]; exact c11 j hj
  · intro j hj; rw [orow _ (by omega)]; exact c12 j hj
  · intro j hj; rw [o.2.1 (q + 13) (by omega) trivial]; exact c13 j hj
  · intro m hm
    obtain ⟨c, D, k, e1, e2, e3, e4, e5, f1, f2, f3, f4, f5, f6, f7, f8⟩ := mem m hm
    rw [f6]
    unfold nuM mSM
    rw [e4, e1]
    have e : m - fmL t.1 c = k := by unfold fmL; omega
    rw [e]
end MJA62
