/-! ===== an accepted program: what a RUN stands on ===== -/
/-- what was judged in a bank still stands there -/
def RKP (b : Nat) (s0 s : mjSt3) : Prop := (∀ h j, inB b h j → s.1 h j = s0.1 h j) ∧ ∀ h j, inBL b h j → s.2.1 h j = s0.2.1 h j
def JKP (T : TT) (N b : Nat) (t : PT) (rs : List RcM) (z : PB) (tr : Bool) (s : mjSt3) : Prop := ∃ s0, JBI T N b t rs z tr (fun _ => True) s0 ∧ RKP b s0 s
section MJB73
variable {T : TT} {N b kb q : Nat} {L : List CD} {t : PT} {rs : List RcM} {z : PB} {tr : Bool} {s s' : mjSt3}
theorem PRX_of (R : TRc T N (800 * b) t rs kb z) (hN : N ≤ 3000) (B : HBd T N b t rs kb z tr) (ok : OKz T (800 * b) t rs z tr) (hh : ∀ m, m < nMem t.1 → hmM t.1 m < t.1.length) : PRX T N (800 * b) t rs kb z tr ∧ SYX t rs z := by
  obtain ⟨B1, B2, ⟨Ac, od, PM, om, T0⟩, o5, m384, k75, hb⟩ := B
  have F : ∀ m, m ≤ 384 → isMT t.1 m = true → ∃ o, o ≤ 1 ∧ prS T (N + 1) 30 0 o (btT t m) (npT t.1 m) (kqT T rs kb m) (i0T t m) = .inr (zT rs z m) := fun m hm im => (MBk_ex R (show 800 * b ≤ 1000 by omega) hN m hm im).1
  refine ⟨⟨⟨Ac, fun m hm => ⟨ok.1.2.2.2.2.2 m hm, (PM m hm).2.2.2.2.1, hh m hm⟩, fun m hm im => ?_⟩, m384, fun m hm im => ?_⟩, fun m hm im => ?_⟩
  · obtain ⟨o, ho, k1⟩ := F m hm im
    refine ⟨prS_gg 30 0 o _ _ _ _ _ (by omega) (by omega) k1, (B1 m hm im).1, ?_⟩
    cases h : jrun (EmT T t.1 tr (ktL (800 * b) t.2.2.1) m) (osM rs z m) (jmT T t.1 m) with
    | none => exact absurd h (ok.2 m hm im)
    | some x => exact ⟨x.1, x.2, rfl⟩
  · have sb := (B1 m hm im).2.2.2.1
    have e1 := sb (osM rs z m).length oOver (by
      show ((osM rs z m) ++ [oOver])[(osM rs z m).length]? = some oOver
      rw [List.getElem?_append_right (Nat.le_refl _), Nat.sub_self]
      rfl)
    have e2 := (List.getElem?_eq_some_iff.mp e1).1
    omega
  · obtain ⟨o, ho, k1⟩ := F m hm im
    exact (prS_sy 30 0 o _ _ _ _ _ (by omega) (by omega) k1).1
theorem fld_384 (h16 : L.length ≤ 16) (h24 : ∀ (c : Nat) (E : CD), L[c]? = some E → E.2.length ≤ 24) : ∀ c, fldT T L c ≤ 384 := by
  intro c
  have h24' : ∀ x, oflL L x ≤ 24 := by
    intro x
    unfold oflL
    cases hx : L[x]? with
    | none => show 0 ≤ 24; omega
    | some D =>
      have := h24 x D hx
      have := cnt_le false D.2
      show cntB false D.2 ≤ 24
      omega
  exact fsum_le h24' h16
theorem inB_97 {h j : Nat} (x : inB b h j) : 100 ≤ h ∧ h ≤ 184 := by
  rcases x with x | x | x | x | x | x | x | x | x | x | x
  · omega
  · omega
  · omega
  · omega
  · omega
  · omega
  · omega
  · omega
  · omega
  · omega
  · omega
theorem inB_nr {h j : Nat} (x : inB b h j) : 100 ≤ h ∧ (h ≤ 146 ∨ h = 184) := by
  rcases x with x | x | x | x | x | x | x | x | x | x | x
  · omega
  · omega
  · omega
  · omega
  · omega
  · omega
  · omega
  · omega
  · omega
  · omega
  · omega
theorem JKP.keep (h : JKP T N b t rs z tr s) (e1 : ∀ h j, inB b h j → s'.1 h j = s.1 h j) (e2 : ∀ h j, inBL b h j → s'.2.1 h j = s.2.1 h j) : JKP T N b t rs z tr s' := by
  obtain ⟨s0, J, k1, k2⟩ := h
  exact ⟨s0, J, fun h j x => (e1 h j x).trans (k1 h j x), fun h j x => (e2 h j x).trans (k2 h j x)⟩
/-- a RUN of the reference leaves it -/
theorem JKP.rn (h : JKP T N b t rs z tr s) (o : oRn s s') : JKP T N b t rs z tr s' := h.keep (fun h j x => o.1 h j (fun c => by have := inB_nr x; unfold chRn at c; omega)) (fun h j _ => o.2.1 h j (fun e => e))
/-- what is done on the class's side, too -/
theorem JKP.lo (h : JKP T N b t rs z tr s) (e1 : ∀ h, 97 ≤ h → s'.1 h = s.1 h) (e2 : ∀ h, 97 ≤ h → s'.2.1 h = s.2.1 h) : JKP T N b t rs z tr s' := h.keep (fun h j x => by rw [e1 h (by have := inB_97 x; omega)]) (fun h j x => by rw [e2 h (by unfold inBL at x; omega)])
theorem RPG.c97 (G : RPG T b t rs z tr s) (e1 : ∀ h, ¬ h = 97 → s'.1 h = s.1 h) (l : s'.2.1 = s.2.1) : RPG T b t rs z tr s' := by
  have q : ∀ h, (100 ≤ h ∧ h ≤ 147) → s'.1 h = s.1 h := fun h hh => e1 h (by omega)
  obtain ⟨⟨g1, g2⟩, g3, ⟨g4, g5, g6⟩, g7, g8, g9⟩ := G
  refine ⟨⟨fun c hc => by rw [q 104 (by omega)]; exact g1 c hc, fun x hx => (g2 x hx).cg (q 105 (by omega)) (q 138 (by omega)) (q 139 (by omega)) (q 142 (by omega))⟩, fun c hc => by rw [q 109 (by omega)]; exact g3 c hc, ⟨fun a ha => by rw [q 107 (by omega), q 108 (by omega)]; exact g4 a ha, g5, fun m hm => by rw [l, q 125 (by omega)]; exact g6 m hm⟩, fun m hm => by rw [q 124 (by omega), q 129 (by omega)]; exact g7 m hm, by rw [q 123 (by omega)]; exact g8, fun m hm im => ?_⟩
  obtain ⟨d1, d2⟩ := g9 m hm im
  have rw' : ∀ (i : Nat) (r : Row), Rw s i r → Rw s' i r := fun i r h => ⟨by rw [q 143 (by omega)]; exact h.1, by rw [q 144 (by omega)]; exact h.2.1, by rw [q 145 (by omega)]; exact h.2.2.1, by rw [q 146 (by omega)]; exact h.2.2.2.1, by rw [l]; exact h.2.2.2.2⟩
  refine ⟨fun k r hk j1 l1 hj => ?_, rw' _ _ d2⟩
  obtain ⟨a1, a2⟩ := d1 k r hk j1 l1 hj
  exact ⟨rw' _ _ a1, fun h kk hkk => (a2 h kk hkk).cg (q 138 (by omega)) (q 139 (by omega)) (q 142 (by omega))⟩
/-- the bank's fields laid back -/
theorem JKP.jbi (B : HBd T N b t rs kb z tr) (h : JKP T N b t rs z tr s) : ∃ s2, JBI T N b t rs z tr (fun _ => True) s2 ∧ (∀ h, ¬ h = 97 → s2.1 h = s.1 h) ∧ s2.2 = s.2 ∧ ∀ j, ¬ (j = 63 ∨ j = 129) → s2.1 97 j = s.1 97 j := by
  obtain ⟨s0, J, k1, k2⟩ := h
  obtain ⟨s1, g1⟩ : ∃ y, y = uI s 97 (upd (s.1 97) 63 (s0.1 97 63)) := ⟨_, rfl⟩
  obtain ⟨s2, g2⟩ : ∃ y, y = uI s1 97 (upd (s1.1 97) 129 (s0.1 97 129)) := ⟨_, rfl⟩
  have v1 : ∀ j, s1.1 97 j = if j = 63 then s0.1 97 63 else s.1 97 j := fun j => by rw [g1, uI_same, upd_g]
  have v2 : ∀ j, s2.1 97 j = if j = 129 then s0.1 97 129 else s1.1 97 j := fun j => by rw [g2, uI_same, upd_g]
  have r2 : ∀ h, ¬ h = 97 → s2.1 h = s.1 h := fun h e => by rw [g2, uI_ne _ _ _ _ e, g1, uI_ne _ _ _ _ e]
  have l2 : s2.2 = s.2 := by rw [g2, g1]; rfl
  refine ⟨s2, J.loc B ⟨⟨?_, ?_⟩, fun h j x => ?_, fun h j x => ?_⟩, r2, l2, fun j hj => ?_⟩
  · rw [v2, if_neg (by decide), v1, if_pos rfl]
  · rw [v2, if_pos rfl]
  · rw [r2 h (by have := inB_97 x; omega)]; exact k1 h j x
  · rw [l2]; exact k2 h j x
  · rw [v2, if_neg (by omega), v1, if_neg (by omega)]
theorem JKP.rpg (B : HBd T N b t rs kb z tr) (h : JKP T N b t rs z tr s) : RPG T b t rs z tr s := by
  obtain ⟨s2, J, e1, e2, _⟩ := h.jbi B
  have om := B.2.2.1.2.2.2.1
  exact (RPG_of J (fun m hm => (om m hm).2.1)).c97 (fun h hh => (e1 h hh).symm) (by rw [e2])
end MJB73
