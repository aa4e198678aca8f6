/-! ===== what a RUN of the reference reads of the program ===== -/
def RPG (T : TT) (b : Nat) (t : PT) (rs : List RcM) (z : PB) (tr : Bool) (s : mjSt3) : Prop := PGn T t b s ∧ (∀ c, c < t.1.length → s.1 109 (16 * b + c) = nI (fldT T t.1 c)) ∧ ((∀ a, a < t.1.length → s.1 107 (16 * b + a) = nI (fmL t.1 a) ∧ s.1 108 (16 * b + a) = nI (mcL t.1 a) ∧ fmL t.1 a + mcL t.1 a ≤ nMem t.1) ∧ nMem t.1 ≤ 384 ∧ ∀ m, m < nMem t.1 → s.2.1 132 (400 * b + m) = nkM T t.1 m ∧ s.1 125 (400 * b + m) = b2 (mSM t.1 m) ∧ omT T t.1 (hmM t.1 m) (nkM T t.1 m) = some m) ∧ (∀ m, m < nMem t.1 → s.1 124 (400 * b + m) = nI (16 * b + hmM t.1 m) ∧ (mSM t.1 m = true → s.1 129 (400 * b + m) = nI (i0T t m))) ∧ s.1 123 b = nI (i0T t 384) ∧ ∀ m, m ≤ 384 → isMT t.1 m = true → DnB T b t tr (zT rs z m) m s ∧ OvB b t (zT rs z m) m s
section MJB48
variable {T : TT} {N b kb : Nat} {t : PT} {rs : List RcM} {z : PB} {tr : Bool} {s s' : mjSt3}
theorem RPG_of (I : JBI T N b t rs z tr (fun _ => True) s) (uq : ∀ m, m < nMem t.1 → omT T t.1 (hmM t.1 m) (nkM T t.1 m) = some m) : RPG T b t rs z tr s := by
  obtain ⟨⟨⟨J, _, _, _⟩, Q, Pl⟩, h123, D⟩ := I
  refine ⟨⟨fun c hc => (J.hd hc).2.2.1.1, Q.2⟩, fun c hc => (Pl.1 c hc).1, ⟨fun a ha => ?_, J.n384, fun m hm => ⟨J.mn hm, J.sort hm, uq m hm⟩⟩, fun m hm => ⟨(J.mem hm).1.1.1, fun ms => ?_⟩, h123, fun m hm im => ⟨(D m hm im).2.1 trivial, (D m hm im).1⟩⟩
  · obtain ⟨x1, x2, x3, _⟩ := J.mc ha
    exact ⟨x2, x1, x3⟩
  · have m384 := J.n384
    have e : i0T t m = (mdM t.1 m).2.2.2.2.2.2.1 := if_neg (by omega)
    rw [(J.mem hm).1.2.2.2.1, e]
    exact if_pos ms
/-- a RUN leaves it -/
theorem RPG.run (G : RPG T b t rs z tr s) (o : oRn s s') : RPG T b t rs z tr s' := by
  have q : ∀ h, (100 ≤ h ∧ h ≤ 147) → s'.1 h = s.1 h := fun h hh => funext fun y => o.1 h y (by unfold chRn; omega)
  have l : s'.2.1 = s.2.1 := funext fun h => funext fun y => o.2.1 h y (fun e => e)
  obtain ⟨⟨g1, g2⟩, g3, ⟨g4, g5, g6⟩, g7, g8, g9⟩ := G
  refine ⟨⟨fun c hc => by rw [q 104 (by omega)]; exact g1 c hc, fun x hx => (g2 x hx).cg (q 105 (by omega)) (q 138 (by omega)) (q 139 (by omega)) (q 142 (by omega))⟩, fun c hc => by rw [q 109 (by omega)]; exact g3 c hc, ⟨fun a ha => by rw [q 107 (by omega), q 108 (by omega)]; exact g4 a ha, g5, fun m hm => by rw [l, q 125 (by omega)]; exact g6 m hm⟩, fun m hm => by rw [q 124 (by omega), q 129 (by omega)]; exact g7 m hm, by rw [q 123 (by omega)]; exact g8, fun m hm im => ?_⟩
  obtain ⟨d1, d2⟩ := g9 m hm im
  have rw' : ∀ (i : Nat) (r : Row), Rw s i r → Rw s' i r := fun i r h => ⟨by rw [q 143 (by omega)]; exact h.1, by rw [q 144 (by omega)]; exact h.2.1, by rw [q 145 (by omega)]; exact h.2.2.1, by rw [q 146 (by omega)]; exact h.2.2.2.1, by rw [l]; exact h.2.2.2.2⟩
  refine ⟨fun k r hk j1 l1 hj => ?_, rw' _ _ d2⟩
  obtain ⟨a1, a2⟩ := d1 k r hk j1 l1 hj
  exact ⟨rw' _ _ a1, fun h kk hkk => (a2 h kk hkk).cg (q 138 (by omega)) (q 139 (by omega)) (q 142 (by omega))⟩
theorem RPG.mt (G : RPG T b t rs z tr s) (h9 : s.1 97 9 = nI b) : MTr T t.1 b s := ⟨h9, fun a ha => ⟨(G.2.2.1.1 a ha).1, (G.2.2.1.1 a ha).2.1, (G.2.2.1.1 a ha).2.2, G.1.2 a ha⟩, G.2.2.1.2.1, G.2.2.1.2.2⟩
end MJB48
