/-! ===== the constructors ===== -/
def mjRH (o : Option (mjZ × Nat × Nat)) : mjH := match o with
  | some z => z.1.2.2.2
  | none => []
def mjRU (o : mjU) : mjH := match o with
  | some q => q.2
  | none => []
def mjFz (S : List mjSp) (hp : mjH) : mjH := mjBd S (mjGi hp) (mjGl hp)
def mj_ckz (o : Option (mjZ × Nat × Nat)) (pc : Nat) (lo : mjLo) (st : List Value) (S : List mjSp) (k s : Nat) : Bool := match o with
  | some q => decide (q.1.1 = pc) && decide (q.1.2.1 = lo) && decide (q.1.2.2.1 = st) && decide (q.1.2.2.2.map mjSh = S) && q.1.2.2.2.all mjPl && decide (q.2.1 = k) && decide (q.2.2 = s)
  | none => false
def mj_cku (o : mjU) (r : Option Value) (S : List mjSp) : Bool := match o with
  | some q => decide (q.1 = r) && decide (q.2.map mjSh = S) && q.2.all mjPl
  | none => false
theorem mj_pieceC {f d : Nat} {I : mjI} {n : Nat} {z : mjZ} {kc ks : Nat} {pc' : Nat} {lo' : mjLo} {st' : List Value} {S' : List mjSp} {kF sF : Nat} (h : mj_ckz (mj_goF f d I n z kc ks) pc' lo' st' S' kF sF = true) {X : mjX} {C S : Nat} {Post : Option Value → mjH → Prop} (h1 : kF ≤ C) (h2 : sF ≤ S) (k : mjG X d C S I Post pc' lo' st' (mjFz S' (mjRH (mj_goF f d I n z kc ks))) kF sF) : mjG X d C S I Post z.1 z.2.1 z.2.2.1 z.2.2.2 kc ks := by
  unfold mj_ckz at h
  split at h
  · next q g1 =>
    obtain ⟨⟨pc, lo, st, hp⟩, k1, s1⟩ := q
    rw [g1] at k
    simp only [Bool.and_eq_true, decide_eq_true_eq] at h
    obtain ⟨⟨⟨⟨⟨⟨rfl, rfl⟩, rfl⟩, g3⟩, g4⟩, rfl⟩, rfl⟩ := h
    rw [mj_goF_eq] at g1
    refine (mj_go_ok n g1).2.2 h1 h2 ?_
    dsimp only [mjRH, mjFz] at k ⊢
    rw [mjBd_of g3 g4]
    exact k
  · cases h
theorem mj_pieceU {o : mjU} {r : Option Value} {S' : List mjSp} (h : mj_cku o r S' = true) : o = some (r, mjFz S' (mjRU o)) := by
  unfold mj_cku at h
  split at h
  · next q =>
    obtain ⟨r1, hp⟩ := q
    simp only [Bool.and_eq_true, decide_eq_true_eq] at h
    obtain ⟨⟨rfl, g3⟩, g4⟩ := h
    dsimp only [mjRU, mjFz]
    rw [← mjBd_of g3 g4]
  · cases h
