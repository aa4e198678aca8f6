/-! ===== (d): TYPES and NAMES of MEMBERS ===== -/
def fmL (L : List CD) (c : Nat) : Nat := nMem (L.take c)
def mcL (L : List CD) (c : Nat) : Nat := match L[c]? with
  | some D => D.2.length
  | none => 0
/-- the NAME of MEMBER m -/
def nkM (T : TT) (L : List CD) (m : Nat) : Int64 := kyT T (mdM L m).2.1
/-- the first MEMBER of that NAME told in CLASS c -/
def omT (T : TT) (L : List CD) (c : Nat) (k : Int64) : Option Nat := match fnd (fun i => decide (nkM T L (fmL L c + i) = k)) (mcL L c) with
  | none => none
  | some i => some (fmL L c + i)
/-- a TYPE stands at t; what is behind it -/
def TYk (T : TT) (N t : Nat) : Prop := (T t).1 = 10 ∧ t < N ∨ ¬ (T t).1 = 10 ∧ KDk T N t
def teT (T : TT) (t : Nat) : Nat := if (T t).1 = 10 then t + 1 else t + 2 + 2 * cntO T 6 (t + 2)
/-- the TYPE at t (0 int, a KIND and 2) -/
def tyT (T : TT) (L : List CD) (h : Option Nat) (t : Nat) : Nat := if (T t).1 = 10 then 0 else match kdT T L h false t with
  | some k => k + 2
  | none => 0
def nsT (T : TT) (L : List CD) (h : Option Nat) (k : Nat) : Bool := nst (nmL L) (inL L) (ipT T L) (knF T L) h k
def tyOK (T : TT) (L : List CD) (tr : Bool) (h : Option Nat) (t : Nat) : Prop := ¬ (T t).1 = 10 → ∃ k, kdT T L h false t = some k ∧ (tr || nsT T L h k) = true
/-- what the reader left of the MEMBERS -/
def RDM (T : TT) (N q : Nat) (L : List CD) (s : mjSt3) : Prop := (∀ c, c < L.length → s.1 (q + 9) c = nI (fmL L c) ∧ s.1 (q + 10) c = nI (mcL L c)) ∧ s.1 (q + 14) 0 = nI (nMem L) ∧ nMem L ≤ 384 ∧ (∀ c, c < L.length → mcL L c ≤ 24 ∧ fmL L c + mcL L c ≤ nMem L) ∧ ∀ m, m < nMem L → s.1 (q + 16) m = nI (hmM L m) ∧ hmM L m < L.length ∧ s.1 68 m = nI (mdM L m).1 ∧ s.1 69 m = nI (mdM L m).2.1 ∧ s.2.1 (q + 15) m = s.2.1 62 (mdM L m).2.1 ∧ s.1 (q + 18) m = b2 (mdM L m).2.2.1 ∧ s.1 (q + 20) m = nI (mdM L m).2.2.2.1.length
/-- what stands at a MEMBER -/
def PFm (T : TT) (N : Nat) (L : List CD) : Prop := ∀ m, m < nMem L → TYk T N (mdM L m).1 ∧ teT T (mdM L m).1 = (mdM L m).2.1 ∧ (T (mdM L m).2.1).1 = 3 ∧ (mdM L m).2.1 + 2 ≤ N ∧ (mdM L m).2.2.2.1.length ≤ 6 ∧ ∀ (i : Nat) (p : Nat × Nat × Int32), (mdM L m).2.2.2.1[i]? = some p → TYk T N p.1 ∧ teT T p.1 = p.2.1 ∧ (T p.2.1).1 = 3 ∧ p.2.1 + 2 ≤ N ∧ p.1 = (match i with
    | 0 => (mdM L m).2.1 + 2
    | j + 1 => (match (mdM L m).2.2.2.1[j]? with
      | some p' => p'.2.1 + 2
      | none => 0))
section MJA16
variable {T : TT} {d N q c t n e k u v : Nat} {s s' : mjSt3} {L : List CD} {h : Option Nat}
theorem TYk.te (hk : TYk T N t) : t ≤ N ∧ teT T t ≤ N := by
  rcases hk with ⟨a, b⟩ | ⟨a, b⟩
  · unfold teT; rw [if_pos a]; omega
  · have := b.2.2.2.1
    unfold teT; rw [if_neg a]; omega
theorem ty_lt (hn : HN T N L) (hh : ∀ c, h = some c → c < L.length) : tyT T L h t < 524290 := by
  unfold tyT
  by_cases g : (T t).1 = 10
  · rw [if_pos g]; omega
  · rw [if_neg g]
    cases hk : kdT T L h false t with
    | none => show 0 < 524290; omega
    | some k =>
      obtain ⟨_, _, _, _, _, _, v⟩ := kd_v hn hh hk
      have := v.lt hn
      show k + 2 < 524290
      omega
/-- typeHere -/
theorem x_68 (X : JX T N q L s) (hh : ∀ c, h = some c → c < L.length) (f : fne s t) (hk : TYk T N t) (tr : Bool) (htr : s.1 71 4 = b2 tr) (K : KNW q s (knF T L)) (I : INP q s (inL L) (ipT T L)) : (tyOK T L tr h t → mjF (d + 4) 68 [.ref 71, .int (oI h)] (mjW0 s) = some (some (.int (tyI (tyT T L h t))), mjW0 (tkGo s (teT T t)))) ∧ (¬ tyOK T L tr h t → ∃ w s', mjF (d + 4) 68 [.ref 71, .int (oI h)] (mjW0 s) = some (some (.int w), mjW0 s') ∧ bdd N s' ∧ o58 s s') := by
  have x1 := X.1
  have tN := hk.te
  have pre : mjF (d + 4) 68 [.ref 71, .int (oI h)] (mjW0 s) = _ := e_68 (d := d + 3)
  unfold f_68 b_68_0 at pre
  rw [xg_71_0, xV_58, j_is x1 f.1 tN.1, bI_s, i01] at pre
  rcases hk with ⟨a, b⟩ | ⟨a, b⟩
  · rw [if_pos a, xg_71_0, xV_58, j_skip x1 f b, bN_s] at pre
    refine ⟨fun _ => ?_, fun no => absurd (fun g => absurd a g) no⟩
    unfold tyT teT
    rw [if_pos a, if_pos a]
    exact pre
  · rw [if_neg a, xV_71] at pre
    have Z := x_60 (d := d) (iN := inL L) (ip := ipT T L) (kn := knF T L) X hh f b false tr htr (Or.inr (Or.inr ⟨K, I⟩))
    rw [show (0 : Int32) = b2 false from rfl] at pre
    cases hkd : kdT T L h false t with
    | none =>
      rw [hkd] at Z
      obtain ⟨s', z1, z2, z3⟩ := Z
      rw [z1, bI_s] at pre
      refine ⟨fun ok => ?_, fun _ => ⟨_, s', pre, z2, z3⟩⟩
      obtain ⟨k, u, _⟩ := ok a
      rw [hkd] at u
      cases u
    | some k =>
      rw [hkd] at Z
      dsimp only at Z
      rw [Bool.false_or] at Z
      by_cases g : (tr || nsT T L h k) = true
      · rw [if_pos (show (tr || nst (nmL L) (inL L) (ipT T L) (knF T L) h k) = true from g)] at Z
        rw [Z, bI_s] at pre
        refine ⟨fun _ => ?_, fun no => absurd (fun _ => ⟨k, hkd, g⟩) no⟩
        unfold tyT teT
        rw [if_neg a, if_neg a, hkd]
        exact pre
      · rw [if_neg (show ¬ (tr || nst (nmL L) (inL L) (ipT T L) (knF T L) h k) = true from g)] at Z
        obtain ⟨s', z1, z2, z3⟩ := Z
        rw [z1, bI_s] at pre
        refine ⟨fun ok => ?_, fun _ => ⟨_, s', pre, z2, z3⟩⟩
        obtain ⟨k', u, w⟩ := ok a
        rw [hkd] at u
        cases u
        exact absurd w g
theorem x_68B (X : JX T N q L s) (b : bdd N s) (hh : Int32) : ∃ w, mjF (d + 4) 68 [.ref 71, .int hh] (mjW0 s) = some (some (.int w), mjW0 s) := by
  have x1 := X.1
  have pre : mjF (d + 4) 68 [.ref 71, .int hh] (mjW0 s) = _ := e_68 (d := d + 3)
  unfold f_68 b_68_0 at pre
  rw [xg_71_0, xV_58, j_is x1 b.1 (Nat.le_refl N), bI_s, i01, if_neg (show ¬ (T N).1 = 10 by rw [x1.2.2.1]; decide), xV_71, x_60B X b, bI_s] at pre
  exact ⟨_, pre⟩
/-- ownMemberNamed -/
theorem L119_S (R : mjR) (n a : Nat) (b : Int32) (e : Int64) (f g : Int32) (hp : mjH) : L_119_12 R (n + 1) a b e f g hp = b_119_12 R (L_119_12 R n) a b e f g hp := rfl
theorem lq_119 (hq : isP q) (D : RDM T N q L s) (hc : c < L.length) (h16 : L.length ≤ 16) (R : mjR) (key : Int64) : ∀ (r i m : Nat), i + r = mcL L c → r < m → (∀ j, j < i → ¬ s.2.1 (q + 15) (fmL L c + j) = key) → L_119_12 R m q (nI c) key (nI (fmL L c)) (nI (fmL L c + i)) (mjW0 s) = some (some (.int (match fnd (fun i => decide (s.2.1 (q + 15) (fmL L c + i) = key)) (mcL L c) with
    | none => -1
    | some i => nI (fmL L c + i))), mjW0 s)
  | 0, i, m + 1, e, _, hb => by
    obtain ⟨d1, d2, d3, d4, d5⟩ := D
    have b4 := d4 c hc
    rw [L119_S]
    unfold b_119_12
    rw [yg_10 hq, wya_10 hq (by omega), (d1 c hc).2, nI_add, if_pos (nI_le (by omega) (by omega)), fnd_none.mpr (fun j hj => by simpa using hb j (by omega))]
  | r + 1, i, m + 1, e, hr, hb => by
    have D0 := D
    obtain ⟨d1, d2, d3, d4, d5⟩ := D
    have b4 := d4 c hc
    rw [L119_S]
    unfold b_119_12
    rw [yg_10 hq, wya_10 hq (by omega), (d1 c hc).2, nI_add, if_neg (nI_ge (by omega) (by omega)), yg_14 hq, ymg_1 hq, wya_15 hq (by omega)]
    by_cases e : s.2.1 (q + 15) (fmL L c + i) = key
    · rw [if_pos ((lg_cmp_eq _ _).mpr e), show fnd (fun i => decide (s.2.1 (q + 15) (fmL L c + i) = key)) (mcL L c) = some i from fnd_some.mpr ⟨by omega, by simpa using e, fun j hj => by simpa using hb j hj⟩]
    · rw [if_neg (fun x => e ((lg_cmp_eq _ _).mp x)), nI_1]
      refine lq_119 hq D0 hc h16 R key r (i + 1) m (by omega) (by omega) (fun j hj => ?_)
      by_cases g : j = i
      · rw [g]; exact e
      · exact hb j (by omega)
theorem x_119 (hq : isP q) (D : RDM T N q L s) (P : PFm T N L) (hk : KY T N s) (h16 : L.length ≤ 16) (hc : c < L.length) (ht : t ≤ N) (hT : (T t).1 = 3) : mjF (d + 1) 119 [.ref q, .int (nI c), .long (s.2.1 62 t)] (mjW0 s) = some (some (.int (oI (omT T L c (kyT T t)))), mjW0 s) := by
  have D0 := D
  obtain ⟨d1, d2, d3, d4, d5⟩ := D
  have b4 := d4 c hc
  have lp := lq_119 hq D0 hc h16 (mjF d) (s.2.1 62 t) (mcL L c) 0 mjN (by omega) (by have := mjN_v; omega) (fun j hj => absurd hj (by omega))
  have ef : fnd (fun i => decide (s.2.1 (q + 15) (fmL L c + i) = s.2.1 62 t)) (mcL L c) = fnd (fun i => decide (nkM T L (fmL L c + i) = kyT T t)) (mcL L c) := by
    refine fnd_cg (fun i hi => ?_)
    have m1 := d5 (fmL L c + i) (by omega)
    have p1 := P (fmL L c + i) (by omega)
    rw [m1.2.2.2.2.1]
    exact decide_eq_decide.mpr (hk.2.2.1 _ _ (by omega) ht (Or.inr p1.2.2.1) (Or.inr hT))
  rw [e_119]
  unfold f_119 b_119_0
  rw [yg_9 hq, wya_9 hq (by omega), (d1 c hc).1]
  rw [Nat.add_zero] at lp
  rw [lp, ef]
  unfold omT
  cases fnd (fun i => decide (nkM T L (fmL L c + i) = kyT T t)) (mcL L c) <;> rfl
end MJA16
