/-! ===== the judge's view of the tokens ===== -/
def nk (k : Int32) : Prop := k = 2 ∨ k = 3
/-- the keys of the class's tokens: compared as T's names are -/
def KY (T : TT) (N : Nat) (s : mjSt3) : Prop := s.2.1 62 N = 0 ∧ (∀ k, k ≤ N → nk (T k).1 → ¬ s.2.1 62 k = 0) ∧ (∀ i j, i ≤ N → j ≤ N → nk (T i).1 → nk (T j).1 → (s.2.1 62 i = s.2.1 62 j ↔ (T i).2.2.1 = (T j).2.2.1)) ∧ ∀ k, k ≤ N → (T k).1 = 4 → (s.2.1 62 k).toInt32 = (T k).2.2.2
/-- no FAULT, the cursor at c; a FAULT, the cursor at the end -/
def fne (s : mjSt3) (c : Nat) : Prop := s.1 58 6 = nI c ∧ s.1 58 7 = 0
def bdd (N : Nat) (s : mjSt3) : Prop := s.1 58 6 = nI N ∧ ¬ s.1 58 7 = 0
def o58 : mjSt3 → mjSt3 → Prop := offG (fun h j => h = 58 ∧ (j = 6 ∨ j = 7 ∨ j = 8)) (fun _ _ => False)
section MJA4
variable {T : TT} {d N q c t n : Nat} {s s' : mjSt3}
theorem o58.go (s : mjSt3) (c : Nat) : o58 s (tkGo s c) := offG.w (Or.inl rfl |> fun h => ⟨rfl, h⟩)
theorem o58.r (o : o58 s s') {h : Nat} (hh : ¬ h = 58) : s'.1 h = s.1 h := funext fun j => o.1 h j (fun e => hh e.1)
theorem o58.l (o : o58 s s') : s'.2 = s.2 := by
  have a : s'.2.1 = s.2.1 := funext fun h => funext fun j => o.2.1 h j (fun e => e)
  exact Prod.ext a o.2.2
theorem TH.o58 (h : TH T N s) (o : o58 s s') : TH T N s' := by
  obtain ⟨a, b, c, e⟩ := h
  refine ⟨(o.1 58 5 (by omega)).trans a, b, c, fun k hk => ?_⟩
  rw [o.r (by decide), o.r (by decide)]
  exact e k hk
theorem KY.o58 (h : KY T N s) (o : o58 s s') : KY T N s' := by
  unfold KY
  rw [o.l]
  exact h
theorem KY.lr (h : KY T N s) (e : s'.2.1 62 = s.2.1 62) : KY T N s' := by
  unfold KY
  rw [e]
  exact h
theorem tk_f (h : TH T N s) (f : fne s c) (hc : c ≤ N) : Tk s c (N + 1) := ⟨f.1, h.1, by omega, by have := h.2.1; omega⟩
theorem tk_b (h : TH T N s) (f : bdd N s) : Tk s N (N + 1) := ⟨f.1, h.1, by omega, by have := h.2.1; omega⟩
theorem fne.go (h : fne s c) (t : Nat) : fne (tkGo s t) t := ⟨tkGo_c s t, (tkGo_f s t 7 (by decide)).trans h.2⟩
theorem tkGo_self (h : s.1 58 6 = nI c) : tkGo s c = s := by
  unfold tkGo
  rw [upd_id _ h, uI_self]
theorem bad_of {k p : Int32} (h : s.1 58 7 = 0) (hk : ¬ k = 0) : bdd N (tkBad s (N + 1) k p) ∧ o58 s (tkBad s (N + 1) k p) := by
  unfold tkBad
  rw [if_pos h, Nat.add_sub_cancel]
  refine ⟨⟨tkGo_c _ _, ?_⟩, ?_⟩
  · rw [tkGo_f _ _ _ (by decide), uI_same]
    exact hk
  · refine offG.tr ?_ (o58.go _ _)
    rw [show upd (upd (s.1 58) 7 k) 8 p = upd ((uI s 58 (upd (s.1 58) 7 k)).1 58) 8 p by rw [uI_same]]
    exact offG.tr (offG.w ⟨rfl, Or.inr (Or.inl rfl)⟩) (offG.w ⟨rfl, Or.inr (Or.inr rfl)⟩)
theorem bad_id {k p : Int32} (h : bdd N s) : tkBad s (N + 1) k p = s := by
  unfold tkBad
  rw [if_neg h.2, Nat.add_sub_cancel]
  exact tkGo_self h.1
/-- refuseAt, refuse, goTo, skip -/
theorem j_at (hT : TH T N s) (f : fne s c) (hc : c ≤ N) (ht : t ≤ N) {k : Int32} (hk : ¬ k = 0) : ∃ s', mjF (d + 1) 178 [.ref 58, .int k, .int (nI t)] (mjW0 s) = some (none, mjW0 s') ∧ bdd N s' ∧ o58 s s' :=
  ⟨_, x_refuseAt (tk_f hT f hc) (by omega) k, bad_of f.2 hk⟩
theorem j_atB (hT : TH T N s) (b : bdd N s) {k t : Int32} : mjF (d + 1) 178 [.ref 58, .int k, .int t] (mjW0 s) = some (none, mjW0 s) := by
  rw [e_178]
  unfold f_178 b_178_0
  rw [xg_58_7, if_neg b.2]
  unfold b_178_34
  rw [xg_58_5, hT.1, nI_pred, xp_58_6, show uI s 58 (upd (s.1 58) 6 (nI N)) = s from tkGo_self b.1]
theorem j_ref (hT : TH T N s) (f : fne s c) (hc : c ≤ N) {k : Int32} (hk : ¬ k = 0) : ∃ s', mjF (d + 1) 165 [.ref 58, .int k] (mjW0 s) = some (none, mjW0 s') ∧ bdd N s' ∧ o58 s s' := by
  refine ⟨_, x_refuse (tk_f hT f hc) k, bad_of f.2 ?_⟩
  by_cases h : s.1 60 c = 1
  · rw [if_pos h]; decide
  · rw [if_neg h]; exact hk
theorem j_refB (hT : TH T N s) (b : bdd N s) {k : Int32} : mjF (d + 1) 165 [.ref 58, .int k] (mjW0 s) = some (none, mjW0 s) := by
  rw [x_refuse (tk_b hT b), bad_id b]
theorem j_go (hT : TH T N s) (f : fne s c) (hc : c ≤ N) (ht : t ≤ N) : mjF (d + 1) 179 [.ref 58, .int (nI t)] (mjW0 s) = some (none, mjW0 (tkGo s t)) := x_goTo (tk_f hT f hc) (by omega) f.2
theorem j_goB (b : bdd N s) (t : Int32) : mjF (d + 1) 179 [.ref 58, .int t] (mjW0 s) = some (none, mjW0 s) := x_goStay t b.2
theorem j_skip (hT : TH T N s) (f : fne s c) (hc : c < N) : mjF (d + 1) 166 [.ref 58] (mjW0 s) = some (none, mjW0 (tkGo s (c + 1))) := by
  rw [x_skip (tk_f hT f (by omega)), if_pos (by omega)]
theorem j_skipB (hT : TH T N s) (b : bdd N s) : mjF (d + 1) 166 [.ref 58] (mjW0 s) = some (none, mjW0 s) := by
  rw [x_skip (tk_b hT b), if_neg (by omega)]
theorem j_is (hT : TH T N s) (f : s.1 58 6 = nI c) (hc : c ≤ N) (k : Int32) : mjF (d + 1) 164 [.ref 58, .int k] (mjW0 s) = some (some (.int (if (T c).1 = k then 1 else 0)), mjW0 s) := by
  rw [x_is (n := N + 1) ⟨f, hT.1, by omega, by have := hT.2.1; omega⟩, (hT.2.2.2 c hc).1]
theorem j_now (hT : TH T N s) (f : s.1 58 6 = nI c) (hc : c ≤ N) : mjF (d + 1) 167 [.ref 58] (mjW0 s) = some (some (.int (nI c)), mjW0 s) := x_now (n := N + 1) ⟨f, hT.1, by omega, by have := hT.2.1; omega⟩
theorem j_key (hT : TH T N s) (f : s.1 58 6 = nI c) (hc : c ≤ N) (ht : t ≤ N) : mjF (d + 1) 170 [.ref 58, .int (nI t)] (mjW0 s) = some (some (.long (s.2.1 62 t)), mjW0 s) := x_keyAt (c := c) (n := N + 1) ⟨f, hT.1, by omega, by have := hT.2.1; omega⟩ (by omega)
theorem j_kind (hT : TH T N s) (f : s.1 58 6 = nI c) (hc : c ≤ N) (ht : t ≤ N) : mjF (d + 1) 180 [.ref 58, .int (nI t)] (mjW0 s) = some (some (.int (T t).1), mjW0 s) := by
  rw [x_kindAt (c := c) (n := N + 1) ⟨f, hT.1, by omega, by have := hT.2.1; omega⟩ (by omega), (hT.2.2.2 t ht).1]
theorem j_place (hT : TH T N s) (f : s.1 58 6 = nI c) (hc : c ≤ N) (ht : t ≤ N) : mjF (d + 1) 168 [.ref 58, .int (nI t)] (mjW0 s) = some (some (.int (T t).2.1), mjW0 s) := by
  rw [x_placeAt (c := c) (n := N + 1) ⟨f, hT.1, by omega, by have := hT.2.1; omega⟩ (by omega), (hT.2.2.2 t ht).2]
theorem j_fine {c : Nat} (f : fne s c) : mjF (d + 1) 172 [.ref 58] (mjW0 s) = some (some (.int 1), mjW0 s) := by
  rw [x_fine, if_pos f.2]
theorem j_fineB (b : bdd N s) : mjF (d + 1) 172 [.ref 58] (mjW0 s) = some (some (.int 0), mjW0 s) := by
  rw [x_fine, if_neg b.2]
end MJA4
/-! ===== CLASSES and NAMES by their keys ===== -/
def hC (L : List CD) (c : Nat) : HD := match L[c]? with
  | some D => D.1
  | none => (0, 0, 0, 0, 0)
def kyT (T : TT) (t : Nat) : Int64 := (T t).2.2.1
def clsK (T : TT) (L : List CD) (k : Int64) : Option Nat := fnd (fun c => decide (kyT T (hC L c).1 = k)) L.length
def nmK (T : TT) (L : List CD) (c : Nat) (k : Int64) : Option Nat := fnd (fun i => decide (kyT T ((hC L c).1 + 2 + 2 * i) = k)) (hC L c).2.1
/-- an OWNER's token in a CLASS (none: in main), perhaps behind is -/
def owT (T : TT) (L : List CD) (c : Option Nat) (beh : Bool) (t : Nat) : Option Nat := if (T t).1 = 13 then some 5 else match c with
  | none => none
  | some c => if (T t).1 = 12 then (if beh = true then none else some 6) else nmK T L c (kyT T t)
/-- a KIND's token -/
def kdT (T : TT) (L : List CD) (c : Option Nat) (beh : Bool) (t : Nat) : Option Nat := match clsK T L (kyT T t) with
  | none => none
  | some e => if cntO T 6 (t + 2) = (hC L e).2.1 then (match fnd (fun i => decide (owT T L c beh (t + 2 + 2 * i) = none)) (hC L e).2.1 with
    | some _ => none
    | none => some (mkK e (hC L e).2.1 (fun i => (owT T L c beh (t + 2 + 2 * i)).getD 0))) else none
/-- what stands at the CLASSES' names -/
def HN (T : TT) (N : Nat) (L : List CD) : Prop := L.length ≤ 16 ∧ ∀ c, c < L.length → (T (hC L c).1).1 = 2 ∧ (hC L c).1 ≤ N ∧ 1 ≤ (hC L c).2.1 ∧ (hC L c).2.1 ≤ 5 ∧ ∀ i, i < (hC L c).2.1 → (T ((hC L c).1 + 2 + 2 * i)).1 = 3 ∧ (hC L c).1 + 2 + 2 * i ≤ N
/-- the judge's rows of keys -/
def CKs (L : List CD) (s : mjSt3) : Prop := ∀ c, c < L.length → s.2.1 72 c = s.2.1 62 (hC L c).1 ∧ ∀ i, i < (hC L c).2.1 → s.2.1 73 (5 * c + i) = s.2.1 62 ((hC L c).1 + 2 + 2 * i)
/-- a KIND stands at t -/
def KDk (T : TT) (N t : Nat) : Prop := (T t).1 = 2 ∧ 1 ≤ cntO T 6 (t + 2) ∧ cntO T 6 (t + 2) ≤ 5 ∧ t + 2 + 2 * cntO T 6 (t + 2) ≤ N ∧ (∀ i, i < cntO T 6 (t + 2) → isOw (T (t + 2 + 2 * i)).1) ∧ (∀ i, 1 ≤ i → i < cntO T 6 (t + 2) → (T (t + 1 + 2 * i)).1 = 44) ∧ (T (t + 1 + 2 * cntO T 6 (t + 2))).1 = 93
section MJA4b
variable {T : TT} {d N q c t n : Nat} {s s' : mjSt3} {L : List CD}
theorem L56_S (R : mjR) (n a : Nat) (b : Int64) (e : Int32) (hp : mjH) : L_56_2 R (n + 1) a b e hp = b_56_2 R (L_56_2 R n) a b e hp := rfl
theorem lq_56 (hq : isP q) (hj : s.2.2 71 2 = q) (hn : s.1 q 0 = nI n) (h16 : n ≤ 16) (R : mjR) (key : Int64) : ∀ (r i m : Nat), i + r = n → r < m → (∀ j, j < i → ¬ s.2.1 72 j = key) → L_56_2 R m 71 key (nI i) (mjW0 s) = some (some (.int (oI (fnd (fun c => decide (s.2.1 72 c = key)) n))), mjW0 s)
  | 0, i, m + 1, h, _, hb => by
    rw [L56_S]
    unfold b_56_2
    rw [xg_71_2, hj, yg_0 hq, hn, if_pos (nI_le (by omega) (by omega)), fnd_none.mpr (fun j hj => by simpa using hb j (by omega))]
    rfl
  | r + 1, i, m + 1, h, hr, hb => by
    rw [L56_S]
    unfold b_56_2
    rw [xg_71_2, hj, yg_0 hq, hn, if_neg (nI_ge (by omega) (by omega)), xg_71_5, wa_72 (by omega)]
    by_cases e : s.2.1 72 i = key
    · rw [if_pos ((lg_cmp_eq _ _).mpr e), show fnd (fun c => decide (s.2.1 72 c = key)) n = some i from fnd_some.mpr ⟨by omega, by simpa using e, fun j hj => by simpa using hb j hj⟩]
      rfl
    · rw [if_neg (fun x => e ((lg_cmp_eq _ _).mp x)), nI_1]
      refine lq_56 hq hj hn h16 R key r (i + 1) m (by omega) (by omega) (fun j hj => ?_)
      by_cases g : j = i
      · rw [g]; exact e
      · exact hb j (by omega)
theorem x_56 (hq : isP q) (hj : s.2.2 71 2 = q) (hn : s.1 q 0 = nI n) (h16 : n ≤ 16) (key : Int64) : mjF (d + 1) 56 [.ref 71, .long key] (mjW0 s) = some (some (.int (oI (fnd (fun c => decide (s.2.1 72 c = key)) n))), mjW0 s) := by
  rw [e_56]
  unfold f_56 b_56_0
  exact lq_56 (n := n) hq hj hn h16 _ key n 0 mjN (by omega) (by have := mjN_v; omega) (fun j hj => absurd hj (by omega))
theorem L58_S (R : mjR) (n a : Nat) (b : Int32) (e : Int64) (f : Int32) (hp : mjH) : L_58_3 R (n + 1) a b e f hp = b_58_3 R (L_58_3 R n) a b e f hp := rfl
theorem lq_58 (hq : isP q) (hj : s.2.2 71 2 = q) (hc : c < 16) (hn : s.1 (q + 1) c = nI n) (h5 : n ≤ 5) (R : mjR) (key : Int64) : ∀ (r i m : Nat), i + r = n → r < m → (∀ j, j < i → ¬ s.2.1 73 (5 * c + j) = key) → L_58_3 R m 71 (nI c) key (nI i) (mjW0 s) = some (some (.int (oI (fnd (fun i => decide (s.2.1 73 (5 * c + i) = key)) n))), mjW0 s)
  | 0, i, m + 1, h, _, hb => by
    rw [L58_S]
    unfold b_58_3
    rw [xg_71_2, hj, yg_1 hq, wya_1 hq hc, hn, if_pos (nI_le (by omega) (by omega)), fnd_none.mpr (fun j hj => by simpa using hb j (by omega))]
    rfl
  | r + 1, i, m + 1, h, hr, hb => by
    rw [L58_S]
    unfold b_58_3
    rw [xg_71_2, hj, yg_1 hq, wya_1 hq hc, hn, if_neg (nI_ge (by omega) (by omega)), xg_71_6, show nI c * (5 : Int32) + nI i = nI (5 * c + i) by rw [show (5 : Int32) = nI 5 from rfl, nI_mul, nI_add, Nat.mul_comm], wa_73 (by omega)]
    by_cases e : s.2.1 73 (5 * c + i) = key
    · rw [if_pos ((lg_cmp_eq _ _).mpr e), show fnd (fun i => decide (s.2.1 73 (5 * c + i) = key)) n = some i from fnd_some.mpr ⟨by omega, by simpa using e, fun j hj => by simpa using hb j hj⟩]
      rfl
    · rw [if_neg (fun x => e ((lg_cmp_eq _ _).mp x)), nI_1]
      refine lq_58 hq hj hc hn h5 R key r (i + 1) m (by omega) (by omega) (fun j hj => ?_)
      by_cases g : j = i
      · rw [g]; exact e
      · exact hb j (by omega)
theorem x_58 (hq : isP q) (hj : s.2.2 71 2 = q) (hc : c < 16) (hn : s.1 (q + 1) c = nI n) (h5 : n ≤ 5) (key : Int64) : mjF (d + 1) 58 [.ref 71, .int (nI c), .long key] (mjW0 s) = some (some (.int (oI (fnd (fun i => decide (s.2.1 73 (5 * c + i) = key)) n))), mjW0 s) := by
  rw [e_58]
  unfold f_58 b_58_0
  exact lq_58 (n := n) hq hj hc hn h5 _ key n 0 mjN (by omega) (by have := mjN_v; omega) (fun j hj => absurd hj (by omega))
/-- the keys' rows found by T's names -/
theorem fn_cls (hk : KY T N s) (hn : HN T N L) (hs : CKs L s) (ht : t ≤ N) (hT : (T t).1 = 2) : fnd (fun c => decide (s.2.1 72 c = s.2.1 62 t)) L.length = clsK T L (kyT T t) := by
  refine fnd_cg (fun c hc => ?_)
  have a := (hn.2 c hc)
  rw [(hs c hc).1]
  exact decide_eq_decide.mpr (hk.2.2.1 _ _ a.2.1 ht (Or.inl a.1) (Or.inl hT))
theorem fn_nm (hk : KY T N s) (hn : HN T N L) (hs : CKs L s) (hc : c < L.length) (ht : t ≤ N) (hT : (T t).1 = 3) : fnd (fun i => decide (s.2.1 73 (5 * c + i) = s.2.1 62 t)) (hC L c).2.1 = nmK T L c (kyT T t) := by
  refine fnd_cg (fun i hi => ?_)
  have a := (hn.2 c hc)
  have b := a.2.2.2.2 i hi
  rw [(hs c hc).2 i hi]
  exact decide_eq_decide.mpr (hk.2.2.1 _ _ b.2 ht (Or.inr b.1) (Or.inr hT))
theorem fn_0 (hk : KY T N s) (hn : HN T N L) (hs : CKs L s) : fnd (fun c => decide (s.2.1 72 c = s.2.1 62 N)) L.length = none := by
  refine fnd_none.mpr (fun c hc => ?_)
  have a := (hn.2 c hc)
  rw [(hs c hc).1, hk.1]
  simpa using hk.2.1 _ a.2.1 (Or.inl a.1)
end MJA4b
