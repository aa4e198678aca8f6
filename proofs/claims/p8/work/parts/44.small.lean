/-! ===== the class's reader: its small state ===== -/
/-- cursor, FAULT, its place, opened, variables, arguments -/
abbrev RS : Type := Nat × Int32 × Int32 × Int32 × Int32 × (Nat → Int32)
def eR (s : mjSt3) (x : RS) : mjSt3 := uI (uI (uI s 58 (upd (upd (upd (s.1 58) 6 (nI x.1)) 7 x.2.1) 8 x.2.2.1)) 63 x.2.2.2.2.2) 64 (upd (upd (s.1 64) 9 x.2.2.2.1) 10 x.2.2.2.2.1)
theorem uI_sw (s : mjSt3) {a b : Nat} (f g : Nat → Int32) (h : ¬ a = b) : uI (uI s a f) b g = uI (uI s b g) a f := by
  unfold uI
  refine Prod.ext (funext fun q => ?_) rfl
  show (if q = b then g else if q = a then f else s.1 q) = (if q = a then f else if q = b then g else s.1 q)
  by_cases e : q = b
  · rw [if_pos e, if_pos e, if_neg (fun z => h (z.symm.trans e))]
  · rw [if_neg e, if_neg e]
theorem upd_id (f : Nat → Int32) {a : Nat} {v : Int32} (h : f a = v) : upd f a v = f := by
  funext i
  unfold upd
  by_cases e : i = a
  · rw [if_pos e, e, h]
  · rw [if_neg e]
section MJ44
variable {s : mjSt3} {x : RS}
theorem eR_q {q : Nat} (h1 : ¬ q = 58) (h2 : ¬ q = 63) (h3 : ¬ q = 64) : (eR s x).1 q = s.1 q := by
  unfold eR
  rw [uI_ne _ _ _ _ h3, uI_ne _ _ _ _ h2, uI_ne _ _ _ _ h1]
theorem eR_2 : (eR s x).2 = s.2 := rfl
theorem eR_58 : (eR s x).1 58 = upd (upd (upd (s.1 58) 6 (nI x.1)) 7 x.2.1) 8 x.2.2.1 := by
  unfold eR
  rw [uI_ne _ _ _ _ (by decide), uI_ne _ _ _ _ (by decide), uI_same]
theorem eR_63 : (eR s x).1 63 = x.2.2.2.2.2 := by
  unfold eR
  rw [uI_ne _ _ _ _ (by decide), uI_same]
theorem eR_64 : (eR s x).1 64 = upd (upd (s.1 64) 9 x.2.2.2.1) 10 x.2.2.2.2.1 := by
  unfold eR
  rw [uI_same]
theorem eR_5 : (eR s x).1 58 5 = s.1 58 5 := by rw [eR_58]; rfl
theorem eR_6 : (eR s x).1 58 6 = nI x.1 := by rw [eR_58]; rfl
theorem eR_7 : (eR s x).1 58 7 = x.2.1 := by rw [eR_58]; rfl
theorem eR_8 : (eR s x).1 58 8 = x.2.2.1 := by rw [eR_58]; rfl
theorem eR_o : (eR s x).1 64 9 = x.2.2.2.1 := by rw [eR_64]; rfl
theorem eR_v : (eR s x).1 64 10 = x.2.2.2.2.1 := by rw [eR_64]; rfl
theorem eR_60 : (eR s x).1 60 = s.1 60 := eR_q (by decide) (by decide) (by decide)
theorem eR_61 : (eR s x).1 61 = s.1 61 := eR_q (by decide) (by decide) (by decide)
theorem wR_58 (f : Nat → Int32) : uI (eR s x) 58 f = uI (uI (uI s 58 f) 63 x.2.2.2.2.2) 64 (upd (upd (s.1 64) 9 x.2.2.2.1) 10 x.2.2.2.2.1) := by
  unfold eR
  rw [uI_sw _ (a := 64) (b := 58) _ _ (by decide), uI_sw _ (a := 63) (b := 58) _ _ (by decide), uI_uI]
theorem wR_6 (c : Nat) : uI (eR s x) 58 (upd ((eR s x).1 58) 6 (nI c)) = eR s (c, x.2) := by
  rw [wR_58, eR_58, upd_sw _ (a := 8) (b := 6) _ _ (by decide), upd_sw _ (a := 7) (b := 6) _ _ (by decide), upd_upd]
  rfl
theorem wR_7 (f : Int32) : uI (eR s x) 58 (upd ((eR s x).1 58) 7 f) = eR s (x.1, f, x.2.2) := by
  rw [wR_58, eR_58, upd_sw _ (a := 8) (b := 7) _ _ (by decide), upd_upd]
  rfl
theorem wR_8 (f : Int32) : uI (eR s x) 58 (upd ((eR s x).1 58) 8 f) = eR s (x.1, x.2.1, f, x.2.2.2) := by
  rw [wR_58, eR_58, upd_upd]
  rfl
theorem wR_o (f : Int32) : uI (eR s x) 64 (upd ((eR s x).1 64) 9 f) = eR s (x.1, x.2.1, x.2.2.1, f, x.2.2.2.2) := by
  rw [eR_64, upd_sw _ (a := 10) (b := 9) _ _ (by decide), upd_upd]
  unfold eR
  rw [uI_uI]
theorem wR_v (f : Int32) : uI (eR s x) 64 (upd ((eR s x).1 64) 10 f) = eR s (x.1, x.2.1, x.2.2.1, x.2.2.2.1, f, x.2.2.2.2.2) := by
  rw [eR_64, upd_upd]
  unfold eR
  rw [uI_uI]
theorem wR_a (f : Nat → Int32) : uI (eR s x) 63 f = eR s (x.1, x.2.1, x.2.2.1, x.2.2.2.1, x.2.2.2.2.1, f) := by
  unfold eR
  rw [uI_sw _ (a := 64) (b := 63) _ _ (by decide), uI_uI]
theorem wR_q {q : Nat} (h1 : ¬ q = 58) (h2 : ¬ q = 63) (h3 : ¬ q = 64) (f : Nat → Int32) : uI (eR s x) q f = eR (uI s q f) x := by
  unfold eR
  rw [uI_ne s q 58 f (fun e => h1 e.symm), uI_ne s q 64 f (fun e => h3 e.symm), uI_sw _ (a := 64) (b := q) _ _ (fun e => h3 e.symm), uI_sw _ (a := 63) (b := q) _ _ (fun e => h2 e.symm), uI_sw _ (a := 58) (b := q) _ _ (fun e => h1 e.symm)]
theorem wR_l {q : Nat} (f : Nat → Int64) : uL (eR s x) q f = eR (uL s q f) x := rfl
/-- a state is itself with its own small state -/
theorem eR_self {c : Nat} (h : s.1 58 6 = nI c) : eR s (c, s.1 58 7, s.1 58 8, s.1 64 9, s.1 64 10, s.1 63) = s := by
  unfold eR
  show uI (uI (uI s 58 (upd (upd (upd (s.1 58) 6 (nI c)) 7 (s.1 58 7)) 8 (s.1 58 8))) 63 (s.1 63)) 64 (upd (upd (s.1 64) 9 (s.1 64 9)) 10 (s.1 64 10)) = s
  rw [upd_id (s.1 58) h, upd_id (s.1 58) rfl, upd_id (s.1 58) rfl, upd_id (s.1 64) rfl, upd_id (s.1 64) rfl]
  have id : ∀ (z : mjSt3) (q : Nat), uI z q (z.1 q) = z := by
    intro z q
    unfold uI
    refine Prod.ext (funext fun h' => ?_) rfl
    show (if h' = q then z.1 q else z.1 h') = z.1 h'
    by_cases e : h' = q
    · rw [if_pos e, e]
    · rw [if_neg e]
  rw [id s 58, id s 63, id s 64]
end MJ44
/-- N tokens and the end lie in the rows -/
def TB (N : Nat) (s : mjSt3) : Prop := s.1 58 5 = nI (N + 1) ∧ N ≤ 3000 ∧ s.1 60 N = 0
/-- refuse, skip, need as functions of the small state; K: the kinds, P: the places -/
def rRef (K P : Nat → Int32) (N : Nat) (k : Int32) (x : RS) : RS := if x.2.1 = 0 then (N, if K x.1 = 1 then 1 else k, P x.1, x.2.2.2) else (N, x.2)
def rSkip (N : Nat) (x : RS) : RS := if x.1 < N then (x.1 + 1, x.2) else x
def rNeed (K P : Nat → Int32) (N : Nat) (k : Int32) (x : RS) : RS := if K x.1 = k ∧ ¬ k = 0 then (x.1 + 1, x.2) else rRef K P N 2 x
def rAt (P : Nat → Int32) (N : Nat) (k : Int32) (t : Nat) (x : RS) : RS := if x.2.1 = 0 then (N, k, P t, x.2.2.2) else (N, x.2)
def rGo (t : Nat) (x : RS) : RS := if x.2.1 = 0 then (t, x.2) else x
theorem i01 {c : Prop} [Decidable c] {α : Type} (a b : α) : (if (if c then (1 : Int32) else 0) = 0 then a else b) = if c then b else a := by
  by_cases h : c
  · rw [if_pos h, if_pos h, if_neg (by decide)]
  · rw [if_neg h, if_neg h, if_pos rfl]
section MJ44b
variable {d N : Nat} {s : mjSt3} {x : RS}
theorem eR_Tk (hT : TB N s) (hx : x.1 ≤ N) : Tk (eR s x) x.1 (N + 1) := ⟨eR_6, eR_5.trans hT.1, by omega, by have := hT.2.1; omega⟩
theorem r_is (hT : TB N s) (hx : x.1 ≤ N) (k : Int32) : mjF (d + 1) 164 [.ref 58, .int k] (mjW0 (eR s x)) = some (some (.int (if s.1 60 x.1 = k then 1 else 0)), mjW0 (eR s x)) := by
  rw [x_is (eR_Tk hT hx), eR_60]
theorem r_kind (hT : TB N s) (hx : x.1 ≤ N) : mjF (d + 1) 173 [.ref 58] (mjW0 (eR s x)) = some (some (.int (s.1 60 x.1)), mjW0 (eR s x)) := by
  rw [x_kindNow (eR_Tk hT hx), eR_60]
theorem r_now (hT : TB N s) (hx : x.1 ≤ N) : mjF (d + 1) 167 [.ref 58] (mjW0 (eR s x)) = some (some (.int (nI x.1)), mjW0 (eR s x)) := x_now (eR_Tk hT hx)
theorem r_size (hT : TB N s) (hx : x.1 ≤ N) : mjF (d + 1) 171 [.ref 58] (mjW0 (eR s x)) = some (some (.int (nI (N + 1))), mjW0 (eR s x)) := x_size (eR_Tk hT hx)
theorem r_fine : mjF (d + 1) 172 [.ref 58] (mjW0 (eR s x)) = some (some (.int (if x.2.1 = 0 then 1 else 0)), mjW0 (eR s x)) := by
  rw [x_fine, eR_7]
theorem tkGo_R (c : Nat) : tkGo (eR s x) c = eR s (c, x.2) := wR_6 c
theorem r_skip (hT : TB N s) (hx : x.1 ≤ N) : mjF (d + 1) 166 [.ref 58] (mjW0 (eR s x)) = some (none, mjW0 (eR s (rSkip N x))) := by
  rw [x_skip (eR_Tk hT hx)]
  unfold rSkip
  by_cases h : x.1 < N
  · rw [if_pos h, if_pos (by omega), tkGo_R]
  · rw [if_neg h, if_neg (by omega)]
theorem tkBad_R (f p : Int32) : tkBad (eR s x) (N + 1) f p = eR s (if x.2.1 = 0 then (N, f, p, x.2.2.2) else (N, x.2)) := by
  unfold tkBad
  rw [eR_7]
  by_cases h : x.2.1 = 0
  · rw [if_pos h, if_pos h, wR_7, Nat.add_sub_cancel]
    have e : upd (upd ((eR s x).1 58) 7 f) 8 p = upd ((eR s (x.1, f, x.2.2)).1 58) 8 p := by rw [eR_58, eR_58, upd_sw _ (a := 8) (b := 7) _ _ (by decide), upd_upd, upd_upd, upd_upd]
    rw [e, wR_8, tkGo_R]
  · rw [if_neg h, if_neg h, Nat.add_sub_cancel, tkGo_R]
theorem r_ref (hT : TB N s) (hx : x.1 ≤ N) (k : Int32) : mjF (d + 1) 165 [.ref 58, .int k] (mjW0 (eR s x)) = some (none, mjW0 (eR s (rRef (s.1 60) (s.1 61) N k x))) := by
  rw [x_refuse (eR_Tk hT hx), tkBad_R, eR_60, eR_61]
  rfl
theorem r_at (hT : TB N s) (hx : x.1 ≤ N) {t : Nat} (ht : t ≤ N) (k : Int32) : mjF (d + 1) 178 [.ref 58, .int k, .int (nI t)] (mjW0 (eR s x)) = some (none, mjW0 (eR s (rAt (s.1 61) N k t x))) := by
  rw [x_refuseAt (eR_Tk hT hx) (by omega), tkBad_R, eR_61]
  rfl
theorem r_need (hT : TB N s) (hx : x.1 ≤ N) (k : Int32) : mjF (d + 2) 169 [.ref 58, .int k] (mjW0 (eR s x)) = some (none, mjW0 (eR s (rNeed (s.1 60) (s.1 61) N k x))) := by
  unfold rNeed
  have h := r_ref (d := d) hT hx 2
  rw [e_169]
  unfold f_169
  unfold b_169_0
  rw [xg_58_1, xg_58_6, eR_6, xa_60, if_pos (mj_in_nI (by have := hT.2.1; omega) (by decide)), nI_clamp (by have := hT.2.1; omega), eR_60]
  unfold b_169_30
  by_cases e : s.1 60 x.1 = k
  · rw [if_pos e]
    by_cases e0 : k = 0
    · rw [if_pos e0, if_neg (fun q => q.2 e0), xV_58, h, bN_s]
    · rw [if_neg e0, if_pos ⟨e, e0⟩, xg_58_6, eR_6, nI_1, xp_58_6, wR_6]
  · rw [if_neg e, if_neg (fun q => e q.1), xV_58, h, bN_s]
theorem r_go (hT : TB N s) (hx : x.1 ≤ N) {t : Nat} (ht : t ≤ N) : mjF (d + 1) 179 [.ref 58, .int (nI t)] (mjW0 (eR s x)) = some (none, mjW0 (eR s (rGo t x))) := by
  unfold rGo
  by_cases h : x.2.1 = 0
  · rw [x_goTo (eR_Tk hT hx) (by omega) (eR_7.trans h), if_pos h, tkGo_R]
  · rw [x_goStay _ (fun e => h (eR_7.symm.trans e)), if_neg h]
theorem r_sum (hT : TB N s) (hx : x.1 ≤ N) : mjF (d + 2) 176 [.ref 58] (mjW0 (eR s x)) = some (some (.int (if s.1 60 x.1 = 43 ∨ s.1 60 x.1 = 45 then 1 else 0)), mjW0 (eR s x)) := by
  rw [x_sum (eR_Tk hT hx), eR_60]
theorem r_product (hT : TB N s) (hx : x.1 ≤ N) : mjF (d + 2) 175 [.ref 58] (mjW0 (eR s x)) = some (some (.int (if s.1 60 x.1 = 42 ∨ s.1 60 x.1 = 47 ∨ s.1 60 x.1 = 37 then 1 else 0)), mjW0 (eR s x)) := by
  rw [x_product (eR_Tk hT hx), eR_60]
theorem r_compare (hT : TB N s) (hx : x.1 ≤ N) : mjF (d + 2) 177 [.ref 58] (mjW0 (eR s x)) = some (some (.int (if s.1 60 x.1 = 200 ∨ s.1 60 x.1 = 201 ∨ s.1 60 x.1 = 60 then 1 else 0)), mjW0 (eR s x)) := by
  rw [x_compare (eR_Tk hT hx), eR_60]
theorem le_ref {K P : Nat → Int32} {k : Int32} : (rRef K P N k x).1 ≤ N := by
  unfold rRef
  by_cases h : x.2.1 = 0
  · rw [if_pos h]; exact Nat.le_refl N
  · rw [if_neg h]; exact Nat.le_refl N
theorem le_at {P : Nat → Int32} {k : Int32} {t : Nat} : (rAt P N k t x).1 ≤ N := by
  unfold rAt
  by_cases h : x.2.1 = 0
  · rw [if_pos h]; exact Nat.le_refl N
  · rw [if_neg h]; exact Nat.le_refl N
theorem le_skip (hx : x.1 ≤ N) : (rSkip N x).1 ≤ N := by
  unfold rSkip
  by_cases h : x.1 < N
  · rw [if_pos h]; exact h
  · rw [if_neg h]; exact hx
theorem le_go (hx : x.1 ≤ N) {t : Nat} (ht : t ≤ N) : (rGo t x).1 ≤ N := by
  unfold rGo
  by_cases h : x.2.1 = 0
  · rw [if_pos h]; exact ht
  · rw [if_neg h]; exact hx
theorem le_need {K P : Nat → Int32} {k : Int32} (h0 : K N = 0) (hx : x.1 ≤ N) : (rNeed K P N k x).1 ≤ N := by
  unfold rNeed
  by_cases h : K x.1 = k ∧ ¬ k = 0
  · rw [if_pos h]
    have : ¬ x.1 = N := fun e => h.2 (by rw [← h.1, e, h0])
    show x.1 + 1 ≤ N
    omega
  · rw [if_neg h]; exact le_ref
end MJ44b
