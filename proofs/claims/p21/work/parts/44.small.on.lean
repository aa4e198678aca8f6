section
/-! ===== the class's reader: its small state ===== -/
/-- cursor, FAULT, its place, opened, variables, arguments -/
abbrev RS : Type := Nat × Int32 × Int32 × Int32 × Int32 × (Nat → Int32)
def eR (s : mjSt3) (x : RS) : mjSt3 := uI (uI (uI s 58 (upd (upd (upd (s.1 58) 6 (nI x.1)) 7 x.2.1) 8 x.2.2.1)) 63 x.2.2.2.2.2) 64 (upd (upd (s.1 64) 9 x.2.2.2.1) 10 x.2.2.2.2.1)
theorem uI_sw (s : mjSt3) {a b : Nat} (f g : Nat → Int32) (h : ¬ a = b) : uI (uI s a f) b g = uI (uI s b g) a f := by
  unfold uI
  refine Prod.ext (funext fun q => ?_) rfl
  show (if q = b then g else if q = a then f else s.1 q) = (if q = a then f else if q = b then g else s.1 q)
  by_cases e : q = b
  · rw [if_pos e, if_pos e, if_neg (fun z => h (z.symm.trans e))]
  · rw [if_neg e, if_neg e]
theorem upd_id (f : Nat → Int32) {a : Nat} {v : Int32} (h : f a = v) : upd f a v = f := by
  funext i
  unfold upd
  by_cases e : i = a
  · rw [if_pos e, e, h]
  · rw [if_neg e]
section MJ44
variable {s : mjSt3} {x : RS}
theorem eR_q {q : Nat} (h1 : ¬ q = 58) (h2 : ¬ q = 63) (h3 : ¬ q = 64) : (eR s x).1 q = s.1 q := by
  unfold eR
  rw [uI_ne _ _ _ _ h3, uI_ne _ _ _ _ h2, uI_ne _ _ _ _ h1]
theorem eR_2 : (eR s x).2 = s.2 := rfl
theorem eR_58 : (eR s x).1 58 = upd (upd (upd (s.1 58) 6 (nI x.1)) 7 x.2.1) 8 x.2.2.1 := by
  unfold eR
  rw [uI_ne _ _ _ _ (by decide), uI_ne _ _ _ _ (by decide), uI_same]
theorem eR_63 : (eR s x).1 63 = x.2.2.2.2.2 := by
  unfold eR
  rw [uI_ne _ _ _ _ (by decide), uI_same]
theorem eR_64 : (eR s x).1 64 = upd (upd (s.1 64) 9 x.2.2.2.1) 10 x.2.2.2.2.1 := by
  unfold eR
  rw [uI_same]
theorem eR_5 : (eR s x).1 58 5 = s.1 58 5 := by rw [eR_58]; rfl
theorem eR_6 : (eR s x).1 58 6 = nI x.1 := by rw [eR_58]; rfl
theorem eR_7 : (eR s x).1 58 7 = x.2.1 := by rw [eR_58]; rfl
theorem eR_8 : (eR s x).1 58 8 = x.2.2.1 := by rw [eR_58]; rfl
theorem eR_o : (eR s x).1 64 9 = x.2.2.2.1 := by rw [eR_64]; rfl
theorem eR_v : (eR s x).1 64 10 = x.2.2.2.2.1 := by rw [eR_64]; rfl
theorem eR_60 : (eR s x).1 60 = s.1 60 := eR_q (by decide) (by decide) (by decide)
theorem eR_61 : (eR s x).1 61 = s.1 61 := eR_q (by decide) (by decide) (by decide)
theorem wR_58 (f : Nat → Int32) : uI (eR s x) 58 f = uI (uI (uI s 58 f) 63 x.2.2.2.2.2) 64 (upd (upd (s.1 64) 9 x.2.2.2.1) 10 x.2.2.2.2.1) := by
  unfold eR
  rw [uI_sw _ (a := 64) (b := 58) _ _ (by decide), uI_sw _ (a := 63) (b := 58) _ _ (by decide), uI_uI]
theorem wR_6 (c : Nat) : uI (eR s x) 58 (upd ((eR s x).1 58) 6 (nI c)) = eR s (c, x.2) := by
  rw [wR_58, eR_58, upd_sw _ (a := 8) (b := 6) _ _ (by decide), upd_sw _ (a := 7) (b := 6) _ _ (by decide), upd_upd]
  rfl
theorem wR_7 (f : Int32) : uI (eR s x) 58 (upd ((eR s x).1 58) 7 f) = eR s (x.1, f, x.2.2) := by
  rw [wR_58, eR_58, upd_sw _ (a := 8) (b := 7) _ _ (by decide), upd_upd]
  rfl
theorem wR_8 (f : Int32) : uI (eR s x) 58 (upd ((eR s x).1 58) 8 f) = eR s (x.1, x.2.1, f, x.2.2.2) := by
  rw [wR_58, eR_58, upd_upd]
  rfl
theorem wR_o (f : Int32) : uI (eR s x) 64 (upd ((eR s x).1 64) 9 f) = eR s (x.1, x.2.1, x.2.2.1, f, x.2.2.2.2) := by
  rw [eR_64, upd_sw _ (a := 10) (b := 9) _ _ (by decide), upd_upd]
  unfold eR
  rw [uI_uI]
theorem wR_v (f : Int32) : uI (eR s x) 64 (upd ((eR s x).1 64) 10 f) = eR s (x.1, x.2.1, x.2.2.1, x.2.2.2.1, f, x.2.2.2.2.2) := by
  rw [eR_64, upd_upd]
  unfold eR
  rw [uI_uI]
theorem wR_a (f : Nat → Int32) : uI (eR s x) 63 f = eR s (x.1, x.2.1, x.2.2.1, x.2.2.2.1, x.2.2.2.2.1, f) := by
  unfold eR
  rw [uI_sw _ (a := 64) (b := 63) _ _ (by decide), uI_uI]
theorem wR_q {q : Nat} (h1 : ¬ q = 58) (h2 : ¬ q = 63) (h3 : ¬ q = 64) (f : Nat → Int32) : uI (eR s x) q f = eR (uI s q f) x := by
  unfold eR
  rw [uI_ne s q 58 f (fun e => h1 e.symm), uI_ne s q 64 f (fun e => h3 e.symm), uI_sw _ (a := 64) (b := q) _ _ (fun e => h3 e.symm), uI_sw _ (a := 63) (b := q) _ _ (fun e => h2 e.symm), uI_sw _ (a := 58) (b := q) _ _ (fun e => h1 e.symm)]
theorem wR_l {q : Nat} (f : Nat → Int64) : uL (eR s x) q f = eR (uL s q f) x := rfl
/-- a state is itself with its own small state -/
theorem eR_self {c : Nat} (h : s.1 58 6 = nI c) : eR s (c, s.1 58 7, s.1 58 8, s.1 64 9, s.1 64 10, s.1 63) = s := by
  unfold eR
  show uI (uI (uI s 58 (upd (upd (upd (s.1 58) 6 (nI c)) 7 (s.1 58 7)) 8 (s.1 58 8))) 63 (s.1 63)) 64 (upd (upd (s.1 64) 9 (s.1 64 9)) 10 (s.1 64 10)) = s
  rw [upd_id (s.1 58) h, upd_id (s.1 58) rfl, upd_id (s.1 58) rfl, upd_id (s.1 64) rfl, upd_id (s.1 64) rfl]
  have id : ∀ (z : mjSt3) (q : Nat), uI z q (z.1 q) = z := by
    intro z q
    unfold uI
    refine Prod.ext (funext fun h' => ?_) rfl
    show (if h' = q then z.1 q else z.1 h') = z.1 h'
    by_cases e : h' = q
    · rw [if_pos e, e]
    · rw [if_neg e]
  rw [id s 58, id s 63, id s 64]
end MJ44
/-- N tokens and the end lie in the rows -/
def TB (N : Nat) (s : mjSt3) : Prop := s.1 58 5 = nI (N + 1) ∧ N ≤ 3000 ∧ s.1 60 N = 0
/-- refuse, skip, need as functions of the small state; K: the kinds, P: the places -/
def rRef (K P : Nat → Int32) (N : Nat) (k : Int32) (x : RS) : RS := if x.2.1 = 0 then (N, if K x.1 = 1 then 1 else k, P x.1, x.2.2.2) else (N, x.2)
def rSkip (N : Nat) (x : RS) : RS := if x.1 < N then (x.1 + 1, x.2) else x
def rNeed (K P : Nat → Int32) (N : Nat) (k : Int32) (x : RS) : RS := if K x.1 = k ∧ ¬ k = 0 then (x.1 + 1, x.2) else rRef K P N 2 x
def rAt (P : Nat → Int32) (N : Nat) (k : Int32) (t : Nat) (x : RS) : RS := if x.2.1 = 0 then (N, k, P t, x.2.2.2) else (N, x.2)
def rGo (t : Nat) (x : RS) : RS := if x.2.1 = 0 then (t, x.2) else x
theorem i01 {c : Prop} [Decidable c] {α : Type} (a b : α) : (if (if c then (1 : Int32) else 0) = 0 then a else b) = if c then b else a := by
  by_cases h : c
  · rw [if_pos h, if_pos h, if_neg (by decide)]
  · rw [if_neg h, if_neg h, if_pos rfl]
section MJ44b
variable {d N : Nat} {s : mjSt3} {x : RS}
theorem eR_Tk (hT : TB N s) (hx : x.1 ≤ N) : Tk (eR s x) x.1 (N + 1) := ⟨eR_6, eR_5.trans hT.1, by omega, by have := hT.2.1; omega⟩
theorem r_is (hT : TB N s) (hx : x.1 ≤ N) (k : Int32) : mjF (d + 1) 164 [.ref 58, .int k] (mjW0 (eR s x)) = some (some (.int (if s.1 60 x.1 = k then 1 else 0)), mjW0 (eR s x)) := by
  rw [x_is (eR_Tk hT hx), eR_60]
theorem r_kind (hT : TB N s) (hx : x.1 ≤ N) : mjF (d + 1) 173 [.ref 58] (mjW0 (eR s x)) = some (some (.int (s.1 60 x.1)), mjW0 (eR s x)) := by
  rw [x_kindNow (eR_Tk hT hx), eR_60]
theorem r_now (hT : TB N s) (hx : x.1 ≤ N) : mjF (d + 1) 167 [.ref 58] (mjW0 (eR s x)) = some (some (.int (nI x.1)), mjW0 (eR s x)) := x_now (eR_Tk hT hx)
theorem r_size (hT : TB N s) (hx : x.1 ≤ N) : mjF (d + 1) 171 [.ref 58] (mjW0 (eR s x)) = some (some (.int (nI (N + 1))), mjW0 (eR s x)) := x_size (eR_Tk hT hx)
theorem r_fine : mjF (d + 1) 172 [.ref 58] (mjW0 (eR s x)) = some (some (.int (if x.2.1 = 0 then 1 else 0)), mjW0 (eR s x)) := by
  rw [x_fine, eR_7]
theorem tkGo_R (c : Nat) : tkGo (eR s x) c = eR s (c, x.2) := wR_6 c
theorem r_skip (hT : TB N s) (hx : x.1 ≤ N) : mjF (d + 1) 166 [.ref 58] (mjW0 (eR s x)) = some (none, mjW0 (eR s (rSkip N x))) := by
  rw [x_skip (eR_Tk hT hx)]
  unfold rSkip
  by_cases h : x.1 < N
  · rw [if_pos h, if_pos (by omega), tkGo_R]
  · rw [if_neg h, if_neg (by omega)]
theorem tkBad_R (f p : Int32) : tkBad (eR s x) (N + 1) f p = eR s (if x.2.1 = 0 then (N, f, p, x.2.2.2) else (N, x.2)) := by
  unfold tkBad
  rw [eR_7]
  by_cases h : x.2.1 = 0
  · rw [if_pos h, if_pos h, wR_7, Nat.add_sub_cancel]
    have e : upd (upd ((eR s x).1 58) 7 f) 8 p = upd ((eR s (x.1, f, x.2.2)).1 58) 8 p := by rw [eR_58, eR_58, upd_sw _ (a := 8) (b := 7) _ _ (by decide), upd_upd, upd_upd, upd_upd]
    rw [e, wR_8, tkGo_R]
  · rw [if_neg h, if_neg h, Nat.add_sub_cancel, tkGo_R]
theorem r_ref (hT : TB N s) (hx : x.1 ≤ N) (k : Int32) : mjF (d + 1) 165 [.ref 58, .int k] (mjW0 (eR s x)) = some (none, mjW0 (eR s (rRef (s.1 60) (s.1 61) N k x))) := by
  rw [x_refuse (eR_Tk hT hx), tkBad_R, eR_60, eR_61]
  rfl
theorem r_at (hT : TB N s) (hx : x.1 ≤ N) {t : Nat} (ht : t ≤ N) (k : Int32) : mjF (d + 1) 178 [.ref 58, .int k, .int (nI t)] (mjW0 (eR s x)) = some (none, mjW0 (eR s (rAt (s.1 61) N k t x))) := by
  rw [x_refuseAt (eR_Tk hT hx) (by omega), tkBad_R, eR_61]
  rfl
theorem r_need (hT : TB N s) (hx : x.1 ≤ N) (k : Int32) : mjF (d + 2) 169 [.ref 58, .int k] (mjW0 (eR s x)) = some (none, mjW0 (eR s (rNeed (s.1 60) (s.1 61) N k x))) := by
  unfold rNeed
  have h := r_ref (d := d) hT hx 2
  rw [e_169]
  unfold f_169
  unfold b_169_0
  rw [xg_58_1, xg_58_6, eR_6, xa_60, if_pos (mj_in_nI (by have := hT.2.1; omega) (by decide)), nI_clamp (by have := hT.2.1; omega), eR_60]
  unfold b_169_30
  by_cases e : s.1 60 x.1 = k
  · rw [if_pos e]
    by_cases e0 : k = 0
    · rw [if_pos e0, if_neg (fun q => q.2 e0), xV_58, h, bN_s]
    · rw [if_neg e0, if_pos ⟨e, e0⟩, xg_58_6, eR_6, nI_1, xp_58_6, wR_6]
  · rw [if_neg e, if_neg (fun q => e q.1), xV_58, h, bN_s]
theorem r_go (hT : TB N s) (hx : x.1 ≤ N) {t : Nat} (ht : t ≤ N) : mjF (d + 1) 179 [.ref 58, .int (nI t)] (mjW0 (eR s x)) = some (none, mjW0 (eR s (rGo t x))) := by
  unfold rGo
  by_cases h : x.2.1 = 0
  · rw [x_goTo (eR_Tk hT hx) (by omega) (eR_7.trans h), if_pos h, tkGo_R]
  · rw [x_goStay _ (fun e => h (eR_7.symm.trans e)), if_neg h]
theorem r_sum (hT : TB N s) (hx : x.1 ≤ N) : mjF (d + 2) 176 [.ref 58] (mjW0 (eR s x)) = some (some (.int (if s.1 60 x.1 = 43 ∨ s.1 60 x.1 = 45 then 1 else 0)), mjW0 (eR s x)) := by
  rw [x_sum (eR_Tk hT hx), eR_60]
theorem r_product (hT : TB N s) (hx : x.1 ≤ N) : mjF (d + 2) 175 [.ref 58] (mjW0 (eR s x)) = some (some (.int (if s.1 60 x.1 = 42 ∨ s.1 60 x.1 = 47 ∨ s.1 60 x.1 = 37 then 1 else 0)), mjW0 (eR s x)) := by
  rw [x_product (eR_Tk hT hx), eR_60]
theorem r_compare (hT : TB N s) (hx : x.1 ≤ N) : mjF (d + 2) 177 [.ref 58] (mjW0 (eR s x)) = some (some (.int (if s.1 60 x.1 = 200 ∨ s.1 60 x.1 = 201 ∨ s.1 60 x.1 = 60 then 1 else 0)), mjW0 (eR s x)) := by
  rw [x_compare (eR_Tk hT hx), eR_60]
theorem le_ref {K P : Nat → Int32} {k : Int32} : (rRef K P N k x).1 ≤ N := by
  unfold rRef
  by_cases h : x.2.1 = 0
  · rw [if_pos h]; exact Nat.le_refl N
  · rw [if_neg h]; exact Nat.le_refl N
theorem le_at {P : Nat → Int32} {k : Int32} {t : Nat} : (rAt P N k t x).1 ≤ N := by
  unfold rAt
  by_cases h : x.2.1 = 0
  · rw [if_pos h]; exact Nat.le_refl N
  · rw [if_neg h]; exact Nat.le_refl N
theorem le_skip (hx : x.1 ≤ N) : (rSkip N x).1 ≤ N := by
  unfold rSkip
  by_cases h : x.1 < N
  · rw [if_pos h]; exact h
  · rw [if_neg h]; exact hx
theorem le_go (hx : x.1 ≤ N) {t : Nat} (ht : t ≤ N) : (rGo t x).1 ≤ N := by
  unfold rGo
  by_cases h : x.2.1 = 0
  · rw [if_pos h]; exact ht
  · rw [if_neg h]; exact hx
theorem le_need {K P : Nat → Int32} {k : Int32} (h0 : K N = 0) (hx : x.1 ≤ N) : (rNeed K P N k x).1 ≤ N := by
  unfold rNeed
  by_cases h : K x.1 = k ∧ ¬ k = 0
  · rw [if_pos h]
    have : ¬ x.1 = N := fun e => h.2 (by rw [← h.1, e, h0])
    show x.1 + 1 ≤ N
    omega
  · rw [if_neg h]; exact le_ref
end MJ44b
end
section
/-! ===== the reader's small steps over tokens T: kind, place, name, value ===== -/
abbrev TT : Type := Nat → Int32 × Int32 × Int64 × Int32
/-- the class's rows hold T -/
def TH (T : TT) (N : Nat) (s : mjSt3) : Prop := s.1 58 5 = nI (N + 1) ∧ N ≤ 3000 ∧ (T N).1 = 0 ∧ ∀ k, k ≤ N → s.1 60 k = (T k).1 ∧ s.1 61 k = (T k).2.1
theorem TH.tb {T : TT} {N : Nat} {s : mjSt3} (h : TH T N s) : TB N s := ⟨h.1, h.2.1, (h.2.2.2 N (Nat.le_refl N)).1.trans h.2.2.1⟩
/-- the FAULT where a token can't stand -/
def F2 (T : TT) (c : Nat) : Nat × Nat := (if (T c).1 = 1 then 1 else 2, c)
theorem F2_1 (T : TT) (c : Nat) : nI (F2 T c).1 = if (T c).1 = 1 then 1 else 2 := by
  unfold F2
  by_cases h : (T c).1 = 1
  · simp only [if_pos h]; rfl
  · simp only [if_neg h]; rfl
section MJ45
variable {T : TT} {d N c : Nat} {s : mjSt3} {x : RS} {f p o v : Int32} {ag : Nat → Int32}
theorem u_is (hT : TH T N s) (hc : c ≤ N) (k : Int32) : mjF (d + 1) 164 [.ref 58, .int k] (mjW0 (eR s (c, f, p, o, v, ag))) = some (some (.int (if (T c).1 = k then 1 else 0)), mjW0 (eR s (c, f, p, o, v, ag))) := by
  rw [r_is hT.tb (show (c, f, p, o, v, ag).1 ≤ N from hc), (hT.2.2.2 c hc).1]
theorem u_kind (hT : TH T N s) (hc : c ≤ N) : mjF (d + 1) 173 [.ref 58] (mjW0 (eR s (c, f, p, o, v, ag))) = some (some (.int (T c).1), mjW0 (eR s (c, f, p, o, v, ag))) := by
  rw [r_kind hT.tb (show (c, f, p, o, v, ag).1 ≤ N from hc), (hT.2.2.2 c hc).1]
theorem u_skip (hT : TH T N s) (hc : c < N) : mjF (d + 1) 166 [.ref 58] (mjW0 (eR s (c, f, p, o, v, ag))) = some (none, mjW0 (eR s (c + 1, f, p, o, v, ag))) := by
  rw [r_skip hT.tb (show c ≤ N by omega)]
  unfold rSkip
  rw [if_pos (show c < N from hc)]
theorem u_skipN (hT : TH T N s) : mjF (d + 1) 166 [.ref 58] (mjW0 (eR s (N, f, p, o, v, ag))) = some (none, mjW0 (eR s (N, f, p, o, v, ag))) := by
  rw [r_skip hT.tb (Nat.le_refl N)]
  unfold rSkip
  rw [if_neg (Nat.lt_irrefl N)]
theorem u_ref (hT : TH T N s) (hc : c ≤ N) (k : Int32) : mjF (d + 1) 165 [.ref 58, .int k] (mjW0 (eR s (c, 0, p, o, v, ag))) = some (none, mjW0 (eR s (N, if (T c).1 = 1 then 1 else k, (T c).2.1, o, v, ag))) := by
  rw [r_ref hT.tb hc]
  unfold rRef
  rw [if_pos (show (0 : Int32) = 0 from rfl), (hT.2.2.2 c hc).1, (hT.2.2.2 c hc).2]
theorem u_ref2 (hT : TH T N s) (hc : c ≤ N) : mjF (d + 1) 165 [.ref 58, .int 2] (mjW0 (eR s (c, 0, p, o, v, ag))) = some (none, mjW0 (eR s (N, nI (F2 T c).1, (T (F2 T c).2).2.1, o, v, ag))) := by
  rw [u_ref hT hc, F2_1]
  rfl
theorem u_ref3 (hT : TH T N s) (hc : c ≤ N) (hk : ¬ (T c).1 = 1) : mjF (d + 1) 165 [.ref 58, .int 3] (mjW0 (eR s (c, 0, p, o, v, ag))) = some (none, mjW0 (eR s (N, nI 3, (T c).2.1, o, v, ag))) := by
  rw [u_ref hT hc, if_neg hk]
  rfl
theorem u_refN (hT : TH T N s) (hf : ¬ f = 0) (k : Int32) : mjF (d + 1) 165 [.ref 58, .int k] (mjW0 (eR s (N, f, p, o, v, ag))) = some (none, mjW0 (eR s (N, f, p, o, v, ag))) := by
  rw [r_ref hT.tb (Nat.le_refl N)]
  unfold rRef
  rw [if_neg (show ¬ f = 0 from hf)]
theorem u_need (hT : TH T N s) (hc : c ≤ N) {k : Int32} (hk : (T c).1 = k) (h0 : ¬ k = 0) : mjF (d + 2) 169 [.ref 58, .int k] (mjW0 (eR s (c, 0, p, o, v, ag))) = some (none, mjW0 (eR s (c + 1, 0, p, o, v, ag))) := by
  rw [r_need hT.tb hc]
  unfold rNeed
  rw [if_pos ⟨(hT.2.2.2 c hc).1.trans hk, h0⟩]
theorem u_need2 (hT : TH T N s) (hc : c ≤ N) {k : Int32} (hk : ¬ (T c).1 = k) : mjF (d + 2) 169 [.ref 58, .int k] (mjW0 (eR s (c, 0, p, o, v, ag))) = some (none, mjW0 (eR s (N, nI (F2 T c).1, (T (F2 T c).2).2.1, o, v, ag))) := by
  rw [r_need hT.tb hc]
  unfold rNeed
  rw [if_neg (fun q => hk ((hT.2.2.2 c hc).1.symm.trans q.1))]
  unfold rRef
  rw [if_pos (show (0 : Int32) = 0 from rfl), (hT.2.2.2 c hc).1, (hT.2.2.2 c hc).2, F2_1]
  rfl
theorem u_needN (hT : TH T N s) (hf : ¬ f = 0) (k : Int32) : mjF (d + 2) 169 [.ref 58, .int k] (mjW0 (eR s (N, f, p, o, v, ag))) = some (none, mjW0 (eR s (N, f, p, o, v, ag))) := by
  rw [r_need hT.tb (Nat.le_refl N)]
  unfold rNeed
  rw [if_neg (fun q => q.2 (q.1.symm.trans ((hT.2.2.2 N (Nat.le_refl N)).1.trans hT.2.2.1)))]
  unfold rRef
  rw [if_neg (show ¬ f = 0 from hf)]
/-- a kind that is asked for is not the end's -/
theorem lt_of (hT : TH T N s) (hc : c ≤ N) {k : Int32} (hk : (T c).1 = k) (h0 : ¬ k = 0) : c < N := by
  have : ¬ c = N := fun e => h0 (by rw [← hk, e]; exact hT.2.2.1)
  omega
/-- open, close -/
theorem u_open (hT : TH T N s) (hc : c ≤ N) {k : Int32} {q : Nat} (hk : (T c).1 = k) (h0 : ¬ k = 0) (hq : q < 12) : mjF (d + 3) 134 [.ref 64, .int k] (mjW0 (eR s (c, 0, p, nI q, v, ag))) = some (none, mjW0 (eR s (c + 1, 0, p, nI (q + 1), v, ag))) := by
  have hl := lt_of hT hc hk h0
  rw [e_134]
  unfold f_134 b_134_0
  rw [xg_64_0, xV_58, u_is hT hc, bI_s, i01, if_pos hk, xg_64_9, eR_o]
  rw [if_neg (show ¬ nI q = 12 from fun e => by have := (nI_eq (a := q) (b := 12) (by omega) (by omega)).mp e; omega)]
  rw [xg_64_9, eR_o, nI_1, xp_64_9, wR_o, xg_64_0, xV_58, u_skip hT hl, bN_s]
theorem u_open3 (hT : TH T N s) (hc : c ≤ N) {k : Int32} (hk : (T c).1 = k) (h1 : ¬ k = 1) : mjF (d + 3) 134 [.ref 64, .int k] (mjW0 (eR s (c, 0, p, nI 12, v, ag))) = some (none, mjW0 (eR s (N, nI 3, (T c).2.1, nI 12, v, ag))) := by
  rw [e_134]
  unfold f_134 b_134_0
  rw [xg_64_0, xV_58, u_is hT hc, bI_s, i01, if_pos hk, xg_64_9, eR_o, if_pos (show nI 12 = 12 from rfl), xg_64_0, xV_58, u_ref3 hT hc (by rw [hk]; exact h1), bN_s]
theorem u_open2 (hT : TH T N s) (hc : c ≤ N) {k : Int32} (hk : ¬ (T c).1 = k) : mjF (d + 3) 134 [.ref 64, .int k] (mjW0 (eR s (c, 0, p, o, v, ag))) = some (none, mjW0 (eR s (N, nI (F2 T c).1, (T (F2 T c).2).2.1, o, v, ag))) := by
  rw [e_134]
  unfold f_134 b_134_0
  rw [xg_64_0, xV_58, u_is hT hc, bI_s, i01, if_neg hk, xg_64_0, xV_58, u_ref2 hT hc, bN_s]
theorem u_openN (hT : TH T N s) (hf : ¬ f = 0) {k : Int32} (h0 : ¬ k = 0) : mjF (d + 3) 134 [.ref 64, .int k] (mjW0 (eR s (N, f, p, o, v, ag))) = some (none, mjW0 (eR s (N, f, p, o, v, ag))) := by
  rw [e_134]
  unfold f_134 b_134_0
  rw [xg_64_0, xV_58, u_is hT (Nat.le_refl N), bI_s, i01, if_neg (show ¬ (T N).1 = k from fun e => h0 (e.symm.trans hT.2.2.1)), xg_64_0, xV_58, u_refN hT hf, bN_s]
theorem u_close (hT : TH T N s) (hc : c ≤ N) {k : Int32} {q : Nat} (hk : (T c).1 = k) (h0 : ¬ k = 0) : mjF (d + 3) 138 [.ref 64, .int k] (mjW0 (eR s (c, 0, p, nI (q + 1), v, ag))) = some (none, mjW0 (eR s (c + 1, 0, p, nI q, v, ag))) := by
  rw [e_138]
  unfold f_138 b_138_0
  rw [xg_64_0, xV_58, u_need hT hc hk h0, bN_s, xg_64_9, eR_o, nI_pred, xp_64_9, wR_o]
theorem u_close2 (hT : TH T N s) (hc : c ≤ N) {k : Int32} (hk : ¬ (T c).1 = k) : mjF (d + 3) 138 [.ref 64, .int k] (mjW0 (eR s (c, 0, p, o, v, ag))) = some (none, mjW0 (eR s (N, nI (F2 T c).1, (T (F2 T c).2).2.1, o - 1, v, ag))) := by
  rw [e_138]
  unfold f_138 b_138_0
  rw [xg_64_0, xV_58, u_need2 hT hc hk, bN_s, xg_64_9, eR_o, xp_64_9, wR_o]
theorem u_closeN (hT : TH T N s) (hf : ¬ f = 0) (k : Int32) : mjF (d + 3) 138 [.ref 64, .int k] (mjW0 (eR s (N, f, p, o, v, ag))) = some (none, mjW0 (eR s (N, f, p, o - 1, v, ag))) := by
  rw [e_138]
  unfold f_138 b_138_0
  rw [xg_64_0, xV_58, u_needN hT hf, bN_s, xg_64_9, eR_o, xp_64_9, wR_o]
theorem F2_n0 (T : TT) (c : Nat) : ¬ nI (F2 T c).1 = 0 := by
  rw [F2_1]
  by_cases h : (T c).1 = 1
  · rw [if_pos h]; decide
  · rw [if_neg h]; decide
/-- one owner of a kind -/
theorem u_owner (hT : TH T N s) (hc : c ≤ N) {a : Nat} (ha : a < 5) (hk : (T c).1 = 12 ∨ (T c).1 = 13 ∨ (T c).1 = 3) : mjF (d + 2) 131 [.ref 64, .int (nI a)] (mjW0 (eR s (c, 0, p, o, v, ag))) = some (none, mjW0 (eR s (c + 1, 0, p, o, v, ag))) := by
  have hl : c < N := by
    rcases hk with h | h | h
    · exact lt_of hT hc h (by decide)
    · exact lt_of hT hc h (by decide)
    · exact lt_of hT hc h (by decide)
  have na : ¬ nI a = 5 := fun e => by have := (nI_eq (a := a) (b := 5) (by omega) (by omega)).mp e; omega
  rw [e_131]
  unfold f_131 b_131_0 b_131_46
  simp only [xg_64_0, xV_58, u_is hT hc, bI_s, i01, if_neg na, u_skip hT hl, bN_s]
  by_cases h12 : (T c).1 = 12
  · rw [if_pos h12]
  rw [if_neg h12]
  by_cases h13 : (T c).1 = 13
  · rw [if_pos h13]
  rw [if_neg h13, if_pos ((hk.resolve_left h12).resolve_left h13)]
theorem u_owner3 (hT : TH T N s) (hc : c ≤ N) (hk : (T c).1 = 12 ∨ (T c).1 = 13 ∨ (T c).1 = 3) : mjF (d + 2) 131 [.ref 64, .int 5] (mjW0 (eR s (c, 0, p, o, v, ag))) = some (none, mjW0 (eR s (N, nI 3, (T c).2.1, o, v, ag))) := by
  have h1 : ¬ (T c).1 = 1 := by rcases hk with h | h | h <;> rw [h] <;> decide
  rw [e_131]
  unfold f_131 b_131_0 b_131_46
  simp only [xg_64_0, xV_58, u_is hT hc, bI_s, i01, u_ref3 hT hc h1, bN_s, if_true]
  by_cases h12 : (T c).1 = 12
  · rw [if_pos h12]
  rw [if_neg h12]
  by_cases h13 : (T c).1 = 13
  · rw [if_pos h13]
  rw [if_neg h13, if_pos ((hk.resolve_left h12).resolve_left h13)]
theorem u_owner2 (hT : TH T N s) (hc : c ≤ N) (a : Int32) (hk : ¬ ((T c).1 = 12 ∨ (T c).1 = 13 ∨ (T c).1 = 3)) : mjF (d + 2) 131 [.ref 64, .int a] (mjW0 (eR s (c, 0, p, o, v, ag))) = some (none, mjW0 (eR s (N, nI (F2 T c).1, (T (F2 T c).2).2.1, o, v, ag))) := by
  rw [e_131]
  unfold f_131 b_131_0 b_131_46
  simp only [xg_64_0, xV_58, u_is hT hc, bI_s, i01, u_ref2 hT hc, bN_s]
  rw [if_neg (fun e => hk (Or.inl e)), if_neg (fun e => hk (Or.inr (Or.inl e))), if_neg (fun e => hk (Or.inr (Or.inr e)))]
theorem u_ownerN (hT : TH T N s) (hf : ¬ f = 0) (a : Int32) : mjF (d + 2) 131 [.ref 64, .int a] (mjW0 (eR s (N, f, p, o, v, ag))) = some (none, mjW0 (eR s (N, f, p, o, v, ag))) := by
  rw [e_131]
  unfold f_131 b_131_0 b_131_46
  simp only [xg_64_0, xV_58, u_is hT (Nat.le_refl N), bI_s, i01, u_refN hT hf, bN_s, hT.2.2.1]
  rw [if_neg (by decide), if_neg (by decide), if_neg (by decide)]
end MJ45
end
section
/-! ===== how a TEXT is read: a function of its tokens ===== -/
/-- an order of the reference: what, place, a, b, name -/
abbrev Row : Type := Int32 × Int32 × Int32 × Int32 × Int64
/-- behind an E: cursor, shape, its KINDS' tokens, its orders, its calls' arguments (token, how many) -/
abbrev PZ : Type := Nat × Int32 × List Nat × List Row × List (Nat × Nat)
/-- a FAULT and its token, or what is behind -/
abbrev PX : Type := (Nat × Nat) ⊕ PZ
def isOw (k : Int32) : Prop := k = 12 ∨ k = 13 ∨ k = 3
def pOwn (T : TT) : Nat → Nat → Nat → (Nat × Nat) ⊕ Nat
  | 0, _, c => .inr c
  | f + 1, k, c => if (T c).1 = 12 ∨ (T c).1 = 13 ∨ (T c).1 = 3 then (if k = 5 then .inl (3, c) else if (T (c + 1)).1 = 44 then pOwn T f (k + 1) (c + 2) else if (T (c + 1)).1 = 93 then .inr (c + 2) else .inl (F2 T (c + 1))) else .inl (F2 T c)
/-- a KIND -/
def pKind (T : TT) (c : Nat) : (Nat × Nat) ⊕ Nat := if (T c).1 = 2 then (if (T (c + 1)).1 = 91 then pOwn T 6 0 (c + 2) else .inl (F2 T (c + 1))) else .inl (F2 T c)
/-- a TYPE -/
def pType (T : TT) (c : Nat) : (Nat × Nat) ⊕ Nat := if (T c).1 = 10 then .inr (c + 1) else pKind T c
def isCmp (k : Int32) : Bool := decide (k = 200 ∨ k = 201 ∨ k = 60)
def isSum (k : Int32) : Bool := decide (k = 43 ∨ k = 45)
def isPro (k : Int32) : Bool := decide (k = 42 ∨ k = 47 ∨ k = 37)
def isVal (k : Int32) : Bool := decide (k = 3 ∨ k = 4 ∨ k = 11 ∨ k = 12 ∨ k = 14 ∨ k = 40 ∨ k = 45)
def oTwo (T : TT) (c : Nat) : Row := (9, (T c).2.1, nbr (T c).1 0, 0, 0)
/-- operators of one rank -/
def pLoop (T : TT) (sg : Int32 → Bool) (rd : Nat → Nat → PX) (kq : Nat) : Nat → PZ → PX
  | 0, z => .inr z
  | k + 1, z => if sg (T z.1).1 = true then (match rd (z.1 + 1) (kq + z.2.2.1.length) with
      | .inl e => .inl e
      | .inr y => pLoop T sg rd kq k (y.1, 0, z.2.2.1 ++ y.2.2.1, z.2.2.2.1 ++ y.2.2.2.1 ++ [oTwo T z.1], z.2.2.2.2 ++ y.2.2.2.2)) else .inr z
/-- what stands behind an ATOM -/
def pPost (T : TT) (ra : Nat → Nat → PX) (kq : Nat) : Nat → PZ → PX
  | 0, z => .inr z
  | k + 1, z => if (T z.1).1 = 20 then (match pKind T (z.1 + 1) with
      | .inl e => .inl e
      | .inr c => pPost T ra kq k (c, 0, z.2.2.1 ++ [z.1 + 1], z.2.2.2.1 ++ [(14, (T z.1).2.1, nI (kq + z.2.2.1.length), 0, 0)], z.2.2.2.2))
    else if (T z.1).1 = 46 then (if (T (z.1 + 1)).1 = 3 then (if (T (z.1 + 2)).1 = 40 then (match ra (z.1 + 2) (kq + z.2.2.1.length) with
          | .inl e => .inl e
          | .inr y => pPost T ra kq k (y.1, 3, z.2.2.1 ++ y.2.2.1, z.2.2.2.1 ++ y.2.2.2.1, z.2.2.2.2 ++ y.2.2.2.2))
        else pPost T ra kq k (z.1 + 2, 2, z.2.2.1, z.2.2.2.1 ++ [(10, (T (z.1 + 1)).2.1, 0, 0, (T (z.1 + 1)).2.2.1)], z.2.2.2.2))
      else .inl (F2 T (z.1 + 1)))
    else .inr z
/-- ARGUMENTS from number k on: behind the ) , how many -/
def pArgs (T : TT) (rv : Nat → Nat → PX) (kq : Nat) : Nat → Nat → PZ → (Nat × Nat) ⊕ (Nat × PZ)
  | 0, _, _ => .inl (0, 0)
  | f + 1, k, z => if k = 6 then .inl (if isVal (T z.1).1 = true then (3, z.1) else F2 T z.1) else (match rv z.1 (kq + z.2.2.1.length) with
      | .inl e => .inl e
      | .inr y => if (T y.1).1 = 44 then pArgs T rv kq f (k + 1) (y.1 + 1, 0, z.2.2.1 ++ y.2.2.1, z.2.2.2.1 ++ y.2.2.2.1 ++ [(12, (T z.1).2.1, nI k, 0, 0)], z.2.2.2.2 ++ y.2.2.2.2)
        else if (T y.1).1 = 41 then .inr (k + 1, y.1 + 1, 0, z.2.2.1 ++ y.2.2.1, z.2.2.2.1 ++ y.2.2.2.1 ++ [(12, (T z.1).2.1, nI k, 0, 0)], z.2.2.2.2 ++ y.2.2.2.2)
        else .inl (F2 T y.1))
/-- a call's ( is at c, its NAME ahead of it -/
def oAsk (T : TT) (c m : Nat) : Row := (11, (T (c - 1)).2.1, 0, nI m, (T (c - 1)).2.2.1)
def oCall (T : TT) (c m : Nat) : Row := (13, (T (c - 1)).2.1, nI m, 0, (T (c - 1)).2.2.1)
def pCall (T : TT) (rv : Nat → Nat → PX) (o c kq : Nat) : PX :=
  if o = 12 then .inl (3, c) else if (T (c + 1)).1 = 41 then .inr (c + 2, 3, [], [oAsk T c 0, oCall T c 0], [(c, 0)])
  else (match pArgs T rv kq 7 0 (c + 1, 0, [], [], []) with
    | .inl e => .inl e
    | .inr y => .inr (y.2.1, 3, y.2.2.2.1, oAsk T c y.1 :: (y.2.2.2.2.1 ++ [oCall T c y.1]), y.2.2.2.2.2 ++ [(c, y.1)]))
def pAtom (T : TT) (rv : Nat → Nat → PX) (o c kq : Nat) : PX :=
  if (T c).1 = 3 then .inr (c + 1, 1, [], [(6, (T c).2.1, 0, 0, (T c).2.2.1)], [])
  else if (T c).1 = 4 then .inr (c + 1, 0, [], [(3, (T c).2.1, (T c).2.2.2, 0, 0)], [])
  else if (T c).1 = 11 then .inr (c + 1, 0, [], [(4, (T c).2.1, 0, 0, 0)], [])
  else if (T c).1 = 12 then .inr (c + 1, 0, [], [(5, (T c).2.1, 0, 0, 0)], [])
  else if (T c).1 = 14 then (match pKind T (c + 1) with
    | .inl e => .inl e
    | .inr c' => .inr (c', 0, [c + 1], [(7, (T c).2.1, nI kq, 0, 0)], []))
  else if (T c).1 = 40 then (if o = 12 then .inl (3, c) else (match rv (c + 1) kq with
    | .inl e => .inl e
    | .inr y => if (T y.1).1 = 41 then .inr (y.1 + 1, 0, y.2.2.1, y.2.2.2.1 ++ [(30, -1, 0, 0, 0)], y.2.2.2.2) else .inl (F2 T y.1)))
  else .inl (F2 T c)
/-- tags: 0 E, 1 SUM, 2 PRODUCT, 3 UNIT, 4 POST, 5 ATOM, 6 a call's ( -/
def prE (T : TT) (M : Nat) : Nat → Nat → Nat → Nat → Nat → PX
  | 0, _, _, _, _ => .inl (0, 0)
  | f + 1, 0, o, c, kq => (match prE T M f 1 o c kq with
    | .inl e => .inl e
    | .inr z => if isCmp (T z.1).1 = true then (match prE T M f 1 o (z.1 + 1) (kq + z.2.2.1.length) with
        | .inl e => .inl e
        | .inr y => .inr (y.1, 0, z.2.2.1 ++ y.2.2.1, z.2.2.2.1 ++ y.2.2.2.1 ++ [oTwo T z.1], z.2.2.2.2 ++ y.2.2.2.2)) else .inr z)
  | f + 1, 1, o, c, kq => (match prE T M f 2 o c kq with
    | .inl e => .inl e
    | .inr z => pLoop T isSum (prE T M f 2 o) kq M z)
  | f + 1, 2, o, c, kq => (match prE T M f 3 o c kq with
    | .inl e => .inl e
    | .inr z => pLoop T isPro (prE T M f 3 o) kq M z)
  | f + 1, 3, o, c, kq => if (T c).1 = 45 then (if o = 12 then .inl (3, c) else (match prE T M f 3 (o + 1) (c + 1) kq with
    | .inl e => .inl e
    | .inr y => .inr (y.1, 0, y.2.2.1, y.2.2.2.1 ++ [(8, (T c).2.1, 0, 0, 0)], y.2.2.2.2))) else prE T M f 4 o c kq
  | f + 1, 4, o, c, kq => (match prE T M f 5 o c kq with
    | .inl e => .inl e
    | .inr z => pPost T (prE T M f 6 o) kq M z)
  | f + 1, 5, o, c, kq => pAtom T (prE T M f 0 (o + 1)) o c kq
  | f + 1, _, o, c, kq => pCall T (prE T M f 0 (o + 1)) o c kq
section MJ46
variable {T : TT} {M f o c kq : Nat}
theorem prE_0 : prE T M (f + 1) 0 o c kq = (match prE T M f 1 o c kq with
    | .inl e => .inl e
    | .inr z => if isCmp (T z.1).1 = true then (match prE T M f 1 o (z.1 + 1) (kq + z.2.2.1.length) with
        | .inl e => .inl e
        | .inr y => .inr (y.1, 0, z.2.2.1 ++ y.2.2.1, z.2.2.2.1 ++ y.2.2.2.1 ++ [oTwo T z.1], z.2.2.2.2 ++ y.2.2.2.2)) else .inr z) := rfl
theorem prE_1 : prE T M (f + 1) 1 o c kq = (match prE T M f 2 o c kq with
    | .inl e => .inl e
    | .inr z => pLoop T isSum (prE T M f 2 o) kq M z) := rfl
theorem prE_2 : prE T M (f + 1) 2 o c kq = (match prE T M f 3 o c kq with
    | .inl e => .inl e
    | .inr z => pLoop T isPro (prE T M f 3 o) kq M z) := rfl
theorem prE_3 : prE T M (f + 1) 3 o c kq = if (T c).1 = 45 then (if o = 12 then .inl (3, c) else (match prE T M f 3 (o + 1) (c + 1) kq with
    | .inl e => .inl e
    | .inr y => .inr (y.1, 0, y.2.2.1, y.2.2.2.1 ++ [(8, (T c).2.1, 0, 0, 0)], y.2.2.2.2))) else prE T M f 4 o c kq := rfl
theorem prE_4 : prE T M (f + 1) 4 o c kq = (match prE T M f 5 o c kq with
    | .inl e => .inl e
    | .inr z => pPost T (prE T M f 6 o) kq M z) := rfl
theorem prE_5 : prE T M (f + 1) 5 o c kq = pAtom T (prE T M f 0 (o + 1)) o c kq := rfl
theorem prE_6 : prE T M (f + 1) 6 o c kq = pCall T (prE T M f 0 (o + 1)) o c kq := rfl
end MJ46
/-! ===== the class reads a KIND so ===== -/
/-- behind a step of the reader that gives nothing back: as the result says, or bad -/
def uOK (s : mjSt3) (T : TT) (N : Nat) (u : mjU) (p o v : Int32) (ag : Nat → Int32) (r : (Nat × Nat) ⊕ Nat) : Prop := match r with
  | .inl e => (e.1 = 1 ∨ e.1 = 2 ∨ e.1 = 3) ∧ u = some (none, mjW0 (eR s (N, nI e.1, (T e.2).2.1, o, v, ag)))
  | .inr c' => c' ≤ N ∧ u = some (none, mjW0 (eR s (c', 0, p, o, v, ag)))
theorem F2_in (T : TT) (c : Nat) : (F2 T c).1 = 1 ∨ (F2 T c).1 = 2 ∨ (F2 T c).1 = 3 := by
  unfold F2
  by_cases h : (T c).1 = 1
  · rw [if_pos h]; exact Or.inl rfl
  · rw [if_neg h]; exact Or.inr (Or.inl rfl)
theorem in_n0 {e : Nat} (h : e = 1 ∨ e = 2 ∨ e = 3) : ¬ nI e = 0 := by
  rcases h with h | h | h <;> rw [h] <;> decide
section MJ46b
variable {T : TT} {d N : Nat} {s : mjSt3} {f p o v : Int32} {ag : Nat → Int32}
theorem L130_S (R : mjR) (n : Nat) (a : Nat) (b : Int32) (hp : mjH) : L_130_48 R (n + 1) a b hp = b_130_48 R (L_130_48 R n) a b hp := rfl
/-- the loop over further owners, in a bad state -/
theorem lq_130N (hT : TH T N s) (hf : ¬ f = 0) (q : Nat) (b : Int32) : L_130_48 (mjF (d + 2)) (q + 1) 64 b (mjW0 (eR s (N, f, p, o, v, ag))) = some (none, mjW0 (eR s (N, f, p, o, v, ag))) := by
  rw [L130_S]
  unfold b_130_48 b_130_83
  simp only [xg_64_0, xV_58, u_is hT (Nat.le_refl N), bI_s, i01, u_needN hT hf, bN_s, hT.2.2.1]
  rw [if_neg (show ¬ (0 : Int32) = 44 by decide), ite_self]
theorem x_own (hT : TH T N s) : ∀ (f k c q : Nat), f + k = 5 → k < 5 → f + 1 < q → c < N → uOK s T N (L_130_48 (mjF (d + 2)) q 64 (nI (k + 1)) (mjW0 (eR s (c + 1, 0, p, o, v, ag)))) p o v ag (if (T (c + 1)).1 = 44 then pOwn T f (k + 1) (c + 2) else if (T (c + 1)).1 = 93 then .inr (c + 2) else .inl (F2 T (c + 1)))
  | 0, k, c, q, hk, h5, hq, hc => by omega
  | f + 1, k, c, q, hk, h5, hq, hc => by
    obtain ⟨q, rfl⟩ : ∃ n, q = n + 1 := ⟨q - 1, by omega⟩
    rw [L130_S]
    unfold b_130_48
    rw [if_neg (show ¬ (5 : Int32) < nI (k + 1) from nI_nlt (a := 5) (by omega) (by omega))]
    rw [xg_64_0, xV_58, u_is hT (c := c + 1) (by omega), bI_s, i01]
    by_cases h44 : (T (c + 1)).1 = 44
    · rw [if_pos h44, if_pos h44, xg_64_0, xV_58]
      have hl : c + 1 < N := lt_of hT (by omega) h44 (by decide)
      rw [u_skip hT hl, bN_s, xV_64]
      unfold pOwn
      by_cases ho : (T (c + 2)).1 = 12 ∨ (T (c + 2)).1 = 13 ∨ (T (c + 2)).1 = 3
      · rw [if_pos ho]
        by_cases k5 : k + 1 = 5
        · obtain ⟨q, rfl⟩ : ∃ n, q = n + 1 := ⟨q - 1, by omega⟩
          rw [if_pos k5, k5, show nI 5 = (5 : Int32) from rfl, u_owner3 hT (c := c + 1 + 1) (by omega) ho, bN_s, lq_130N hT (by decide)]
          exact ⟨Or.inr (Or.inr rfl), rfl⟩
        · rw [if_neg k5, u_owner hT (c := c + 1 + 1) (by omega) (by omega) ho, bN_s, nI_1]
          have hl2 : c + 2 < N := by
            rcases ho with h | h | h
            · exact lt_of hT (by omega) h (by decide)
            · exact lt_of hT (by omega) h (by decide)
            · exact lt_of hT (by omega) h (by decide)
          exact x_own hT f (k + 1) (c + 2) q (by omega) (by omega) (by omega) hl2
      · obtain ⟨q, rfl⟩ : ∃ n, q = n + 1 := ⟨q - 1, by omega⟩
        rw [if_neg ho, u_owner2 hT (c := c + 1 + 1) (by omega) _ ho, bN_s, lq_130N hT (F2_n0 T _)]
        exact ⟨F2_in T _, rfl⟩
    · rw [if_neg h44, if_neg h44]
      unfold b_130_83
      rw [xg_64_0, xV_58]
      by_cases h93 : (T (c + 1)).1 = 93
      · have hl : c + 1 < N := lt_of hT (by omega) h93 (by decide)
        rw [if_pos h93, u_need hT (by omega) h93 (by decide), bN_s]
        exact ⟨by omega, rfl⟩
      · rw [if_neg h93, u_need2 hT (by omega) h93, bN_s]
        exact ⟨F2_in T _, rfl⟩
/-- readType(false) -/
theorem x_kind (hT : TH T N s) {c : Nat} (hc : c ≤ N) : uOK s T N (mjF (d + 3) 130 [.ref 64, .int 0] (mjW0 (eR s (c, 0, p, o, v, ag)))) p o v ag (pKind T c) := by
  rw [e_130]
  unfold f_130 b_130_0
  rw [if_pos rfl]
  unfold b_130_24 pKind
  rw [xg_64_0, xV_58, show mjN = 99999999 + 1 from rfl]
  by_cases h2 : (T c).1 = 2
  · have hl := lt_of hT hc h2 (by decide)
    rw [if_pos h2, u_need hT hc h2 (by decide), bN_s, xg_64_0, xV_58]
    by_cases h91 : (T (c + 1)).1 = 91
    · have hl2 := lt_of hT (c := c + 1) (by omega) h91 (by decide)
      rw [if_pos h91, u_need hT (by omega) h91 (by decide), bN_s, xV_64]
      unfold pOwn
      by_cases ho : (T (c + 2)).1 = 12 ∨ (T (c + 2)).1 = 13 ∨ (T (c + 2)).1 = 3
      · have hl3 : c + 2 < N := by
          rcases ho with h | h | h
          · exact lt_of hT (by omega) h (by decide)
          · exact lt_of hT (by omega) h (by decide)
          · exact lt_of hT (by omega) h (by decide)
        have e : mjF (d + 2) 131 [.ref 64, .int 0] (mjW0 (eR s (c + 1 + 1, 0, p, o, v, ag))) = _ := u_owner (a := 0) hT (by omega) (by decide) ho
        rw [if_pos ho, if_neg (by decide), e, bN_s]
        exact x_own hT 5 0 (c + 2) _ (by omega) (by omega) (by omega) hl3
      · rw [if_neg ho, u_owner2 hT (c := c + 1 + 1) (by omega) _ ho, bN_s, lq_130N hT (F2_n0 T _)]
        exact ⟨F2_in T _, rfl⟩
    · rw [if_neg h91, u_need2 hT (by omega) h91, bN_s, xV_64, u_ownerN hT (F2_n0 T _), bN_s, lq_130N hT (F2_n0 T _)]
      exact ⟨F2_in T _, rfl⟩
  · rw [if_neg h2, u_need2 hT hc h2, bN_s, xg_64_0, xV_58, u_needN hT (F2_n0 T _), bN_s, xV_64, u_ownerN hT (F2_n0 T _), bN_s, lq_130N hT (F2_n0 T _)]
    exact ⟨F2_in T _, rfl⟩
theorem x_kindN (hT : TH T N s) (hf : ¬ f = 0) : mjF (d + 3) 130 [.ref 64, .int 0] (mjW0 (eR s (N, f, p, o, v, ag))) = some (none, mjW0 (eR s (N, f, p, o, v, ag))) := by
  rw [e_130]
  unfold f_130 b_130_0
  rw [if_pos rfl]
  unfold b_130_24
  rw [xg_64_0, xV_58, show mjN = 99999999 + 1 from rfl, u_needN hT hf, bN_s, xg_64_0, xV_58, u_needN hT hf, bN_s, xV_64, u_ownerN hT hf, bN_s, lq_130N hT hf]
/-- readType(true) -/
theorem x_type (hT : TH T N s) {c : Nat} (hc : c ≤ N) : uOK s T N (mjF (d + 3) 130 [.ref 64, .int 1] (mjW0 (eR s (c, 0, p, o, v, ag)))) p o v ag (pType T c) := by
  have h := x_kind (d := d) (p := p) (o := o) (v := v) (ag := ag) hT hc
  rw [e_130] at h ⊢
  unfold f_130 b_130_0 at h ⊢
  rw [if_pos rfl] at h
  rw [if_neg (by decide), xg_64_0, xV_58, u_is hT hc, bI_s, i01]
  unfold pType
  by_cases h10 : (T c).1 = 10
  · have hl := lt_of hT hc h10 (by decide)
    rw [if_pos h10, if_pos h10, xg_64_0, xV_58, u_skip hT hl, bN_s]
    exact ⟨hl, rfl⟩
  · rw [if_neg h10, if_neg h10]
    exact h
theorem x_typeN (hT : TH T N s) (hf : ¬ f = 0) : mjF (d + 3) 130 [.ref 64, .int 1] (mjW0 (eR s (N, f, p, o, v, ag))) = some (none, mjW0 (eR s (N, f, p, o, v, ag))) := by
  have h := x_kindN (d := d) (p := p) (o := o) (v := v) (ag := ag) hT hf
  rw [e_130] at h ⊢
  unfold f_130 b_130_0 at h ⊢
  rw [if_pos rfl] at h
  rw [if_neg (by decide), xg_64_0, xV_58, u_is hT (Nat.le_refl N), bI_s, i01, if_neg (show ¬ (T N).1 = 10 from fun e => absurd (hT.2.2.1.symm.trans e) (by decide))]
  exact h
end MJ46b
end
section
/-! ===== the class reads an E so ===== -/
/-- arguments' numbers put into their row -/
def rAg (l : List (Nat × Nat)) (ag : Nat → Int32) : Nat → Int32 := l.foldl (fun a e => upd a e.1 (nI e.2)) ag
theorem rAg_app (l m : List (Nat × Nat)) (ag : Nat → Int32) : rAg (l ++ m) ag = rAg m (rAg l ag) := List.foldl_append
/-- behind a step that reads an E or a part of it -/
def eOK (s : mjSt3) (T : TT) (N : Nat) (u : mjU) (p o v : Int32) (ag : Nat → Int32) (r : PX) : Prop := match r with
  | .inl e => (e.1 = 1 ∨ e.1 = 2 ∨ e.1 = 3) ∧ ∃ (w o' : Int32) (ag' : Nat → Int32), u = some (some (.int w), mjW0 (eR s (N, nI e.1, (T e.2).2.1, o', v, ag')))
  | .inr z => z.1 ≤ N ∧ u = some (some (.int z.2.1), mjW0 (eR s (z.1, 0, p, o, v, rAg z.2.2.2.2 ag)))
section MJ47
variable {T : TT} {d N c : Nat} {s : mjSt3} {f p o v : Int32} {ag : Nat → Int32}
theorem u_size (hT : TH T N s) (hc : c ≤ N) : mjF (d + 1) 171 [.ref 58] (mjW0 (eR s (c, f, p, o, v, ag))) = some (some (.int (nI (N + 1))), mjW0 (eR s (c, f, p, o, v, ag))) := r_size hT.tb (show (c, f, p, o, v, ag).1 ≤ N from hc)
theorem u_now (hT : TH T N s) (hc : c ≤ N) : mjF (d + 1) 167 [.ref 58] (mjW0 (eR s (c, f, p, o, v, ag))) = some (some (.int (nI c)), mjW0 (eR s (c, f, p, o, v, ag))) := r_now hT.tb (show (c, f, p, o, v, ag).1 ≤ N from hc)
theorem dec_1 {P : Prop} [Decidable P] : (if decide P = true then (1 : Int32) else 0) = if P then 1 else 0 := by
  by_cases h : P <;> simp [h]
theorem u_cmp (hT : TH T N s) (hc : c ≤ N) : mjF (d + 2) 177 [.ref 58] (mjW0 (eR s (c, f, p, o, v, ag))) = some (some (.int (if isCmp (T c).1 = true then 1 else 0)), mjW0 (eR s (c, f, p, o, v, ag))) := by
  rw [r_compare hT.tb (show (c, f, p, o, v, ag).1 ≤ N from hc), (hT.2.2.2 c hc).1]
  unfold isCmp
  rw [dec_1]
theorem u_sum (hT : TH T N s) (hc : c ≤ N) : mjF (d + 2) 176 [.ref 58] (mjW0 (eR s (c, f, p, o, v, ag))) = some (some (.int (if isSum (T c).1 = true then 1 else 0)), mjW0 (eR s (c, f, p, o, v, ag))) := by
  rw [r_sum hT.tb (show (c, f, p, o, v, ag).1 ≤ N from hc), (hT.2.2.2 c hc).1]
  unfold isSum
  rw [dec_1]
theorem u_pro (hT : TH T N s) (hc : c ≤ N) : mjF (d + 2) 175 [.ref 58] (mjW0 (eR s (c, f, p, o, v, ag))) = some (some (.int (if isPro (T c).1 = true then 1 else 0)), mjW0 (eR s (c, f, p, o, v, ag))) := by
  rw [r_product hT.tb (show (c, f, p, o, v, ag).1 ≤ N from hc), (hT.2.2.2 c hc).1]
  unfold isPro
  rw [dec_1]
theorem u_val (hT : TH T N s) (hc : c ≤ N) : mjF (d + 2) 149 [.ref 64] (mjW0 (eR s (c, f, p, o, v, ag))) = some (some (.int (if isVal (T c).1 = true then 1 else 0)), mjW0 (eR s (c, f, p, o, v, ag))) := by
  rw [e_149]
  unfold f_149 b_149_0 b_149_72
  rw [xg_64_0, xV_58, u_kind hT hc, bI_s]
  unfold isVal
  rw [dec_1]
  generalize (T c).1 = k
  by_cases h1 : k = 3
  · rw [if_pos h1, if_pos (Or.inl h1)]
  by_cases h2 : k = 4
  · rw [if_neg h1, if_pos h2, if_pos (Or.inr (Or.inl h2))]
  by_cases h3 : k = 11
  · rw [if_neg h1, if_neg h2, if_pos h3, if_pos (Or.inr (Or.inr (Or.inl h3)))]
  by_cases h4 : k = 12
  · rw [if_neg h1, if_neg h2, if_neg h3, if_pos h4, if_pos (Or.inr (Or.inr (Or.inr (Or.inl h4))))]
  by_cases h5 : k = 14
  · rw [if_neg h1, if_neg h2, if_neg h3, if_neg h4, if_pos h5, if_pos (Or.inr (Or.inr (Or.inr (Or.inr (Or.inl h5)))))]
  by_cases h6 : k = 40
  · rw [if_neg h1, if_neg h2, if_neg h3, if_neg h4, if_neg h5, if_pos h6, if_pos (Or.inr (Or.inr (Or.inr (Or.inr (Or.inr (Or.inl h6))))))]
  by_cases h7 : k = 45
  · rw [if_neg h1, if_neg h2, if_neg h3, if_neg h4, if_neg h5, if_neg h6, if_pos h7, if_pos (Or.inr (Or.inr (Or.inr (Or.inr (Or.inr (Or.inr h7))))))]
  rw [if_neg h1, if_neg h2, if_neg h3, if_neg h4, if_neg h5, if_neg h6, if_neg h7, if_neg (fun q => q.elim h1 (fun q => q.elim h2 (fun q => q.elim h3 (fun q => q.elim h4 (fun q => q.elim h5 (fun q => q.elim h6 h7))))))]
theorem u_setArg (hT : TH T N s) {t : Nat} (ht : t ≤ N) (m : Int32) : mjF (d + 1) 174 [.ref 58, .int (nI t), .int m] (mjW0 (eR s (c, f, p, o, v, ag))) = some (none, mjW0 (eR s (c, f, p, o, v, upd ag t m))) := by
  have h3 := hT.2.1
  rw [e_174]
  unfold f_174 b_174_0
  rw [if_neg (nI_pos (by omega)), xg_58_5, eR_5, hT.1, if_neg (nI_ge (by omega) (by omega)), xg_58_4, xs_63, if_pos (mj_in_nI (by omega) (by decide)), nI_clamp (by omega), eR_63, wR_a]
/-! in a bad state nothing is read -/
theorem kN (hT : TH T N s) {k : Int32} (h : ¬ k = 0) : ¬ (T N).1 = k := fun e => h (e.symm.trans hT.2.2.1)
theorem n_atom (hT : TH T N s) (hf : ¬ f = 0) : mjF (d + 2) 147 [.ref 64] (mjW0 (eR s (N, f, p, o, v, ag))) = some (some (.int 0), mjW0 (eR s (N, f, p, o, v, ag))) := by
  rw [e_147]
  unfold f_147 b_147_0
  rw [xg_64_0, xV_58, u_kind hT (Nat.le_refl N), bI_s, if_neg (kN hT (by decide)), if_neg (kN hT (by decide)), if_neg (kN hT (by decide)), if_neg (kN hT (by decide)), if_neg (kN hT (by decide)), if_neg (kN hT (by decide)), xg_64_0, xV_58, u_refN hT hf, bN_s]
theorem L146_S (R : mjR) (n : Nat) (a : Nat) (b c : Int32) (hp : mjH) : L_146_7 R (n + 1) a b c hp = b_146_7 R (L_146_7 R n) a b c hp := rfl
theorem L143_S (R : mjR) (n : Nat) (a : Nat) (b c : Int32) (hp : mjH) : L_143_7 R (n + 1) a b c hp = b_143_7 R (L_143_7 R n) a b c hp := rfl
theorem L144_S (R : mjR) (n : Nat) (a : Nat) (b c : Int32) (hp : mjH) : L_144_7 R (n + 1) a b c hp = b_144_7 R (L_144_7 R n) a b c hp := rfl
theorem L148_S (R : mjR) (n : Nat) (a : Nat) (b c e g : Int32) (hp : mjH) : L_148_37 R (n + 1) a b c e g hp = b_148_37 R (L_148_37 R n) a b c e g hp := rfl
theorem n_post7 (hT : TH T N s) (q : Nat) (b i : Int32) : L_146_7 (mjF (d + 2)) (q + 1) 64 b i (mjW0 (eR s (N, f, p, o, v, ag))) = some (some (.int b), mjW0 (eR s (N, f, p, o, v, ag))) := by
  rw [L146_S]
  unfold b_146_7 b_146_113
  rw [xg_64_0, xV_58, u_size hT (Nat.le_refl N), bI_s, xg_64_0, xV_58, u_is hT (Nat.le_refl N), bI_s, i01, if_neg (kN hT (by decide)), xg_64_0, xV_58, u_is hT (Nat.le_refl N), bI_s, i01, if_neg (kN hT (by decide)), ite_self]
theorem n_post (hT : TH T N s) (hf : ¬ f = 0) : mjF (d + 3) 146 [.ref 64] (mjW0 (eR s (N, f, p, o, v, ag))) = some (some (.int 0), mjW0 (eR s (N, f, p, o, v, ag))) := by
  rw [e_146]
  unfold f_146 b_146_0
  rw [xV_64, n_atom hT hf, bI_s, show mjN = 99999999 + 1 from rfl, n_post7 hT]
theorem n_unit (hT : TH T N s) (hf : ¬ f = 0) : mjF (d + 4) 145 [.ref 64] (mjW0 (eR s (N, f, p, o, v, ag))) = some (some (.int 0), mjW0 (eR s (N, f, p, o, v, ag))) := by
  rw [e_145]
  unfold f_145 b_145_0
  rw [xg_64_0, xV_58, u_is hT (Nat.le_refl N), bI_s, i01, if_neg (kN hT (by decide)), xV_64, n_post hT hf, bI_s]
theorem sg0 : isSum 0 = false ∧ isPro 0 = false ∧ isCmp 0 = false ∧ isVal 0 = false := by decide
theorem n_pro7 (hT : TH T N s) (q : Nat) (b i : Int32) : L_144_7 (mjF (d + 2)) (q + 1) 64 b i (mjW0 (eR s (N, f, p, o, v, ag))) = some (some (.int b), mjW0 (eR s (N, f, p, o, v, ag))) := by
  rw [L144_S]
  unfold b_144_7 b_144_48
  rw [xg_64_0, xV_58, u_size hT (Nat.le_refl N), bI_s, xg_64_0, xV_58, u_pro hT (Nat.le_refl N), bI_s, i01, hT.2.2.1, sg0.2.1, if_neg (show ¬ false = true by decide), ite_self]
theorem n_pro (hT : TH T N s) (hf : ¬ f = 0) : mjF (d + 5) 144 [.ref 64] (mjW0 (eR s (N, f, p, o, v, ag))) = some (some (.int 0), mjW0 (eR s (N, f, p, o, v, ag))) := by
  rw [e_144]
  unfold f_144 b_144_0
  rw [xV_64, n_unit hT hf, bI_s, show mjN = 99999999 + 1 from rfl, n_pro7 hT]
theorem n_sum7 (hT : TH T N s) (q : Nat) (b i : Int32) : L_143_7 (mjF (d + 2)) (q + 1) 64 b i (mjW0 (eR s (N, f, p, o, v, ag))) = some (some (.int b), mjW0 (eR s (N, f, p, o, v, ag))) := by
  rw [L143_S]
  unfold b_143_7 b_143_48
  rw [xg_64_0, xV_58, u_size hT (Nat.le_refl N), bI_s, xg_64_0, xV_58, u_sum hT (Nat.le_refl N), bI_s, i01, hT.2.2.1, sg0.1, if_neg (show ¬ false = true by decide), ite_self]
theorem n_sum (hT : TH T N s) (hf : ¬ f = 0) : mjF (d + 6) 143 [.ref 64] (mjW0 (eR s (N, f, p, o, v, ag))) = some (some (.int 0), mjW0 (eR s (N, f, p, o, v, ag))) := by
  rw [e_143]
  unfold f_143 b_143_0
  rw [xV_64, n_pro hT hf, bI_s, show mjN = 99999999 + 1 from rfl, n_sum7 hT]
theorem n_value (hT : TH T N s) (hf : ¬ f = 0) : mjF (d + 7) 142 [.ref 64] (mjW0 (eR s (N, f, p, o, v, ag))) = some (some (.int 0), mjW0 (eR s (N, f, p, o, v, ag))) := by
  rw [e_142]
  unfold f_142 b_142_0
  rw [xV_64, n_sum hT hf, bI_s, xg_64_0, xV_58, u_cmp hT (Nat.le_refl N), bI_s, i01, hT.2.2.1, sg0.2.2.1, if_neg (show ¬ false = true by decide)]
theorem n_args (hT : TH T N s) (hf : ¬ f = 0) {t : Nat} (ht : t ≤ N) (q : Nat) (m k : Int32) : L_148_37 (mjF (d + 3)) (q + 1) 64 (nI t) m 0 k (mjW0 (eR s (N, f, p, o, v, ag))) = some (some (.int 3), mjW0 (eR s (N, f, p, o - 1, v, upd ag t m))) := by
  rw [L148_S]
  unfold b_148_37 b_148_105
  rw [xV_64, u_closeN hT hf, bN_s, xg_64_0, xV_58, u_setArg hT ht, bN_s, if_pos rfl, ite_self]
/-! the loops -/
theorem lq_143 (hT : TH T N s) {D kq q0 : Nat} {rd : Nat → Nat → PX} (hD : 3 ≤ D) (hr : ∀ (c kq : Nat) (ag : Nat → Int32), c ≤ N → eOK s T N (mjF D 144 [.ref 64] (mjW0 (eR s (c, 0, p, nI q0, v, ag)))) p (nI q0) v ag (rd c kq)) :
    ∀ (k i q : Nat) (z : PZ), i + k = N + 1 → k < q → z.1 ≤ N → eOK s T N (L_143_7 (mjF D) q 64 z.2.1 (nI i) (mjW0 (eR s (z.1, 0, p, nI q0, v, rAg z.2.2.2.2 ag)))) p (nI q0) v ag (pLoop T isSum rd kq k z) := by
  obtain ⟨D, rfl⟩ : ∃ e, D = e + 3 := ⟨D - 3, by omega⟩
  have h3 := hT.2.1
  intro k
  induction k with
  | zero =>
    intro i q z hi hq hz
    obtain ⟨q, rfl⟩ : ∃ n, q = n + 1 := ⟨q - 1, by omega⟩
    rw [L143_S]
    unfold b_143_7 b_143_48 pLoop
    rw [xg_64_0, xV_58, u_size hT hz, bI_s, if_pos (nI_le (by omega) (by omega))]
    exact ⟨hz, rfl⟩
  | succ k ih =>
    intro i q z hi hq hz
    obtain ⟨q, rfl⟩ : ∃ n, q = n + 1 := ⟨q - 1, by omega⟩
    rw [L143_S]
    unfold b_143_7 b_143_48 pLoop
    rw [xg_64_0, xV_58, u_size hT hz, bI_s, if_neg (nI_ge (by omega) (by omega)), xg_64_0, xV_58, u_sum hT hz, bI_s, i01]
    by_cases g : isSum (T z.1).1 = true
    · have hl : z.1 < N := lt_of hT hz rfl (fun e => by rw [e] at g; exact absurd g (by decide))
      rw [if_pos g, if_pos g, xg_64_0, xV_58, u_skip hT hl, bN_s, xV_64]
      have h := hr (z.1 + 1) (kq + z.2.2.1.length) (rAg z.2.2.2.2 ag) hl
      cases hd : rd (z.1 + 1) (kq + z.2.2.1.length) with
      | inl e =>
        rw [hd] at h
        obtain ⟨he, w, o', ag', h⟩ := h
        obtain ⟨q, rfl⟩ : ∃ n, q = n + 1 := ⟨q - 1, by omega⟩
        rw [h, bI_s, n_sum7 hT]
        exact ⟨he, _, _, _, rfl⟩
      | inr y =>
        rw [hd] at h
        obtain ⟨hy, h⟩ := h
        rw [h, bI_s, nI_1, ← rAg_app]
        exact ih (i + 1) q (y.1, 0, z.2.2.1 ++ y.2.2.1, z.2.2.2.1 ++ y.2.2.2.1 ++ [oTwo T z.1], z.2.2.2.2 ++ y.2.2.2.2) (by omega) (by omega) hy
    · rw [if_neg g, if_neg g]
      exact ⟨hz, rfl⟩
theorem lq_144 (hT : TH T N s) {D kq q0 : Nat} {rd : Nat → Nat → PX} (hD : 3 ≤ D) (hr : ∀ (c kq : Nat) (ag : Nat → Int32), c ≤ N → eOK s T N (mjF D 145 [.ref 64] (mjW0 (eR s (c, 0, p, nI q0, v, ag)))) p (nI q0) v ag (rd c kq)) :
    ∀ (k i q : Nat) (z : PZ), i + k = N + 1 → k < q → z.1 ≤ N → eOK s T N (L_144_7 (mjF D) q 64 z.2.1 (nI i) (mjW0 (eR s (z.1, 0, p, nI q0, v, rAg z.2.2.2.2 ag)))) p (nI q0) v ag (pLoop T isPro rd kq k z) := by
  obtain ⟨D, rfl⟩ : ∃ e, D = e + 3 := ⟨D - 3, by omega⟩
  have h3 := hT.2.1
  intro k
  induction k with
  | zero =>
    intro i q z hi hq hz
    obtain ⟨q, rfl⟩ : ∃ n, q = n + 1 := ⟨q - 1, by omega⟩
    rw [L144_S]
    unfold b_144_7 b_144_48 pLoop
    rw [xg_64_0, xV_58, u_size hT hz, bI_s, if_pos (nI_le (by omega) (by omega))]
    exact ⟨hz, rfl⟩
  | succ k ih =>
    intro i q z hi hq hz
    obtain ⟨q, rfl⟩ : ∃ n, q = n + 1 := ⟨q - 1, by omega⟩
    rw [L144_S]
    unfold b_144_7 b_144_48 pLoop
    rw [xg_64_0, xV_58, u_size hT hz, bI_s, if_neg (nI_ge (by omega) (by omega)), xg_64_0, xV_58, u_pro hT hz, bI_s, i01]
    by_cases g : isPro (T z.1).1 = true
    · have hl : z.1 < N := lt_of hT hz rfl (fun e => by rw [e] at g; exact absurd g (by decide))
      rw [if_pos g, if_pos g, xg_64_0, xV_58, u_skip hT hl, bN_s, xV_64]
      have h := hr (z.1 + 1) (kq + z.2.2.1.length) (rAg z.2.2.2.2 ag) hl
      cases hd : rd (z.1 + 1) (kq + z.2.2.1.length) with
      | inl e =>
        rw [hd] at h
        obtain ⟨he, w, o', ag', h⟩ := h
        obtain ⟨q, rfl⟩ : ∃ n, q = n + 1 := ⟨q - 1, by omega⟩
        rw [h, bI_s, n_pro7 hT]
        exact ⟨he, _, _, _, rfl⟩
      | inr y =>
        rw [hd] at h
        obtain ⟨hy, h⟩ := h
        rw [h, bI_s, nI_1, ← rAg_app]
        exact ih (i + 1) q (y.1, 0, z.2.2.1 ++ y.2.2.1, z.2.2.2.1 ++ y.2.2.2.1 ++ [oTwo T z.1], z.2.2.2.2 ++ y.2.2.2.2) (by omega) (by omega) hy
    · rw [if_neg g, if_neg g]
      exact ⟨hz, rfl⟩
end MJ47
end
section
/-! ===== the class reads an E so: all parts of it ===== -/
section MJ48
variable {T : TT} {d N c : Nat} {s : mjSt3} {f p o v : Int32} {ag : Nat → Int32}
theorem lq_146 (hT : TH T N s) {D kq q0 : Nat} {ra : Nat → Nat → PX} (hD : 4 ≤ D) (hr : ∀ (c kq : Nat) (ag : Nat → Int32), c ≤ N → (T c).1 = 40 → eOK s T N (mjF D 148 [.ref 64] (mjW0 (eR s (c, 0, p, nI q0, v, ag)))) p (nI q0) v ag (ra c kq)) (hs : ∀ (c kq : Nat) (y : PZ), ra c kq = .inr y → y.2.1 = 3) :
    ∀ (k i q : Nat) (z : PZ), i + k = N + 1 → k < q → z.1 ≤ N → eOK s T N (L_146_7 (mjF D) q 64 z.2.1 (nI i) (mjW0 (eR s (z.1, 0, p, nI q0, v, rAg z.2.2.2.2 ag)))) p (nI q0) v ag (pPost T ra kq k z) := by
  obtain ⟨D, rfl⟩ : ∃ e, D = e + 4 := ⟨D - 4, by omega⟩
  have h3 := hT.2.1
  intro k
  induction k with
  | zero =>
    intro i q z hi hq hz
    obtain ⟨q, rfl⟩ : ∃ n, q = n + 1 := ⟨q - 1, by omega⟩
    rw [L146_S]
    unfold b_146_7 b_146_113 pPost
    rw [xg_64_0, xV_58, u_size hT hz, bI_s, if_pos (nI_le (by omega) (by omega))]
    exact ⟨hz, rfl⟩
  | succ k ih =>
    intro i q z hi hq hz
    obtain ⟨q, rfl⟩ : ∃ n, q = n + 1 := ⟨q - 1, by omega⟩
    rw [L146_S]
    unfold b_146_7 b_146_113 pPost
    rw [xg_64_0, xV_58, u_size hT hz, bI_s, if_neg (nI_ge (by omega) (by omega)), xg_64_0, xV_58, u_is hT hz, bI_s, i01, xg_64_0, xV_58, u_is hT hz, bI_s, i01]
    have mid : (T z.1).1 = 46 ∨ (T z.1).1 = 20 → (if (T z.1).1 = 46 then b_146_42 (mjF (D + 4)) (L_146_7 (mjF (D + 4)) q) 64 (nI i) (mjW0 (eR s (z.1, 0, p, nI q0, v, rAg z.2.2.2.2 ag))) else if (T z.1).1 = 20 then b_146_42 (mjF (D + 4)) (L_146_7 (mjF (D + 4)) q) 64 (nI i) (mjW0 (eR s (z.1, 0, p, nI q0, v, rAg z.2.2.2.2 ag))) else some (some (.int z.2.1), mjW0 (eR s (z.1, 0, p, nI q0, v, rAg z.2.2.2.2 ag)))) = b_146_42 (mjF (D + 4)) (L_146_7 (mjF (D + 4)) q) 64 (nI i) (mjW0 (eR s (z.1, 0, p, nI q0, v, rAg z.2.2.2.2 ag))) := by
      intro h
      by_cases e : (T z.1).1 = 46
      · rw [if_pos e]
      · rw [if_neg e, if_pos (h.resolve_left e)]
    by_cases h20 : (T z.1).1 = 20
    · have hl : z.1 < N := lt_of hT hz h20 (by decide)
      rw [mid (Or.inr h20), if_pos h20]
      unfold b_146_42
      rw [xg_64_0, xV_58, u_is hT hz, bI_s, i01, if_pos h20, xg_64_0, xV_58, u_skip hT hl, bN_s, xV_64]
      have h := x_kind (d := D + 1) (p := p) (o := nI q0) (v := v) (ag := rAg z.2.2.2.2 ag) hT (c := z.1 + 1) hl
      cases hd : pKind T (z.1 + 1) with
      | inl e =>
        rw [hd] at h
        obtain ⟨he, h⟩ := h
        obtain ⟨q, rfl⟩ : ∃ n, q = n + 1 := ⟨q - 1, by omega⟩
        rw [h, bN_s]
        unfold b_146_107
        rw [n_post7 hT]
        exact ⟨he, _, _, _, rfl⟩
      | inr c' =>
        rw [hd] at h
        obtain ⟨hy, h⟩ := h
        rw [h, bN_s]
        unfold b_146_107
        rw [nI_1]
        exact ih (i + 1) q (c', 0, z.2.2.1 ++ [z.1 + 1], z.2.2.2.1 ++ [(14, (T z.1).2.1, nI (kq + z.2.2.1.length), 0, 0)], z.2.2.2.2) (by omega) (by omega) hy
    · simp only [if_neg h20]
      by_cases h46 : (T z.1).1 = 46
      · have hl : z.1 < N := lt_of hT hz h46 (by decide)
        rw [if_pos h46, if_pos h46]
        unfold b_146_42
        rw [xg_64_0, xV_58, u_is hT hz, bI_s, i01, if_neg h20, xg_64_0, xV_58, u_skip hT hl, bN_s, xg_64_0, xV_58]
        by_cases hn : (T (z.1 + 1)).1 = 3
        · have hl2 : z.1 + 1 < N := lt_of hT (by omega) hn (by decide)
          rw [if_pos hn, u_need hT (by omega) hn (by decide), bN_s, xg_64_0, xV_58, u_is hT (c := z.1 + 1 + 1) (by omega), bI_s, i01]
          by_cases hp : (T (z.1 + 2)).1 = 40
          · rw [if_pos hp, if_pos hp, xV_64]
            have h := hr (z.1 + 2) (kq + z.2.2.1.length) (rAg z.2.2.2.2 ag) (by omega) hp
            cases hd : ra (z.1 + 2) (kq + z.2.2.1.length) with
            | inl e =>
              rw [hd] at h
              obtain ⟨he, w, o', ag', h⟩ := h
              obtain ⟨q, rfl⟩ : ∃ n, q = n + 1 := ⟨q - 1, by omega⟩
              rw [show z.1 + 1 + 1 = z.1 + 2 from rfl, h, bI_s]
              unfold b_146_106 b_146_107
              rw [n_post7 hT]
              exact ⟨he, _, _, _, rfl⟩
            | inr y =>
              have h3' := hs _ _ _ hd
              rw [hd] at h
              obtain ⟨hy, h⟩ := h
              rw [show z.1 + 1 + 1 = z.1 + 2 from rfl, h, bI_s, h3']
              unfold b_146_106 b_146_107
              rw [nI_1, ← rAg_app]
              exact ih (i + 1) q (y.1, 3, z.2.2.1 ++ y.2.2.1, z.2.2.2.1 ++ y.2.2.2.1, z.2.2.2.2 ++ y.2.2.2.2) (by omega) (by omega) hy
          · rw [if_neg hp, if_neg hp]
            unfold b_146_106 b_146_107
            rw [nI_1]
            exact ih (i + 1) q (z.1 + 2, 2, z.2.2.1, z.2.2.2.1 ++ [(10, (T (z.1 + 1)).2.1, 0, 0, (T (z.1 + 1)).2.2.1)], z.2.2.2.2) (by omega) (by omega) (by show z.1 + 2 ≤ N; omega)
        · obtain ⟨q, rfl⟩ : ∃ n, q = n + 1 := ⟨q - 1, by omega⟩
          rw [if_neg hn, u_need2 hT (by omega) hn, bN_s, xg_64_0, xV_58, u_is hT (Nat.le_refl N), bI_s, i01, if_neg (kN hT (by decide))]
          unfold b_146_106 b_146_107
          rw [n_post7 hT]
          exact ⟨F2_in T _, _, _, _, rfl⟩
      · rw [if_neg h46, if_neg h46]
        exact ⟨hz, rfl⟩
/-- behind ARGUMENTS: the ) and their number put -/
def aOK (s : mjSt3) (T : TT) (N : Nat) (u : mjU) (p v : Int32) (ag : Nat → Int32) (o t : Nat) (r : (Nat × Nat) ⊕ (Nat × PZ)) : Prop := match r with
  | .inl e => (e.1 = 1 ∨ e.1 = 2 ∨ e.1 = 3) ∧ ∃ (w o' : Int32) (ag' : Nat → Int32), u = some (some (.int w), mjW0 (eR s (N, nI e.1, (T e.2).2.1, o', v, ag')))
  | .inr y => y.2.1 ≤ N ∧ u = some (some (.int 3), mjW0 (eR s (y.2.1, 0, p, nI o, v, upd (rAg y.2.2.2.2.2 ag) t (nI y.1))))
theorem lq_148 (hT : TH T N s) {D kq q0 t : Nat} {rv : Nat → Nat → PX} (hD : 8 ≤ D) (ht : t ≤ N) (hr : ∀ (c kq : Nat) (ag : Nat → Int32), c ≤ N → eOK s T N (mjF D 142 [.ref 64] (mjW0 (eR s (c, 0, p, nI (q0 + 1), v, ag)))) p (nI (q0 + 1)) v ag (rv c kq)) (hv : ∀ c kq, isVal (T c).1 = false → rv c kq = .inl (F2 T c)) :
    ∀ (k i q : Nat) (z : PZ), i + k = 7 → i ≤ 6 → k < q → z.1 ≤ N → aOK s T N (L_148_37 (mjF D) q 64 (nI t) (nI i) 1 (nI i) (mjW0 (eR s (z.1, 0, p, nI (q0 + 1), v, rAg z.2.2.2.2 ag)))) p v ag q0 t (pArgs T rv kq k i z) := by
  obtain ⟨D, rfl⟩ : ∃ e, D = e + 8 := ⟨D - 8, by omega⟩
  intro k
  induction k with
  | zero => intro i q z hi h6; omega
  | succ k ih =>
    intro i q z hi h6 hq hz
    obtain ⟨q, rfl⟩ : ∃ n, q = n + 1 := ⟨q - 1, by omega⟩
    rw [L148_S]
    unfold b_148_37 pArgs
    rw [if_neg (show ¬ (6 : Int32) < nI i from nI_nlt (a := 6) h6 (by omega)), if_neg (show ¬ (1 : Int32) = 0 by decide)]
    obtain ⟨q, rfl⟩ : ∃ n, q = n + 1 := ⟨q - 1, by omega⟩
    have bad : ∀ (f' p' o' : Int32) (ag' : Nat → Int32), ¬ f' = 0 → b_148_70 (mjF (D + 8)) (L_148_37 (mjF (D + 8)) (q + 1)) 64 (nI t) (nI i) (nI i) (mjW0 (eR s (N, f', p', o', v, ag'))) = some (some (.int 3), mjW0 (eR s (N, f', p', o' - 1, v, upd ag' t (nI (i + 1))))) := by
      intro f' p' o' ag' hf
      unfold b_148_70
      rw [xV_64, n_value hT hf, bI_s, xg_64_0, xV_58, u_is hT (Nat.le_refl N), bI_s, i01, if_neg (kN hT (by decide)), if_neg (kN hT (by decide))]
      unfold b_148_99
      rw [n_args hT hf ht, nI_1]
    by_cases e6 : i = 6
    · subst e6
      rw [if_pos (show nI 6 = 6 from rfl), if_pos rfl, xV_64, u_val hT hz, bI_s, i01]
      by_cases hval : isVal (T z.1).1 = true
      · have h1 : ¬ (T z.1).1 = 1 := fun e => by rw [e] at hval; exact absurd hval (by decide)
        rw [if_pos hval, if_pos hval, xg_64_0, xV_58, u_ref3 hT hz h1, bN_s, bad _ _ _ _ (by decide)]
        exact ⟨Or.inr (Or.inr rfl), _, _, _, rfl⟩
      · rw [if_neg hval, if_neg hval]
        have h := hr z.1 (kq + z.2.2.1.length) (rAg z.2.2.2.2 ag) hz
        rw [hv z.1 _ (by simpa using hval)] at h
        obtain ⟨he, w, o', ag', h⟩ := h
        unfold b_148_70
        rw [xV_64, h, bI_s, xg_64_0, xV_58, u_is hT (Nat.le_refl N), bI_s, i01, if_neg (kN hT (by decide)), if_neg (kN hT (by decide))]
        unfold b_148_99
        rw [n_args hT (F2_n0 T _) ht]
        exact ⟨he, _, _, _, rfl⟩
    · rw [if_neg (show ¬ nI i = 6 from fun e => e6 ((nI_eq (a := i) (b := 6) (by omega) (by omega)).mp e)), if_neg e6]
      have h := hr z.1 (kq + z.2.2.1.length) (rAg z.2.2.2.2 ag) hz
      unfold b_148_70
      cases hd : rv z.1 (kq + z.2.2.1.length) with
      | inl e =>
        rw [hd] at h
        obtain ⟨he, w, o', ag', h⟩ := h
        rw [xV_64, h, bI_s, xg_64_0, xV_58, u_is hT (Nat.le_refl N), bI_s, i01, if_neg (kN hT (by decide)), if_neg (kN hT (by decide))]
        unfold b_148_99
        rw [n_args hT (in_n0 he) ht]
        exact ⟨he, _, _, _, rfl⟩
      | inr y =>
        rw [hd] at h
        obtain ⟨hy, h⟩ := h
        rw [xV_64, h, bI_s, xg_64_0, xV_58, u_is hT hy, bI_s, i01, ← rAg_app]
        by_cases h44 : (T y.1).1 = 44
        · have hl : y.1 < N := lt_of hT hy h44 (by decide)
          rw [if_pos h44, xg_64_0, xV_58, u_skip hT hl, bN_s, if_pos h44]
          unfold b_148_99
          rw [nI_1]
          simp only [if_pos h44]
          exact ih (i + 1) (q + 1) (y.1 + 1, 0, z.2.2.1 ++ y.2.2.1, z.2.2.2.1 ++ y.2.2.2.1 ++ [(12, (T z.1).2.1, nI i, 0, 0)], z.2.2.2.2 ++ y.2.2.2.2) (by omega) (by omega) (by omega) hl
        · rw [if_neg h44, if_neg h44]
          unfold b_148_99
          rw [nI_1, L148_S]
          simp only [if_neg h44]
          unfold b_148_37 b_148_105
          rw [if_pos rfl, ite_self, xV_64]
          by_cases h41 : (T y.1).1 = 41
          · have hl : y.1 < N := lt_of hT hy h41 (by decide)
            rw [if_pos h41, u_close hT hy h41 (by decide), bN_s, xg_64_0, xV_58, u_setArg hT ht, bN_s]
            exact ⟨hl, rfl⟩
          · rw [if_neg h41, u_close2 hT hy h41, bN_s, xg_64_0, xV_58, u_setArg hT ht, bN_s]
            exact ⟨F2_in T _, _, _, _, rfl⟩
/-- where no E begins, that is the FAULT -/
theorem pV_not {M f o c kq : Nat} (h : isVal (T c).1 = false) : prE T M (f + 6) 0 o c kq = .inl (F2 T c) := by
  have hv : ¬ ((T c).1 = 3 ∨ (T c).1 = 4 ∨ (T c).1 = 11 ∨ (T c).1 = 12 ∨ (T c).1 = 14 ∨ (T c).1 = 40 ∨ (T c).1 = 45) := by
    intro q
    unfold isVal at h
    rw [decide_eq_true q] at h
    exact absurd h (by decide)
  have a : prE T M (f + 1) 5 o c kq = .inl (F2 T c) := by
    rw [prE_5]
    unfold pAtom
    rw [if_neg (fun q => hv (Or.inl q)), if_neg (fun q => hv (Or.inr (Or.inl q))), if_neg (fun q => hv (Or.inr (Or.inr (Or.inl q)))), if_neg (fun q => hv (Or.inr (Or.inr (Or.inr (Or.inl q))))), if_neg (fun q => hv (Or.inr (Or.inr (Or.inr (Or.inr (Or.inl q)))))), if_neg (fun q => hv (Or.inr (Or.inr (Or.inr (Or.inr (Or.inr (Or.inl q)))))))]
  rw [prE_0, prE_1, prE_2, prE_3, if_neg (fun q => hv (Or.inr (Or.inr (Or.inr (Or.inr (Or.inr (Or.inr q))))))), prE_4, a]
theorem pCall_3 {rv : Nat → Nat → PX} {o c kq : Nat} {y : PZ} (h : pCall T rv o c kq = .inr y) : y.2.1 = 3 := by
  unfold pCall at h
  by_cases h12 : o = 12
  · rw [if_pos h12] at h; cases h
  · rw [if_neg h12] at h
    by_cases h41 : (T (c + 1)).1 = 41
    · rw [if_pos h41] at h; cases h; rfl
    · rw [if_neg h41] at h
      cases hd : pArgs T rv kq 7 0 (c + 1, 0, [], [], []) with
      | inl e => rw [hd] at h; cases h
      | inr w => rw [hd] at h; cases h; rfl
/-- all parts of an E, by fuel -/
def rdE (T : TT) (N : Nat) (s : mjSt3) (f : Nat) : Prop := ∀ (D q c kq : Nat) (p v : Int32) (ag : Nat → Int32), f + 9 ≤ D → q ≤ 12 → c ≤ N →
  (6 * (12 - q) + 7 ≤ f → eOK s T N (mjF D 142 [.ref 64] (mjW0 (eR s (c, 0, p, nI q, v, ag)))) p (nI q) v ag (prE T (N + 1) f 0 q c kq)) ∧
  (6 * (12 - q) + 6 ≤ f → eOK s T N (mjF D 143 [.ref 64] (mjW0 (eR s (c, 0, p, nI q, v, ag)))) p (nI q) v ag (prE T (N + 1) f 1 q c kq)) ∧
  (6 * (12 - q) + 5 ≤ f → eOK s T N (mjF D 144 [.ref 64] (mjW0 (eR s (c, 0, p, nI q, v, ag)))) p (nI q) v ag (prE T (N + 1) f 2 q c kq)) ∧
  (6 * (12 - q) + 4 ≤ f → eOK s T N (mjF D 145 [.ref 64] (mjW0 (eR s (c, 0, p, nI q, v, ag)))) p (nI q) v ag (prE T (N + 1) f 3 q c kq)) ∧
  (6 * (12 - q) + 3 ≤ f → eOK s T N (mjF D 146 [.ref 64] (mjW0 (eR s (c, 0, p, nI q, v, ag)))) p (nI q) v ag (prE T (N + 1) f 4 q c kq)) ∧
  (6 * (12 - q) + 2 ≤ f → eOK s T N (mjF D 147 [.ref 64] (mjW0 (eR s (c, 0, p, nI q, v, ag)))) p (nI q) v ag (prE T (N + 1) f 5 q c kq)) ∧
  (6 * (12 - q) + 2 ≤ f → (T c).1 = 40 → eOK s T N (mjF D 148 [.ref 64] (mjW0 (eR s (c, 0, p, nI q, v, ag)))) p (nI q) v ag (prE T (N + 1) f 6 q c kq))
theorem rdE_ok (hT : TH T N s) : ∀ f, rdE T N s f
  | 0 => by
    intro D q c kq p v ag hD hq hc
    refine ⟨fun h => ?_, fun h => ?_, fun h => ?_, fun h => ?_, fun h => ?_, fun h => ?_, fun h => ?_⟩ <;> omega
  | f + 1 => by
    have ih := rdE_ok hT f
    intro D q c kq p v ag hD hq hc
    obtain ⟨D, rfl⟩ : ∃ e, D = e + 10 := ⟨D - 10, by omega⟩
    refine ⟨fun h => ?_, fun h => ?_, fun h => ?_, fun h => ?_, fun h => ?_, fun h => ?_, fun h h40 => ?_⟩
    · -- E
      rw [e_142]
      unfold f_142 b_142_0
      rw [xV_64, prE_0]
      have h1 := (ih (D + 9) q c kq p v ag (by omega) hq hc).2.1 (by omega)
      cases hd : prE T (N + 1) f 1 q c kq with
      | inl e =>
        rw [hd] at h1
        obtain ⟨he, w, o', ag', h1⟩ := h1
        rw [h1, bI_s, xg_64_0, xV_58, u_cmp hT (Nat.le_refl N), bI_s, i01, hT.2.2.1, sg0.2.2.1, if_neg (show ¬ false = true by decide)]
        exact ⟨he, _, _, _, rfl⟩
      | inr z =>
        rw [hd] at h1
        obtain ⟨hz, h1⟩ := h1
        rw [h1, bI_s, xg_64_0, xV_58, u_cmp hT hz, bI_s, i01]
        by_cases g : isCmp (T z.1).1 = true
        · have hl : z.1 < N := lt_of hT hz rfl (fun e => by rw [e] at g; exact absurd g (by decide))
          have h2 := (ih (D + 9) q (z.1 + 1) (kq + z.2.2.1.length) p v (rAg z.2.2.2.2 ag) (by omega) hq hl).2.1 (by omega)
          rw [if_pos g, xg_64_0, xV_58, u_skip hT hl, bN_s, xV_64]
          simp only [if_pos g]
          cases hd2 : prE T (N + 1) f 1 q (z.1 + 1) (kq + z.2.2.1.length) with
          | inl e =>
            rw [hd2] at h2
            obtain ⟨he, w, o', ag', h2⟩ := h2
            rw [h2, bI_s]
            exact ⟨he, _, _, _, rfl⟩
          | inr y =>
            rw [hd2] at h2
            obtain ⟨hy, h2⟩ := h2
            rw [h2, bI_s, ← rAg_app]
            exact ⟨hy, rfl⟩
        · rw [if_neg g]
          simp only [if_neg g]
          exact ⟨hz, rfl⟩
    · -- SUM
      rw [e_143]
      unfold f_143 b_143_0
      rw [xV_64, prE_1, show mjN = 99999999 + 1 from rfl]
      have h1 := (ih (D + 9) q c kq p v ag (by omega) hq hc).2.2.1 (by omega)
      cases hd : prE T (N + 1) f 2 q c kq with
      | inl e =>
        rw [hd] at h1
        obtain ⟨he, w, o', ag', h1⟩ := h1
        rw [h1, bI_s, n_sum7 hT]
        exact ⟨he, _, _, _, rfl⟩
      | inr z =>
        rw [hd] at h1
        obtain ⟨hz, h1⟩ := h1
        rw [h1, bI_s]
        exact lq_143 hT (by omega) (fun c' kq' ag' hc' => (ih (D + 9) q c' kq' p v ag' (by omega) hq hc').2.2.1 (by omega)) (N + 1) 0 _ z (by omega) (by have := hT.2.1; omega) hz
    · -- PRODUCT
      rw [e_144]
      unfold f_144 b_144_0
      rw [xV_64, prE_2, show mjN = 99999999 + 1 from rfl]
      have h1 := (ih (D + 9) q c kq p v ag (by omega) hq hc).2.2.2.1 (by omega)
      cases hd : prE T (N + 1) f 3 q c kq with
      | inl e =>
        rw [hd] at h1
        obtain ⟨he, w, o', ag', h1⟩ := h1
        rw [h1, bI_s, n_pro7 hT]
        exact ⟨he, _, _, _, rfl⟩
      | inr z =>
        rw [hd] at h1
        obtain ⟨hz, h1⟩ := h1
        rw [h1, bI_s]
        exact lq_144 hT (by omega) (fun c' kq' ag' hc' => (ih (D + 9) q c' kq' p v ag' (by omega) hq hc').2.2.2.1 (by omega)) (N + 1) 0 _ z (by omega) (by have := hT.2.1; omega) hz
    · -- UNIT
      rw [e_145]
      unfold f_145 b_145_0
      rw [xg_64_0, xV_58, u_is hT hc, bI_s, i01, prE_3]
      by_cases h45 : (T c).1 = 45
      · have hl := lt_of hT hc h45 (by decide)
        rw [if_pos h45, if_pos h45, xV_64]
        by_cases h12 : q = 12
        · subst h12
          rw [if_pos rfl, u_open3 hT hc h45 (by decide), bN_s, xV_64, n_unit hT (by decide), bI_s, xg_64_9, xp_64_9, wR_o]
          exact ⟨Or.inr (Or.inr rfl), _, _, _, rfl⟩
        · rw [if_neg h12, u_open hT hc h45 (by decide) (by omega), bN_s, xV_64]
          have h1 := (ih (D + 9) (q + 1) (c + 1) kq p v ag (by omega) (by omega) hl).2.2.2.1 (by omega)
          cases hd : prE T (N + 1) f 3 (q + 1) (c + 1) kq with
          | inl e =>
            rw [hd] at h1
            obtain ⟨he, w, o', ag', h1⟩ := h1
            rw [h1, bI_s, xg_64_9, xp_64_9, wR_o]
            exact ⟨he, _, _, _, rfl⟩
          | inr y =>
            rw [hd] at h1
            obtain ⟨hy, h1⟩ := h1
            rw [h1, bI_s, xg_64_9, xp_64_9, wR_o, eR_o, nI_pred]
            exact ⟨hy, rfl⟩
      · rw [if_neg h45, if_neg h45, xV_64]
        have h1 := (ih (D + 9) q c kq p v ag (by omega) hq hc).2.2.2.2.1 (by omega)
        cases hd : prE T (N + 1) f 4 q c kq with
        | inl e =>
          rw [hd] at h1
          obtain ⟨he, w, o', ag', h1⟩ := h1
          rw [h1, bI_s]
          exact ⟨he, _, _, _, rfl⟩
        | inr z =>
          rw [hd] at h1
          obtain ⟨hz, h1⟩ := h1
          rw [h1, bI_s]
          exact ⟨hz, rfl⟩
    · -- POST
      rw [e_146]
      unfold f_146 b_146_0
      rw [xV_64, prE_4, show mjN = 99999999 + 1 from rfl]
      have h1 := (ih (D + 9) q c kq p v ag (by omega) hq hc).2.2.2.2.2.1 (by omega)
      cases hd : prE T (N + 1) f 5 q c kq with
      | inl e =>
        rw [hd] at h1
        obtain ⟨he, w, o', ag', h1⟩ := h1
        rw [h1, bI_s, n_post7 hT]
        exact ⟨he, _, _, _, rfl⟩
      | inr z =>
        rw [hd] at h1
        obtain ⟨hz, h1⟩ := h1
        rw [h1, bI_s]
        refine lq_146 hT (by omega) (fun c' kq' ag' hc' h40 => (ih (D + 9) q c' kq' p v ag' (by omega) hq hc').2.2.2.2.2.2 (by omega) h40) ?_ (N + 1) 0 _ z (by omega) (by have := hT.2.1; omega) hz
        intro c' kq' y hy
        cases f with
        | zero => omega
        | succ f => exact pCall_3 (by rw [← prE_6]; exact hy)
    · -- ATOM
      rw [e_147]
      unfold f_147 b_147_0 b_147_64
      rw [xg_64_0, xV_58, u_kind hT hc, bI_s, prE_5]
      unfold pAtom
      by_cases k3 : (T c).1 = 3
      · have hl := lt_of hT hc k3 (by decide)
        rw [if_pos k3, if_pos k3, xg_64_0, xV_58, u_skip hT hl, bN_s]
        exact ⟨hl, rfl⟩
      rw [if_neg k3, if_neg k3]
      by_cases k4 : (T c).1 = 4
      · have hl := lt_of hT hc k4 (by decide)
        rw [if_pos k4, if_pos k4, xg_64_0, xV_58, u_skip hT hl, bN_s]
        exact ⟨hl, rfl⟩
      rw [if_neg k4, if_neg k4]
      by_cases k11 : (T c).1 = 11
      · have hl := lt_of hT hc k11 (by decide)
        rw [if_pos k11, if_pos k11, xg_64_0, xV_58, u_skip hT hl, bN_s]
        exact ⟨hl, rfl⟩
      rw [if_neg k11, if_neg k11]
      by_cases k12 : (T c).1 = 12
      · have hl := lt_of hT hc k12 (by decide)
        rw [if_pos k12, if_pos k12, xg_64_0, xV_58, u_skip hT hl, bN_s]
        exact ⟨hl, rfl⟩
      rw [if_neg k12, if_neg k12]
      by_cases k14 : (T c).1 = 14
      · have hl := lt_of hT hc k14 (by decide)
        rw [if_pos k14, if_pos k14, xg_64_0, xV_58, u_skip hT hl, bN_s, xV_64]
        have h1 := x_kind (d := D + 6) (p := p) (o := nI q) (v := v) (ag := ag) hT (c := c + 1) hl
        cases hd : pKind T (c + 1) with
        | inl e =>
          rw [hd] at h1
          obtain ⟨he, h1⟩ := h1
          rw [h1, bN_s]
          exact ⟨he, _, _, _, rfl⟩
        | inr c' =>
          rw [hd] at h1
          obtain ⟨hy, h1⟩ := h1
          rw [h1, bN_s]
          exact ⟨hy, rfl⟩
      rw [if_neg k14, if_neg k14]
      by_cases k40 : (T c).1 = 40
      · have hl := lt_of hT hc k40 (by decide)
        rw [if_pos k40, if_pos k40, xV_64]
        by_cases h12 : q = 12
        · subst h12
          rw [if_pos rfl, u_open3 hT hc k40 (by decide), bN_s, xV_64, n_value hT (by decide), bI_s, xV_64, u_closeN hT (by decide), bN_s]
          exact ⟨Or.inr (Or.inr rfl), _, _, _, rfl⟩
        · rw [if_neg h12, u_open hT hc k40 (by decide) (by omega), bN_s, xV_64]
          have h1 := (ih (D + 9) (q + 1) (c + 1) kq p v ag (by omega) (by omega) hl).1 (by omega)
          cases hd : prE T (N + 1) f 0 (q + 1) (c + 1) kq with
          | inl e =>
            rw [hd] at h1
            obtain ⟨he, w, o', ag', h1⟩ := h1
            rw [h1, bI_s, xV_64, u_closeN hT (in_n0 he), bN_s]
            exact ⟨he, _, _, _, rfl⟩
          | inr y =>
            rw [hd] at h1
            obtain ⟨hy, h1⟩ := h1
            rw [h1, bI_s, xV_64]
            by_cases h41 : (T y.1).1 = 41
            · have hl2 := lt_of hT hy h41 (by decide)
              rw [u_close hT hy h41 (by decide), bN_s]
              simp only [if_pos h41]
              exact ⟨hl2, rfl⟩
            · rw [u_close2 hT hy h41, bN_s]
              simp only [if_neg h41]
              exact ⟨F2_in T _, _, _, _, rfl⟩
      rw [if_neg k40, if_neg k40, xg_64_0, xV_58, u_ref2 hT hc, bN_s]
      exact ⟨F2_in T _, _, _, _, rfl⟩
    · -- a call's (
      have hl := lt_of hT hc h40 (by decide)
      rw [e_148]
      unfold f_148 b_148_0 b_148_33
      rw [xg_64_0, xV_58, u_now hT hc, bI_s, xV_64, prE_6, show mjN = 99999999 + 1 from rfl]
      unfold pCall
      by_cases h12 : q = 12
      · subst h12
        rw [if_pos rfl, u_open3 hT hc h40 (by decide), bN_s, xg_64_0, xV_58, u_is hT (Nat.le_refl N), bI_s, i01, if_neg (kN hT (by decide)), L148_S]
        unfold b_148_37 b_148_70 b_148_99
        rw [if_neg (show ¬ (6 : Int32) < 0 by decide), if_neg (show ¬ (1 : Int32) = 0 by decide), if_neg (show ¬ (0 : Int32) = 6 by decide), xV_64, n_value hT (by decide), bI_s, xg_64_0, xV_58, u_is hT (Nat.le_refl N), bI_s, if_neg (kN hT (by decide)), if_pos rfl, show 99999999 = 99999998 + 1 from rfl, n_args hT (by decide) hc]
        exact ⟨Or.inr (Or.inr rfl), _, _, _, rfl⟩
      · rw [if_neg h12, u_open hT hc h40 (by decide) (by omega), bN_s, xg_64_0, xV_58, u_is hT (c := c + 1) (by omega), bI_s, i01]
        by_cases h41 : (T (c + 1)).1 = 41
        · have hl2 := lt_of hT (c := c + 1) (by omega) h41 (by decide)
          rw [if_pos h41, if_pos h41, L148_S]
          unfold b_148_37 b_148_105
          rw [if_neg (show ¬ (6 : Int32) < 0 by decide), if_pos rfl, xV_64, u_close hT (c := c + 1) (by omega) h41 (by decide), bN_s, xg_64_0, xV_58, u_setArg hT hc, bN_s]
          exact ⟨by show c + 2 ≤ N; omega, rfl⟩
        · rw [if_neg h41, if_neg h41]
          have h1 := lq_148 (p := p) (v := v) (ag := ag) (kq := kq) (t := c) hT (D := D + 9) (q0 := q) (rv := prE T (N + 1) f 0 (q + 1)) (by omega) hc (fun c' kq' ag' hc' => (ih (D + 9) (q + 1) c' kq' p v ag' (by omega) (by omega) hc').1 (by omega)) (fun c' kq' hv => by
            obtain ⟨f, rfl⟩ : ∃ e, f = e + 6 := ⟨f - 6, by omega⟩
            exact pV_not hv) 7 0 (99999999 + 1) (c + 1, 0, [], [], []) (by omega) (by omega) (by omega) (by show c + 1 ≤ N; omega)
          cases hd : pArgs T (prE T (N + 1) f 0 (q + 1)) kq 7 0 (c + 1, 0, [], [], []) with
          | inl e =>
            rw [hd] at h1
            exact h1
          | inr y =>
            rw [hd] at h1
            refine ⟨h1.1, ?_⟩
            show _ = (some (some (Value.int 3), mjW0 (eR s (y.2.1, 0, p, nI q, v, rAg (y.2.2.2.2.2 ++ [(c, y.1)]) ag))) : mjU)
            rw [rAg_app]
            exact h1.2
end MJ48
end
section
/-! ===== how STATEMENTS and BLOCKS are read ===== -/
/-- behind STATEMENTS: cursor, told, KINDS' tokens, orders, calls' arguments -/
abbrev PB : Type := Nat × Nat × List Nat × List Row × List (Nat × Nat)
abbrev PY : Type := (Nat × Nat) ⊕ PB
def prV (T : TT) (M o c kq : Nat) : PX := prE T M 100 0 o c kq
def pSeq (T : TT) (rd : Nat → Nat → Nat → Nat → PY) (kq i0 : Nat) : Nat → PB → PY
  | 0, z => .inr z
  | k + 1, z => if (T z.1).1 = 125 then .inr z else (match rd z.1 z.2.1 (kq + z.2.2.1.length) (i0 + z.2.2.2.1.length) with
    | .inl e => .inl e
    | .inr y => pSeq T rd kq i0 k (y.1, y.2.1, z.2.2.1 ++ y.2.2.1, z.2.2.2.1 ++ y.2.2.2.1, z.2.2.2.2 ++ y.2.2.2.2))
def pBlk (T : TT) (M : Nat) (rd : Nat → Nat → Nat → Nat → PY) (o c td kq i0 : Nat) : PY :=
  if (T c).1 = 123 then (if o = 12 then .inl (3, c) else (match pSeq T rd kq i0 M (c + 1, td, [], [(26, (T (c + 1)).2.1, 0, 0, 0)], []) with
    | .inl e => .inl e
    | .inr z => if (T z.1).1 = 125 then .inr (z.1 + 1, z.2.1, z.2.2.1, z.2.2.2.1 ++ [(27, (T (z.1 + 1)).2.1, 0, 0, 0)], z.2.2.2.2) else .inl (F2 T z.1)))
  else .inl (F2 T c)
def oLine (T : TT) (c : Nat) : Row := (1, (T c).2.1, 0, 0, 0)
/-- TYPE NAME = E ; -/
def pDecl (T : TT) (M o c td kq : Nat) : PY :=
  (match pType T c with
  | .inl e => .inl e
  | .inr c1 => if (T c1).1 = 3 then (if td = 16 then .inl (3, c1) else if (T (c1 + 1)).1 = 61 then (match prV T M o (c1 + 2) (kq + (if (T c).1 = 10 then 0 else 1)) with
      | .inl e => .inl e
      | .inr y => if (T y.1).1 = 59 then .inr (y.1 + 1, td + 1, (if (T c).1 = 10 then [] else [c]) ++ y.2.2.1, oLine T c :: (19, (T c1).2.1, if (T c).1 = 10 then -1 else nI kq, 0, (T c1).2.2.1) :: (y.2.2.2.1 ++ [(20, (T (c1 + 1)).2.1, nI td, 0, 0)]), y.2.2.2.2) else .inl (F2 T y.1))
    else .inl (F2 T (c1 + 1)))
    else .inl (F2 T c1))
/-- from the word to behind the BLOCK: the E's and the BLOCK's parts; h: orders ahead of the E -/
def pGrd (T : TT) (M : Nat) (bl : Nat → Nat → Nat → Nat → PY) (o c td kq i0 : Nat) : (Nat × Nat) ⊕ (PZ × PB) :=
  if (T (c + 1)).1 = 40 then (if o = 12 then .inl (3, c + 1) else (match prV T M (o + 1) (c + 2) kq with
    | .inl e => .inl e
    | .inr y => if (T y.1).1 = 41 then (match bl (y.1 + 1) td (kq + y.2.2.1.length) (i0 + y.2.2.2.1.length + 1) with
        | .inl e => .inl e
        | .inr z => .inr (y, z)) else .inl (F2 T y.1)))
  else .inl (F2 T (c + 1))
def pIf (T : TT) (M : Nat) (bl : Nat → Nat → Nat → Nat → PY) (o c td kq i0 : Nat) : PY :=
  (match pGrd T M bl o c td kq (i0 + 1) with
  | .inl e => .inl e
  | .inr (y, z) => if (T z.1).1 = 16 then (match bl (z.1 + 1) z.2.1 (kq + y.2.2.1.length + z.2.2.1.length) (i0 + 3 + y.2.2.2.1.length + z.2.2.2.1.length) with
      | .inl e => .inl e
      | .inr w => .inr (w.1, w.2.1, y.2.2.1 ++ z.2.2.1 ++ w.2.2.1, oLine T c :: (y.2.2.2.1 ++ (21, (T c).2.1, nI (i0 + 3 + y.2.2.2.1.length + z.2.2.2.1.length), 0, 0) :: (z.2.2.2.1 ++ (22, -1, nI (i0 + 3 + y.2.2.2.1.length + z.2.2.2.1.length + w.2.2.2.1.length), 0, 0) :: w.2.2.2.1)), y.2.2.2.2 ++ z.2.2.2.2 ++ w.2.2.2.2))
    else .inr (z.1, z.2.1, y.2.2.1 ++ z.2.2.1, oLine T c :: (y.2.2.2.1 ++ (21, (T c).2.1, nI (i0 + 2 + y.2.2.2.1.length + z.2.2.2.1.length), 0, 0) :: z.2.2.2.1), y.2.2.2.2 ++ z.2.2.2.2))
def pWhile (T : TT) (M : Nat) (bl : Nat → Nat → Nat → Nat → PY) (o c td kq i0 : Nat) : PY :=
  (match pGrd T M bl o c td kq (i0 + 2) with
  | .inl e => .inl e
  | .inr (y, z) => .inr (z.1, z.2.1, y.2.2.1 ++ z.2.2.1, oLine T c :: (2, (T c).2.1, 0, 0, 0) :: (y.2.2.2.1 ++ (21, (T c).2.1, nI (i0 + 4 + y.2.2.2.1.length + z.2.2.2.1.length), 0, 0) :: (z.2.2.2.1 ++ [(23, -1, nI (i0 + 1), 0, 0)])), y.2.2.2.2 ++ z.2.2.2.2))
/-- return, say -/
def pGive (T : TT) (M o c td kq : Nat) (w : Int32) : PY :=
  (match prV T M o (c + 1) kq with
  | .inl e => .inl e
  | .inr y => if (T y.1).1 = 59 then .inr (y.1 + 1, td, y.2.2.1, oLine T c :: (y.2.2.2.1 ++ [(w, (T c).2.1, 1, 0, 0)]), y.2.2.2.2) else .inl (F2 T y.1))
/-- the last order of what is left of = -/
def oLast (l : List Row) : Row := l.getLastD (0, 0, 0, 0, 0)
def oLeft (sh : Int32) (l : List Row) : List Row := l.dropLast ++ [(if sh = 1 then 15 else 16, (oLast l).2)]
def pUse (T : TT) (M o c td kq i0 : Nat) : PY :=
  (match prV T M o c kq with
  | .inl e => .inl e
  | .inr y => if (T y.1).1 = 61 ∧ (y.2.1 = 1 ∨ y.2.1 = 2) then (match prV T M o (y.1 + 1) (kq + y.2.2.1.length) with
        | .inl e => .inl e
        | .inr z => if (T z.1).1 = 59 then .inr (z.1 + 1, td, y.2.2.1 ++ z.2.2.1, oLine T c :: (oLeft y.2.1 y.2.2.2.1 ++ z.2.2.2.1 ++ [(if y.2.1 = 1 then 17 else 18, (T y.1).2.1, nI (i0 + y.2.2.2.1.length), (oLast y.2.2.2.1).2.1, 0)]), y.2.2.2.2 ++ z.2.2.2.2) else .inl (F2 T z.1))
      else if (T y.1).1 = 59 ∧ y.2.1 = 3 then .inr (y.1 + 1, td, y.2.2.1, oLine T c :: (y.2.2.2.1 ++ [(25, (T c).2.1, 0, 0, 0)]), y.2.2.2.2)
      else .inl (F2 T y.1))
/-- tags: 0 BLOCK, 1 STATEMENT -/
def prS (T : TT) (M : Nat) : Nat → Nat → Nat → Nat → Nat → Nat → Nat → PY
  | 0, _, _, _, _, _, _ => .inl (0, 0)
  | f + 1, 0, o, c, td, kq, i0 => pBlk T M (prS T M f 1 (o + 1)) o c td kq i0
  | f + 1, _, o, c, td, kq, i0 =>
    if (T c).1 = 2 ∨ (T c).1 = 10 then pDecl T M o c td kq
    else if (T c).1 = 15 then pIf T M (prS T M f 0 o) o c td kq i0
    else if (T c).1 = 17 then pWhile T M (prS T M f 0 o) o c td kq i0
    else if (T c).1 = 18 then pGive T M o c td kq 28
    else if (T c).1 = 19 then pGive T M o c td kq 24
    else if (T c).1 = 123 then prS T M f 0 o c td kq i0
    else pUse T M o c td kq i0
theorem prS_0 {T : TT} {M f o c td kq i0 : Nat} : prS T M (f + 1) 0 o c td kq i0 = pBlk T M (prS T M f 1 (o + 1)) o c td kq i0 := rfl
theorem prS_1 {T : TT} {M f o c td kq i0 : Nat} : prS T M (f + 1) 1 o c td kq i0 = (if (T c).1 = 2 ∨ (T c).1 = 10 then pDecl T M o c td kq
    else if (T c).1 = 15 then pIf T M (prS T M f 0 o) o c td kq i0
    else if (T c).1 = 17 then pWhile T M (prS T M f 0 o) o c td kq i0
    else if (T c).1 = 18 then pGive T M o c td kq 28
    else if (T c).1 = 19 then pGive T M o c td kq 24
    else if (T c).1 = 123 then prS T M f 0 o c td kq i0
    else pUse T M o c td kq i0) := rfl
/-! ===== the class reads them so ===== -/
/-- bad, whatever else -/
def bOK (s : mjSt3) (T : TT) (N : Nat) (u : mjU) (e : Nat × Nat) : Prop := (e.1 = 1 ∨ e.1 = 2 ∨ e.1 = 3) ∧ ∃ (o' v' : Int32) (ag' : Nat → Int32), u = some (none, mjW0 (eR s (N, nI e.1, (T e.2).2.1, o', v', ag')))
def sOK (s : mjSt3) (T : TT) (N : Nat) (u : mjU) (p : Int32) (o : Nat) (ag : Nat → Int32) (r : PY) : Prop := match r with
  | .inl e => bOK s T N u e
  | .inr z => z.1 ≤ N ∧ u = some (none, mjW0 (eR s (z.1, 0, p, nI o, nI z.2.1, rAg z.2.2.2.2 ag)))
section MJ49
variable {T : TT} {d N c : Nat} {s : mjSt3} {f p o v : Int32} {ag : Nat → Int32}
theorem x_val (hT : TH T N s) {D q kq : Nat} (hD : 109 ≤ D) (hq : q ≤ 12) (hc : c ≤ N) : eOK s T N (mjF D 142 [.ref 64] (mjW0 (eR s (c, 0, p, nI q, v, ag)))) p (nI q) v ag (prV T (N + 1) q c kq) := (rdE_ok hT 100 D q c kq p v ag (by omega) hq hc).1 (by omega)
theorem L139_S (R : mjR) (n : Nat) (a : Nat) (b : Int32) (hp : mjH) : L_139_8 R (n + 1) a b hp = b_139_8 R (L_139_8 R n) a b hp := rfl
theorem n_blk8 (hT : TH T N s) (hf : ¬ f = 0) (q : Nat) (i : Int32) : L_139_8 (mjF (d + 3)) (q + 1) 64 i (mjW0 (eR s (N, f, p, o, v, ag))) = some (none, mjW0 (eR s (N, f, p, o - 1, v, ag))) := by
  rw [L139_S]
  unfold b_139_8 b_139_51
  rw [xg_64_0, xV_58, u_size hT (Nat.le_refl N), bI_s, xg_64_0, xV_58, u_is hT (Nat.le_refl N), bI_s, i01, if_neg (kN hT (by decide)), xg_64_0, xV_58, r_fine, bI_s, i01, if_neg (show ¬ f = 0 from hf), xV_64, u_closeN hT hf, bN_s, ite_self]
theorem n_block (hT : TH T N s) (hf : ¬ f = 0) : mjF (d + 4) 139 [.ref 64] (mjW0 (eR s (N, f, p, o, v, ag))) = some (none, mjW0 (eR s (N, f, p, o - 1, v, ag))) := by
  rw [e_139]
  unfold f_139 b_139_0
  rw [xV_64, u_openN hT hf (by decide), bN_s, show mjN = 99999999 + 1 from rfl, n_blk8 hT hf]
theorem n_var (hT : TH T N s) (hf : ¬ f = 0) : ∃ v', mjF (d + 4) 150 [.ref 64] (mjW0 (eR s (N, f, p, o, v, ag))) = some (none, mjW0 (eR s (N, f, p, o, v', ag))) := by
  refine ⟨v + 1, ?_⟩
  rw [e_150]
  unfold f_150 b_150_0 b_150_33
  rw [xV_64, x_typeN hT hf, bN_s]
  simp only [xg_64_10, eR_v, xg_64_0, xV_58, u_is hT (Nat.le_refl N), bI_s, i01, if_neg (kN hT (k := 3) (by decide)), xp_64_10, wR_v, u_needN hT hf, bN_s, if_true, ite_self]
/-- readVariable -/
theorem x_var (hT : TH T N s) {q td c1 : Nat} (hc : c ≤ N) (h16 : td ≤ 16) (hc1 : pType T c = .inr c1) : (T c1).1 = 3 → (td = 16 → bOK s T N (mjF (d + 4) 150 [.ref 64] (mjW0 (eR s (c, 0, p, nI q, nI td, ag)))) (3, c1)) ∧ (¬ td = 16 → (T (c1 + 1)).1 = 61 → c1 + 1 < N ∧ mjF (d + 4) 150 [.ref 64] (mjW0 (eR s (c, 0, p, nI q, nI td, ag))) = some (none, mjW0 (eR s (c1 + 2, 0, p, nI q, nI (td + 1), ag)))) ∧ (¬ td = 16 → ¬ (T (c1 + 1)).1 = 61 → bOK s T N (mjF (d + 4) 150 [.ref 64] (mjW0 (eR s (c, 0, p, nI q, nI td, ag)))) (F2 T (c1 + 1))) := by
  intro h3
  have h1 := x_type (d := d) (p := p) (o := nI q) (v := nI td) (ag := ag) hT hc
  rw [hc1] at h1
  obtain ⟨hl, h1⟩ := h1
  have hl1 := lt_of hT hl h3 (by decide)
  rw [e_150]
  unfold f_150 b_150_0
  rw [xV_64, h1, bN_s, xg_64_10, eR_v]
  refine ⟨fun h => ?_, fun h h61 => ?_, fun h h61 => ?_⟩
  · subst h
    rw [if_pos (show nI 16 = 16 from rfl), xg_64_0, xV_58, u_is hT hl, bI_s, i01, if_pos h3, xg_64_0, xV_58, u_ref3 hT hl (by rw [h3]; decide), bN_s]
    unfold b_150_33
    rw [xg_64_10, xp_64_10, wR_v, xg_64_0, xV_58, u_needN hT (show ¬ nI 3 = 0 by decide), bN_s, xg_64_0, xV_58, u_needN hT (show ¬ nI 3 = 0 by decide), bN_s]
    exact ⟨Or.inr (Or.inr rfl), _, _, _, rfl⟩
  · have hl2 := lt_of hT (c := c1 + 1) (by omega) h61 (by decide)
    rw [if_neg (show ¬ nI td = 16 from fun e => h ((nI_eq (a := td) (b := 16) (by omega) (by omega)).mp e))]
    unfold b_150_33
    rw [xg_64_10, eR_v, nI_1, xp_64_10, wR_v, xg_64_0, xV_58, u_need hT hl h3 (by decide), bN_s, xg_64_0, xV_58, u_need hT (by omega) h61 (by decide), bN_s]
    exact ⟨hl2, rfl⟩
  · rw [if_neg (show ¬ nI td = 16 from fun e => h ((nI_eq (a := td) (b := 16) (by omega) (by omega)).mp e))]
    unfold b_150_33
    rw [xg_64_10, eR_v, nI_1, xp_64_10, wR_v, xg_64_0, xV_58, u_need hT hl h3 (by decide), bN_s, xg_64_0, xV_58, u_need2 hT (by omega) h61, bN_s]
    exact ⟨F2_in T _, _, _, _, rfl⟩
theorem x_varT (hT : TH T N s) {q td : Nat} {e : Nat × Nat} (hc : c ≤ N) (he : pType T c = .inl e) : bOK s T N (mjF (d + 4) 150 [.ref 64] (mjW0 (eR s (c, 0, p, nI q, nI td, ag)))) e := by
  have h1 := x_type (d := d) (p := p) (o := nI q) (v := nI td) (ag := ag) hT hc
  rw [he] at h1
  obtain ⟨hn, h1⟩ := h1
  rw [e_150]
  unfold f_150 b_150_0 b_150_33
  rw [xV_64, h1, bN_s]
  simp only [xg_64_10, eR_v, xg_64_0, xV_58, u_is hT (Nat.le_refl N), bI_s, i01, if_neg (kN hT (k := 3) (by decide)), xp_64_10, wR_v, u_needN hT (in_n0 hn), bN_s, if_true, ite_self]
  exact ⟨hn, _, _, _, rfl⟩
theorem x_varN (hT : TH T N s) {q td c1 : Nat} (hc : c ≤ N) (hc1 : pType T c = .inr c1) (h3 : ¬ (T c1).1 = 3) : bOK s T N (mjF (d + 4) 150 [.ref 64] (mjW0 (eR s (c, 0, p, nI q, nI td, ag)))) (F2 T c1) := by
  have h1 := x_type (d := d) (p := p) (o := nI q) (v := nI td) (ag := ag) hT hc
  rw [hc1] at h1
  obtain ⟨hl, h1⟩ := h1
  rw [e_150]
  unfold f_150 b_150_0 b_150_33
  rw [xV_64, h1, bN_s]
  simp only [xg_64_10, eR_v, xg_64_0, xV_58, u_is hT hl, bI_s, i01, if_neg h3, xp_64_10, wR_v, u_need2 hT hl h3, bN_s, if_true, ite_self, u_needN hT (F2_n0 T c1)]
  exact ⟨F2_in T _, _, _, _, rfl⟩
end MJ49
end
section
/-! ===== the class reads STATEMENTS and BLOCKS so ===== -/
section MJ50
variable {T : TT} {d N c : Nat} {s : mjSt3} {f p o v : Int32} {ag : Nat → Int32}
theorem nz0 : narrow .boolean (.int 0) = .int 0 := by rfl
theorem nz1 : narrow .boolean (.int 1) = .int 1 := by rfl
theorem x_set1 (hT : TH T N s) (hc : c ≤ N) {sh : Int32} (h61 : (T c).1 = 61) (hs : sh = 1 ∨ sh = 2) : mjF (d + 3) 151 [.ref 64, .int sh] (mjW0 (eR s (c, 0, p, o, v, ag))) = some (some (.int 1), mjW0 (eR s (c + 1, 0, p, o, v, ag))) := by
  have hl := lt_of hT hc h61 (by decide)
  have e : b_151_22 (mjF (d + 2)) 64 sh (mjW0 (eR s (c, 0, p, o, v, ag))) = some (some (.int 1), mjW0 (eR s (c + 1, 0, p, o, v, ag))) := by
    unfold b_151_22 b_151_27 b_151_49 b_151_50 b_151_77
    rw [xg_64_0, xV_58, u_is hT hc, bI_s, i01, if_neg (show ¬ (T c).1 = 59 from fun e => by rw [h61] at e; exact absurd e (by decide)), if_neg (show ¬ (1 : Int32) = 0 by decide), xg_64_0, xV_58, u_skip hT hl, bN_s, if_pos nz1]
  rw [e_151]
  unfold f_151 b_151_0
  rw [xg_64_0, xV_58, u_is hT hc, bI_s, i01, if_pos h61, e]
  rcases hs with h | h
  · rw [if_pos h]
  · rw [if_neg (by rw [h]; decide), if_pos h]
theorem x_set0 (hT : TH T N s) (hc : c ≤ N) (h59 : (T c).1 = 59) : mjF (d + 3) 151 [.ref 64, .int 3] (mjW0 (eR s (c, 0, p, o, v, ag))) = some (some (.int 0), mjW0 (eR s (c, 0, p, o, v, ag))) := by
  rw [e_151]
  unfold f_151 b_151_0 b_151_26 b_151_27 b_151_50 b_151_77
  rw [xg_64_0, xV_58, u_is hT hc, bI_s, i01, if_neg (show ¬ (T c).1 = 61 from fun e => by rw [h59] at e; exact absurd e (by decide)), xg_64_0, xV_58, u_is hT hc, bI_s, i01, if_pos h59, if_pos rfl, if_pos rfl, if_neg (show ¬ (1 : Int32) = 0 by decide), if_pos nz0]
theorem x_setB (hT : TH T N s) (hc : c ≤ N) {sh : Int32} (h1 : ¬ ((T c).1 = 61 ∧ (sh = 1 ∨ sh = 2))) (h2 : ¬ ((T c).1 = 59 ∧ sh = 3)) : mjF (d + 3) 151 [.ref 64, .int sh] (mjW0 (eR s (c, 0, p, o, v, ag))) = some (some (.int 0), mjW0 (eR s (N, nI (F2 T c).1, (T (F2 T c).2).2.1, o, v, ag))) := by
  have e49 : b_151_49 (mjF (d + 2)) 64 0 (mjW0 (eR s (c, 0, p, o, v, ag))) = some (some (.int 0), mjW0 (eR s (N, nI (F2 T c).1, (T (F2 T c).2).2.1, o, v, ag))) := by
    unfold b_151_49 b_151_50 b_151_77
    rw [if_pos rfl, if_pos rfl, xg_64_0, xV_58, u_ref2 hT hc, bN_s, if_pos nz0]
  have e : b_151_26 (mjF (d + 2)) 64 sh (mjW0 (eR s (c, 0, p, o, v, ag))) = some (some (.int 0), mjW0 (eR s (N, nI (F2 T c).1, (T (F2 T c).2).2.1, o, v, ag))) := by
    unfold b_151_26 b_151_27
    rw [xg_64_0, xV_58, u_is hT hc, bI_s, i01, e49]
    by_cases h59 : (T c).1 = 59
    · rw [if_pos h59, if_neg (fun q => h2 ⟨h59, q⟩)]
    · rw [if_neg h59]
  rw [e_151]
  unfold f_151 b_151_0
  rw [xg_64_0, xV_58, u_is hT hc, bI_s, i01, e]
  by_cases h61 : (T c).1 = 61
  · rw [if_pos h61, if_neg (fun q => h1 ⟨h61, Or.inl q⟩), if_neg (fun q => h1 ⟨h61, Or.inr q⟩)]
  · rw [if_neg h61]
theorem x_setN (hT : TH T N s) (hf : ¬ f = 0) (sh : Int32) : mjF (d + 3) 151 [.ref 64, .int sh] (mjW0 (eR s (N, f, p, o, v, ag))) = some (some (.int 0), mjW0 (eR s (N, f, p, o, v, ag))) := by
  rw [e_151]
  unfold f_151 b_151_0 b_151_26 b_151_27 b_151_49 b_151_50 b_151_77
  rw [xg_64_0, xV_58, u_is hT (Nat.le_refl N), bI_s, i01, if_neg (kN hT (by decide)), xg_64_0, xV_58, u_is hT (Nat.le_refl N), bI_s, i01, if_neg (kN hT (by decide)), if_pos rfl, if_pos rfl, xg_64_0, xV_58, u_refN hT hf, bN_s, if_pos nz0]
/-- readGuarded -/
def gOK (s : mjSt3) (T : TT) (N : Nat) (u : mjU) (p : Int32) (o : Nat) (ag : Nat → Int32) (r : (Nat × Nat) ⊕ (PZ × PB)) : Prop := match r with
  | .inl e => bOK s T N u e
  | .inr yz => yz.2.1 ≤ N ∧ u = some (none, mjW0 (eR s (yz.2.1, 0, p, nI o, nI yz.2.2.1, rAg (yz.1.2.2.2.2 ++ yz.2.2.2.2.2) ag)))
theorem x_grd (hT : TH T N s) {D q td kq i0 : Nat} {bl : Nat → Nat → Nat → Nat → PY} (hD : 110 ≤ D) (hq : q ≤ 12) (hc : c < N) (hb : ∀ (c kq i0 : Nat) (ag : Nat → Int32), c ≤ N → sOK s T N (mjF D 139 [.ref 64] (mjW0 (eR s (c, 0, p, nI q, nI td, ag)))) p q ag (bl c td kq i0)) :
    gOK s T N (mjF (D + 1) 141 [.ref 64] (mjW0 (eR s (c, 0, p, nI q, nI td, ag)))) p q ag (pGrd T (N + 1) bl q c td kq i0) := by
  obtain ⟨D, rfl⟩ : ∃ e, D = e + 110 := ⟨D - 110, by omega⟩
  rw [e_141]
  unfold f_141 b_141_0 pGrd
  rw [xg_64_0, xV_58, u_skip hT hc, bN_s, xV_64]
  by_cases h40 : (T (c + 1)).1 = 40
  · have hl := lt_of hT (c := c + 1) (by omega) h40 (by decide)
    rw [if_pos h40]
    by_cases h12 : q = 12
    · subst h12
      rw [if_pos rfl, u_open3 hT (by omega) h40 (by decide), bN_s, xV_64, n_value hT (by decide), bI_s, xV_64, u_closeN hT (by decide), bN_s, xV_64, n_block hT (by decide), bN_s]
      exact ⟨Or.inr (Or.inr rfl), _, _, _, rfl⟩
    · rw [if_neg h12, u_open hT (by omega) h40 (by decide) (by omega), bN_s, xV_64]
      have h1 := x_val (p := p) (v := nI td) (ag := ag) hT (D := D + 110) (q := q + 1) (c := c + 2) (kq := kq) (by omega) (by omega) (by omega)
      cases hd : prV T (N + 1) (q + 1) (c + 2) kq with
      | inl e =>
        rw [hd] at h1
        obtain ⟨he, w, o', ag', h1⟩ := h1
        rw [h1, bI_s, xV_64, u_closeN hT (in_n0 he), bN_s, xV_64, n_block hT (in_n0 he), bN_s]
        exact ⟨he, _, _, _, rfl⟩
      | inr y =>
        rw [hd] at h1
        obtain ⟨hy, h1⟩ := h1
        rw [h1, bI_s, xV_64]
        by_cases h41 : (T y.1).1 = 41
        · have hl2 := lt_of hT hy h41 (by decide)
          rw [u_close hT hy h41 (by decide), bN_s, xV_64]
          simp only [if_pos h41]
          have h2 := hb (y.1 + 1) (kq + y.2.2.1.length) (i0 + y.2.2.2.1.length + 1) (rAg y.2.2.2.2 ag) hl2
          cases hd2 : bl (y.1 + 1) td (kq + y.2.2.1.length) (i0 + y.2.2.2.1.length + 1) with
          | inl e =>
            rw [hd2] at h2
            obtain ⟨he, o', v', ag', h2⟩ := h2
            rw [h2, bN_s]
            exact ⟨he, _, _, _, rfl⟩
          | inr z =>
            rw [hd2] at h2
            obtain ⟨hz, h2⟩ := h2
            rw [h2, bN_s, ← rAg_app]
            exact ⟨hz, rfl⟩
        · rw [u_close2 hT hy h41, bN_s, xV_64, n_block hT (F2_n0 T _), bN_s]
          simp only [if_neg h41]
          exact ⟨F2_in T _, _, _, _, rfl⟩
  · rw [if_neg h40, u_open2 hT (by omega) h40, bN_s, xV_64, n_value hT (F2_n0 T _), bI_s, xV_64, u_closeN hT (F2_n0 T _), bN_s, xV_64, n_block hT (F2_n0 T _), bN_s]
    exact ⟨F2_in T _, _, _, _, rfl⟩
/-- the STATEMENTS of a BLOCK and its } -/
theorem lq_139 (hT : TH T N s) {D q kq i0 : Nat} {rd : Nat → Nat → Nat → Nat → PY} (hD : 4 ≤ D) (hr : ∀ (c td kq i0 : Nat) (ag : Nat → Int32), c ≤ N → td ≤ 16 → sOK s T N (mjF D 140 [.ref 64] (mjW0 (eR s (c, 0, p, nI (q + 1), nI td, ag)))) p (q + 1) ag (rd c td kq i0)) (h16 : ∀ (c td kq i0 : Nat) (y : PB), td ≤ 16 → rd c td kq i0 = .inr y → y.2.1 ≤ 16) :
    ∀ (k i n : Nat) (z : PB), i + k = N + 1 → k < n → z.1 ≤ N → z.2.1 ≤ 16 → sOK s T N (L_139_8 (mjF D) n 64 (nI i) (mjW0 (eR s (z.1, 0, p, nI (q + 1), nI z.2.1, rAg z.2.2.2.2 ag)))) p q ag (match pSeq T rd kq i0 k z with
      | .inl e => .inl e
      | .inr z => if (T z.1).1 = 125 then .inr (z.1 + 1, z.2.1, z.2.2.1, z.2.2.2.1 ++ [(27, (T (z.1 + 1)).2.1, 0, 0, 0)], z.2.2.2.2) else .inl (F2 T z.1)) := by
  obtain ⟨D, rfl⟩ : ∃ e, D = e + 4 := ⟨D - 4, by omega⟩
  have h3 := hT.2.1
  have fin : ∀ z : PB, z.1 ≤ N → sOK s T N (b_139_51 (mjF (D + 4)) 64 (mjW0 (eR s (z.1, 0, p, nI (q + 1), nI z.2.1, rAg z.2.2.2.2 ag)))) p q ag (if (T z.1).1 = 125 then .inr (z.1 + 1, z.2.1, z.2.2.1, z.2.2.2.1 ++ [(27, (T (z.1 + 1)).2.1, 0, 0, 0)], z.2.2.2.2) else .inl (F2 T z.1)) := by
    intro z hz
    unfold b_139_51
    rw [xV_64]
    by_cases h125 : (T z.1).1 = 125
    · have hl := lt_of hT hz h125 (by decide)
      rw [if_pos h125, u_close hT hz h125 (by decide), bN_s]
      exact ⟨hl, rfl⟩
    · rw [if_neg h125, u_close2 hT hz h125, bN_s]
      exact ⟨F2_in T _, _, _, _, rfl⟩
  intro k
  induction k with
  | zero =>
    intro i n z hi hq hz h16z
    obtain ⟨n, rfl⟩ : ∃ m, n = m + 1 := ⟨n - 1, by omega⟩
    rw [L139_S]
    unfold b_139_8 pSeq
    rw [xg_64_0, xV_58, u_size hT hz, bI_s, if_pos (nI_le (by omega) (by omega))]
    exact fin z hz
  | succ k ih =>
    intro i n z hi hq hz h16z
    obtain ⟨n, rfl⟩ : ∃ m, n = m + 1 := ⟨n - 1, by omega⟩
    rw [L139_S]
    unfold b_139_8 pSeq
    rw [xg_64_0, xV_58, u_size hT hz, bI_s, if_neg (nI_ge (by omega) (by omega)), xg_64_0, xV_58, u_is hT hz, bI_s, i01]
    by_cases h125 : (T z.1).1 = 125
    · rw [if_pos h125]
      have := fin z hz
      simp only [if_pos h125] at this ⊢
      exact this
    · rw [if_neg h125, xg_64_0, xV_58, r_fine, bI_s, i01, if_pos (show (0 : Int32) = 0 from rfl), xV_64]
      simp only [if_neg h125]
      have h := hr z.1 z.2.1 (kq + z.2.2.1.length) (i0 + z.2.2.2.1.length) (rAg z.2.2.2.2 ag) hz h16z
      cases hd : rd z.1 z.2.1 (kq + z.2.2.1.length) (i0 + z.2.2.2.1.length) with
      | inl e =>
        rw [hd] at h
        obtain ⟨he, o', v', ag', h⟩ := h
        obtain ⟨n, rfl⟩ : ∃ m, n = m + 1 := ⟨n - 1, by omega⟩
        rw [h, bN_s, n_blk8 hT (in_n0 he)]
        exact ⟨he, _, _, _, rfl⟩
      | inr y =>
        have hy16 := h16 _ _ _ _ _ h16z hd
        rw [hd] at h
        obtain ⟨hy, h⟩ := h
        rw [h, bN_s, nI_1, ← rAg_app]
        exact ih (i + 1) n (y.1, y.2.1, z.2.2.1 ++ y.2.2.1, z.2.2.2.1 ++ y.2.2.2.1, z.2.2.2.2 ++ y.2.2.2.2) (by omega) (by omega) hy hy16
/-- no more than 16 VARIABLES are told -/
theorem pSeq_16 {rd : Nat → Nat → Nat → Nat → PY} {kq i0 : Nat} (h16 : ∀ (c td kq i0 : Nat) (y : PB), td ≤ 16 → rd c td kq i0 = .inr y → y.2.1 ≤ 16) : ∀ (k : Nat) (z y : PB), z.2.1 ≤ 16 → pSeq T rd kq i0 k z = .inr y → y.2.1 ≤ 16
  | 0, z, y, hz, h => by
    cases h
    exact hz
  | k + 1, z, y, hz, h => by
    unfold pSeq at h
    by_cases g : (T z.1).1 = 125
    · rw [if_pos g] at h
      cases h
      exact hz
    · rw [if_neg g] at h
      cases hd : rd z.1 z.2.1 (kq + z.2.2.1.length) (i0 + z.2.2.2.1.length) with
      | inl e => rw [hd] at h; cases h
      | inr w =>
        rw [hd] at h
        have hw := h16 _ _ _ _ w hz hd
        exact pSeq_16 (kq := kq) (i0 := i0) h16 k (w.1, w.2.1, z.2.2.1 ++ w.2.2.1, z.2.2.2.1 ++ w.2.2.2.1, z.2.2.2.2 ++ w.2.2.2.2) y hw h
end MJ50
end
section
/-! ===== the class reads STATEMENTS and BLOCKS so: all together ===== -/
section MJ51
variable {T : TT} {d N c : Nat} {s : mjSt3} {f p o v : Int32} {ag : Nat → Int32}
theorem pGrd_inr {M o c td kq i0 : Nat} {bl : Nat → Nat → Nat → Nat → PY} {yz : PZ × PB} (h : pGrd T M bl o c td kq i0 = .inr yz) : (T (c + 1)).1 = 40 ∧ ¬ o = 12 ∧ prV T M (o + 1) (c + 2) kq = .inr yz.1 ∧ (T yz.1.1).1 = 41 ∧ bl (yz.1.1 + 1) td (kq + yz.1.2.2.1.length) (i0 + yz.1.2.2.2.1.length + 1) = .inr yz.2 := by
  unfold pGrd at h
  by_cases h40 : (T (c + 1)).1 = 40
  · rw [if_pos h40] at h
    by_cases h12 : o = 12
    · rw [if_pos h12] at h; cases h
    · rw [if_neg h12] at h
      cases hd : prV T M (o + 1) (c + 2) kq with
      | inl e => rw [hd] at h; cases h
      | inr y =>
        rw [hd] at h
        by_cases h41 : (T y.1).1 = 41
        · simp only [if_pos h41] at h
          cases hd2 : bl (y.1 + 1) td (kq + y.2.2.1.length) (i0 + y.2.2.2.1.length + 1) with
          | inl e => rw [hd2] at h; cases h
          | inr z =>
            rw [hd2] at h
            cases h
            exact ⟨h40, h12, rfl, h41, hd2⟩
        · simp only [if_neg h41] at h
          cases h
  · rw [if_neg h40] at h; cases h
theorem prS_16 {M : Nat} : ∀ (f tag o c td kq i0 : Nat) (y : PB), td ≤ 16 → prS T M f tag o c td kq i0 = .inr y → y.2.1 ≤ 16
  | 0, _, _, _, _, _, _, _, _, h => by cases h
  | f + 1, 0, o, c, td, kq, i0, y, ht, h => by
    have ih := prS_16 (M := M) f
    rw [prS_0] at h
    unfold pBlk at h
    by_cases h123 : (T c).1 = 123
    · rw [if_pos h123] at h
      by_cases h12 : o = 12
      · rw [if_pos h12] at h; cases h
      · rw [if_neg h12] at h
        cases hd : pSeq T (prS T M f 1 (o + 1)) kq i0 M (c + 1, td, [], [(26, (T (c + 1)).2.1, 0, 0, 0)], []) with
        | inl e => rw [hd] at h; cases h
        | inr z =>
          rw [hd] at h
          have hz := pSeq_16 (fun c td kq i0 y h1 h2 => ih 1 (o + 1) c td kq i0 y h1 h2) M _ z ht hd
          by_cases g : (T z.1).1 = 125
          · simp only [if_pos g] at h
            cases h
            exact hz
          · simp only [if_neg g] at h
            cases h
    · rw [if_neg h123] at h; cases h
  | f + 1, tag + 1, o, c, td, kq, i0, y, ht, h => by
    have ih := prS_16 (M := M) f
    have h' : prS T M (f + 1) 1 o c td kq i0 = .inr y := h
    rw [prS_1] at h'
    by_cases g1 : (T c).1 = 2 ∨ (T c).1 = 10
    · rw [if_pos g1] at h'
      unfold pDecl at h'
      cases hd : pType T c with
      | inl e => rw [hd] at h'; cases h'
      | inr c1 =>
        rw [hd] at h'
        by_cases a3 : (T c1).1 = 3
        · simp only [if_pos a3] at h'
          by_cases a16 : td = 16
          · simp only [if_pos a16] at h'; cases h'
          · simp only [if_neg a16] at h'
            by_cases a61 : (T (c1 + 1)).1 = 61
            · simp only [if_pos a61] at h'
              generalize kq + (if (T c).1 = 10 then 0 else 1) = kq' at h'
              cases hv : prV T M o (c1 + 2) kq' with
              | inl e => rw [hv] at h'; cases h'
              | inr w =>
                rw [hv] at h'
                by_cases a59 : (T w.1).1 = 59
                · simp only [if_pos a59] at h'
                  cases h'
                  show td + 1 ≤ 16
                  omega
                · simp only [if_neg a59] at h'; cases h'
            · simp only [if_neg a61] at h'; cases h'
        · simp only [if_neg a3] at h'; cases h'
    rw [if_neg g1] at h'
    by_cases g2 : (T c).1 = 15
    · rw [if_pos g2] at h'
      unfold pIf at h'
      cases hd : pGrd T M (prS T M f 0 o) o c td kq (i0 + 1) with
      | inl e => rw [hd] at h'; cases h'
      | inr yz =>
        rw [hd] at h'
        have g := pGrd_inr hd
        have hz := ih 0 o _ td _ _ yz.2 ht g.2.2.2.2
        by_cases a16 : (T yz.2.1).1 = 16
        · simp only [if_pos a16] at h'
          cases hw : prS T M f 0 o (yz.2.1 + 1) yz.2.2.1 (kq + yz.1.2.2.1.length + yz.2.2.2.1.length) (i0 + 3 + yz.1.2.2.2.1.length + yz.2.2.2.2.1.length) with
          | inl e => rw [hw] at h'; cases h'
          | inr w =>
            rw [hw] at h'
            cases h'
            exact ih 0 o _ _ _ _ w hz hw
        · simp only [if_neg a16] at h'
          cases h'
          exact hz
    rw [if_neg g2] at h'
    by_cases g3 : (T c).1 = 17
    · rw [if_pos g3] at h'
      unfold pWhile at h'
      cases hd : pGrd T M (prS T M f 0 o) o c td kq (i0 + 2) with
      | inl e => rw [hd] at h'; cases h'
      | inr yz =>
        rw [hd] at h'
        have g := pGrd_inr hd
        have hz := ih 0 o _ td _ _ yz.2 ht g.2.2.2.2
        cases h'
        exact hz
    rw [if_neg g3] at h'
    have give : ∀ w : Int32, pGive T M o c td kq w = .inr y → y.2.1 ≤ 16 := by
      intro w h'
      unfold pGive at h'
      cases hv : prV T M o (c + 1) kq with
      | inl e => rw [hv] at h'; cases h'
      | inr x =>
        rw [hv] at h'
        by_cases a59 : (T x.1).1 = 59
        · simp only [if_pos a59] at h'
          cases h'
          exact ht
        · simp only [if_neg a59] at h'; cases h'
    by_cases g4 : (T c).1 = 18
    · rw [if_pos g4] at h'
      exact give _ h'
    rw [if_neg g4] at h'
    by_cases g5 : (T c).1 = 19
    · rw [if_pos g5] at h'
      exact give _ h'
    rw [if_neg g5] at h'
    by_cases g6 : (T c).1 = 123
    · rw [if_pos g6] at h'
      exact ih 0 o c td kq i0 y ht h'
    rw [if_neg g6] at h'
    unfold pUse at h'
    cases hv : prV T M o c kq with
    | inl e => rw [hv] at h'; cases h'
    | inr x =>
      rw [hv] at h'
      by_cases a : (T x.1).1 = 61 ∧ (x.2.1 = 1 ∨ x.2.1 = 2)
      · simp only [if_pos a] at h'
        cases hw : prV T M o (x.1 + 1) (kq + x.2.2.1.length) with
        | inl e => rw [hw] at h'; cases h'
        | inr w =>
          rw [hw] at h'
          by_cases a59 : (T w.1).1 = 59
          · simp only [if_pos a59] at h'
            cases h'
            exact ht
          · simp only [if_neg a59] at h'; cases h'
      · simp only [if_neg a] at h'
        by_cases b : (T x.1).1 = 59 ∧ x.2.1 = 3
        · simp only [if_pos b] at h'
          cases h'
          exact ht
        · simp only [if_neg b] at h'; cases h'
/-- BLOCK and STATEMENT, by fuel -/
def rdS (T : TT) (N : Nat) (s : mjSt3) (f : Nat) : Prop := ∀ (D q c td kq i0 : Nat) (p : Int32) (ag : Nat → Int32), 2 * f + 130 ≤ D → q ≤ 12 → c ≤ N → td ≤ 16 →
  (2 * (12 - q) + 1 ≤ f → sOK s T N (mjF D 139 [.ref 64] (mjW0 (eR s (c, 0, p, nI q, nI td, ag)))) p q ag (prS T (N + 1) f 0 q c td kq i0)) ∧
  (2 * (12 - q) + 2 ≤ f → sOK s T N (mjF D 140 [.ref 64] (mjW0 (eR s (c, 0, p, nI q, nI td, ag)))) p q ag (prS T (N + 1) f 1 q c td kq i0))
theorem rdS_ok (hT : TH T N s) : ∀ f, rdS T N s f
  | 0 => by
    intro D q c td kq i0 p ag hD hq hc ht
    refine ⟨fun h => ?_, fun h => ?_⟩ <;> omega
  | f + 1 => by
    have ih := rdS_ok hT f
    intro D q c td kq i0 p ag hD hq hc ht
    obtain ⟨D, rfl⟩ : ∃ e, D = e + 132 := ⟨D - 132, by omega⟩
    refine ⟨fun h => ?_, fun h => ?_⟩
    · -- BLOCK
      rw [e_139]
      unfold f_139 b_139_0
      rw [xV_64, prS_0, show mjN = 99999999 + 1 from rfl]
      unfold pBlk
      by_cases h123 : (T c).1 = 123
      · have hl := lt_of hT hc h123 (by decide)
        rw [if_pos h123]
        by_cases h12 : q = 12
        · subst h12
          rw [if_pos rfl, u_open3 hT hc h123 (by decide), bN_s, n_blk8 hT (by decide)]
          exact ⟨Or.inr (Or.inr rfl), _, _, _, rfl⟩
        · rw [if_neg h12, u_open hT hc h123 (by decide) (by omega), bN_s]
          exact lq_139 (p := p) (ag := ag) hT (D := D + 131) (q := q) (by omega) (fun c' td' kq' i0' ag' hc' ht' => (ih (D + 131) (q + 1) c' td' kq' i0' p ag' (by omega) (by omega) hc' ht').2 (by omega)) (fun c td kq i0 y h1 h2 => prS_16 f 1 (q + 1) c td kq i0 y h1 h2) (N + 1) 0 (99999999 + 1) (c + 1, td, [], [(26, (T (c + 1)).2.1, 0, 0, 0)], []) (by omega) (by have := hT.2.1; omega) hl ht
      · rw [if_neg h123, u_open2 hT hc h123, bN_s, n_blk8 hT (F2_n0 T _)]
        exact ⟨F2_in T _, _, _, _, rfl⟩
    · -- STATEMENT
      have hblk : ∀ (td : Nat), td ≤ 16 → ∀ (c kq i0 : Nat) (ag : Nat → Int32), c ≤ N → sOK s T N (mjF (D + 131) 139 [.ref 64] (mjW0 (eR s (c, 0, p, nI q, nI td, ag)))) p q ag (prS T (N + 1) f 0 q c td kq i0) :=
        fun td ht c kq i0 ag hc => (ih (D + 131) q c td kq i0 p ag (by omega) hq hc ht).1 (by omega)
      have hblk2 : ∀ (c kq i0 : Nat) (ag : Nat → Int32), c ≤ N → sOK s T N (mjF (D + 130) 139 [.ref 64] (mjW0 (eR s (c, 0, p, nI q, nI td, ag)))) p q ag (prS T (N + 1) f 0 q c td kq i0) :=
        fun c kq i0 ag hc => (ih (D + 130) q c td kq i0 p ag (by omega) hq hc ht).1 (by omega)
      rw [e_140]
      unfold f_140 b_140_0
      rw [xg_64_0, xV_58, u_kind hT hc, bI_s, prS_1]
      have decl : (T c).1 = 2 ∨ (T c).1 = 10 → sOK s T N (b_140_116 (mjF (D + 131)) 64 (mjW0 (eR s (c, 0, p, nI q, nI td, ag)))) p q ag (pDecl T (N + 1) q c td kq) := by
        intro hk
        unfold b_140_116 pDecl
        rw [xV_64]
        have tl : ∀ (e : Nat × Nat), bOK s T N (mjF (D + 131) 150 [.ref 64] (mjW0 (eR s (c, 0, p, nI q, nI td, ag)))) e → bOK s T N (bN (mjF (D + 131) 150 [.ref 64] (mjW0 (eR s (c, 0, p, nI q, nI td, ag)))) fun hp1 => rV hp1 64 8 (bI (mjF (D + 131) 142 [.ref 64] hp1) fun v2 hp3 => gR hp3 64 8 0 fun v4 => rV hp3 v4 9 (bN (mjF (D + 131) 169 [.ref v4, .int 59] hp3) fun hp5 => some (none, hp5)))) e := by
          intro e hb
          obtain ⟨he, o', v', ag', hb⟩ := hb
          rw [hb, bN_s, xV_64, n_value hT (in_n0 he), bI_s, xg_64_0, xV_58, u_needN hT (in_n0 he), bN_s]
          exact ⟨he, _, _, _, rfl⟩
        cases hd : pType T c with
        | inl e => exact tl e (x_varT hT hc hd)
        | inr c1 =>
          by_cases a3 : (T c1).1 = 3
          · have h1 := x_var (d := D + 127) (p := p) (q := q) (ag := ag) hT hc ht hd a3
            simp only [if_pos a3]
            by_cases a16 : td = 16
            · simp only [if_pos a16]
              exact tl _ (h1.1 a16)
            · simp only [if_neg a16]
              by_cases a61 : (T (c1 + 1)).1 = 61
              · simp only [if_pos a61]
                obtain ⟨hl, h2⟩ := h1.2.1 a16 a61
                rw [h2, bN_s, xV_64]
                have h3 := x_val (p := p) (v := nI (td + 1)) (ag := ag) hT (D := D + 131) (q := q) (c := c1 + 2) (kq := kq + (if (T c).1 = 10 then 0 else 1)) (by omega) hq (by omega)
                cases hv : prV T (N + 1) q (c1 + 2) (kq + (if (T c).1 = 10 then 0 else 1)) with
                | inl e =>
                  rw [hv] at h3
                  obtain ⟨he, w, o', ag', h3⟩ := h3
                  rw [h3, bI_s, xg_64_0, xV_58, u_needN hT (in_n0 he), bN_s]
                  exact ⟨he, _, _, _, rfl⟩
                | inr y =>
                  rw [hv] at h3
                  obtain ⟨hy, h3⟩ := h3
                  rw [h3, bI_s, xg_64_0, xV_58]
                  by_cases a59 : (T y.1).1 = 59
                  · have hl2 := lt_of hT hy a59 (by decide)
                    rw [u_need hT hy a59 (by decide), bN_s]
                    simp only [if_pos a59]
                    exact ⟨hl2, rfl⟩
                  · rw [u_need2 hT hy a59, bN_s]
                    simp only [if_neg a59]
                    exact ⟨F2_in T _, _, _, _, rfl⟩
              · simp only [if_neg a61]
                exact tl _ (h1.2.2 a16 a61)
          · simp only [if_neg a3]
            exact tl _ (x_varN hT hc hd a3)
      by_cases k2 : (T c).1 = 2
      · rw [if_pos k2, if_pos (Or.inl k2)]
        exact decl (Or.inl k2)
      by_cases k10 : (T c).1 = 10
      · rw [if_neg k2, if_pos k10, if_pos (Or.inr k10)]
        exact decl (Or.inr k10)
      rw [if_neg k2, if_neg k10, if_neg (show ¬ ((T c).1 = 2 ∨ (T c).1 = 10) from fun z => z.elim k2 k10)]
      by_cases k15 : (T c).1 = 15
      · have hl := lt_of hT hc k15 (by decide)
        rw [if_pos k15, if_pos k15, xV_64]
        unfold pIf
        have h1 := x_grd (p := p) (ag := ag) (kq := kq) (i0 := i0 + 1) hT (D := D + 130) (by omega) hq hl hblk2
        cases hd : pGrd T (N + 1) (prS T (N + 1) f 0 q) q c td kq (i0 + 1) with
        | inl e =>
          rw [hd] at h1
          obtain ⟨he, o', v', ag', h1⟩ := h1
          rw [h1, bN_s, xg_64_0, xV_58, u_is hT (Nat.le_refl N), bI_s, i01, if_neg (kN hT (by decide))]
          exact ⟨he, _, _, _, rfl⟩
        | inr yz =>
          have hz16 := prS_16 f 0 q _ td _ _ yz.2 ht (pGrd_inr hd).2.2.2.2
          rw [hd] at h1
          obtain ⟨hy, h1⟩ := h1
          rw [h1, bN_s, xg_64_0, xV_58, u_is hT hy, bI_s, i01]
          by_cases a16 : (T yz.2.1).1 = 16
          · have hl2 := lt_of hT hy a16 (by decide)
            rw [if_pos a16, xg_64_0, xV_58, u_skip hT hl2, bN_s, xV_64]
            simp only [if_pos a16]
            have h2 := hblk yz.2.2.1 hz16 (yz.2.1 + 1) (kq + yz.1.2.2.1.length + yz.2.2.2.1.length) (i0 + 3 + yz.1.2.2.2.1.length + yz.2.2.2.2.1.length) (rAg (yz.1.2.2.2.2 ++ yz.2.2.2.2.2) ag) hl2
            cases hw : prS T (N + 1) f 0 q (yz.2.1 + 1) yz.2.2.1 (kq + yz.1.2.2.1.length + yz.2.2.2.1.length) (i0 + 3 + yz.1.2.2.2.1.length + yz.2.2.2.2.1.length) with
            | inl e =>
              rw [hw] at h2
              obtain ⟨he, o', v', ag', h2⟩ := h2
              rw [h2, bN_s]
              exact ⟨he, _, _, _, rfl⟩
            | inr w =>
              rw [hw] at h2
              obtain ⟨hw', h2⟩ := h2
              rw [h2, bN_s, ← rAg_app]
              exact ⟨hw', rfl⟩
          · rw [if_neg a16]
            simp only [if_neg a16]
            exact ⟨hy, rfl⟩
      rw [if_neg k15, if_neg k15]
      by_cases k17 : (T c).1 = 17
      · have hl := lt_of hT hc k17 (by decide)
        rw [if_pos k17, if_pos k17, xV_64]
        unfold pWhile
        have h1 := x_grd (p := p) (ag := ag) (kq := kq) (i0 := i0 + 2) hT (D := D + 130) (by omega) hq hl hblk2
        cases hd : pGrd T (N + 1) (prS T (N + 1) f 0 q) q c td kq (i0 + 2) with
        | inl e =>
          rw [hd] at h1
          obtain ⟨he, o', v', ag', h1⟩ := h1
          rw [h1, bN_s]
          exact ⟨he, _, _, _, rfl⟩
        | inr yz =>
          rw [hd] at h1
          obtain ⟨hy, h1⟩ := h1
          rw [h1, bN_s]
          exact ⟨hy, rfl⟩
      rw [if_neg k17, if_neg k17]
      have give : ∀ w : Int32, c < N → sOK s T N (b_140_137 (mjF (D + 131)) 64 (mjW0 (eR s (c, 0, p, nI q, nI td, ag)))) p q ag (pGive T (N + 1) q c td kq w) := by
        intro w hl
        unfold b_140_137 pGive
        rw [xg_64_0, xV_58, u_skip hT hl, bN_s, xV_64]
        have h1 := x_val (p := p) (v := nI td) (ag := ag) hT (D := D + 131) (q := q) (c := c + 1) (kq := kq) (by omega) hq hl
        cases hv : prV T (N + 1) q (c + 1) kq with
        | inl e =>
          rw [hv] at h1
          obtain ⟨he, w, o', ag', h1⟩ := h1
          rw [h1, bI_s, xg_64_0, xV_58, u_needN hT (in_n0 he), bN_s]
          exact ⟨he, _, _, _, rfl⟩
        | inr y =>
          rw [hv] at h1
          obtain ⟨hy, h1⟩ := h1
          rw [h1, bI_s, xg_64_0, xV_58]
          by_cases a59 : (T y.1).1 = 59
          · have hl2 := lt_of hT hy a59 (by decide)
            rw [u_need hT hy a59 (by decide), bN_s]
            simp only [if_pos a59]
            exact ⟨hl2, rfl⟩
          · rw [u_need2 hT hy a59, bN_s]
            simp only [if_neg a59]
            exact ⟨F2_in T _, _, _, _, rfl⟩
      by_cases k18 : (T c).1 = 18
      · rw [if_pos k18, if_pos k18]
        exact give _ (lt_of hT hc k18 (by decide))
      rw [if_neg k18, if_neg k18]
      by_cases k19 : (T c).1 = 19
      · rw [if_pos k19, if_pos k19]
        exact give _ (lt_of hT hc k19 (by decide))
      rw [if_neg k19, if_neg k19]
      by_cases k123 : (T c).1 = 123
      · rw [if_pos k123, if_pos k123, xV_64]
        have h2 := hblk td ht c kq i0 ag hc
        cases hw : prS T (N + 1) f 0 q c td kq i0 with
        | inl e =>
          rw [hw] at h2
          obtain ⟨he, o', v', ag', h2⟩ := h2
          rw [h2, bN_s]
          exact ⟨he, _, _, _, rfl⟩
        | inr w =>
          rw [hw] at h2
          obtain ⟨hw', h2⟩ := h2
          rw [h2, bN_s]
          exact ⟨hw', rfl⟩
      rw [if_neg k123, if_neg k123, xV_64]
      unfold pUse b_140_177
      have h1 := x_val (p := p) (v := nI td) (ag := ag) hT (D := D + 131) (q := q) (c := c) (kq := kq) (by omega) hq hc
      cases hv : prV T (N + 1) q c kq with
      | inl e =>
        rw [hv] at h1
        obtain ⟨he, w, o', ag', h1⟩ := h1
        rw [h1, bI_s, xV_64, x_setN hT (in_n0 he), bI_s, if_pos rfl, xg_64_0, xV_58, u_needN hT (in_n0 he), bN_s]
        exact ⟨he, _, _, _, rfl⟩
      | inr y =>
        rw [hv] at h1
        obtain ⟨hy, h1⟩ := h1
        rw [h1, bI_s, xV_64]
        by_cases a : (T y.1).1 = 61 ∧ (y.2.1 = 1 ∨ y.2.1 = 2)
        · have hl := lt_of hT hy a.1 (by decide)
          rw [x_set1 hT hy a.1 a.2, bI_s, if_neg (by decide), xV_64]
          simp only [if_pos a]
          have h2 := x_val (p := p) (v := nI td) (ag := rAg y.2.2.2.2 ag) hT (D := D + 131) (q := q) (c := y.1 + 1) (kq := kq + y.2.2.1.length) (by omega) hq hl
          cases hw : prV T (N + 1) q (y.1 + 1) (kq + y.2.2.1.length) with
          | inl e =>
            rw [hw] at h2
            obtain ⟨he, w, o', ag', h2⟩ := h2
            rw [h2, bI_s, xg_64_0, xV_58, u_needN hT (in_n0 he), bN_s]
            exact ⟨he, _, _, _, rfl⟩
          | inr z =>
            rw [hw] at h2
            obtain ⟨hz, h2⟩ := h2
            rw [h2, bI_s, xg_64_0, xV_58, ← rAg_app]
            by_cases a59 : (T z.1).1 = 59
            · have hl2 := lt_of hT hz a59 (by decide)
              rw [u_need hT hz a59 (by decide), bN_s]
              simp only [if_pos a59]
              exact ⟨hl2, rfl⟩
            · rw [u_need2 hT hz a59, bN_s]
              simp only [if_neg a59]
              exact ⟨F2_in T _, _, _, _, rfl⟩
        · simp only [if_neg a]
          by_cases b : (T y.1).1 = 59 ∧ y.2.1 = 3
          · have hl := lt_of hT hy b.1 (by decide)
            rw [b.2, x_set0 hT hy b.1, bI_s, if_pos rfl, xg_64_0, xV_58, u_need hT hy b.1 (by decide), bN_s]
            simp only [b.1, and_self, if_pos]
            exact ⟨hl, rfl⟩
          · rw [x_setB hT hy a b, bI_s, if_pos rfl, xg_64_0, xV_58, u_needN hT (F2_n0 T _), bN_s]
            simp only [if_neg b]
            exact ⟨F2_in T _, _, _, _, rfl⟩
end MJ51
end
section
/-! ===== the two programs: lemmas for both at once ===== -/
def isP (q : Nat) : Prop := q = 2 ∨ q = 30
theorem yV {q : Nat} (hq : isP q) {s : mjSt3} {u : mjU} : rV (mjW0 s) q 7 u = u := by
  rcases hq with h | h <;> subst h
  · exact xV_2
  · exact xV_30
theorem yg_0 {q : Nat} (hq : isP q) {s : mjSt3} {k : Int32 → mjU} : gI (mjW0 s) q 7 0 k = k (s.1 q 0) := by
  rcases hq with h | h <;> subst h
  · exact xg_2_0
  · exact xg_30_0
theorem yp_0 {q : Nat} (hq : isP q) {s : mjSt3} {v : Int32} {k : mjH → mjU} : pI (mjW0 s) q 7 0 v k = k (mjW0 (uI s q (upd (s.1 q) 0 v))) := by
  rcases hq with h | h <;> subst h
  · exact xp_2_0
  · exact xp_30_0
theorem yg_1 {q : Nat} (hq : isP q) {s : mjSt3} {k : Nat → mjU} : gR (mjW0 s) q 7 1 k = k (q + 1) := by
  rcases hq with h | h <;> subst h
  · exact xg_2_1
  · exact xg_30_1
theorem yg_2 {q : Nat} (hq : isP q) {s : mjSt3} {k : Nat → mjU} : gR (mjW0 s) q 7 2 k = k (q + 2) := by
  rcases hq with h | h <;> subst h
  · exact xg_2_2
  · exact xg_30_2
theorem yg_3 {q : Nat} (hq : isP q) {s : mjSt3} {k : Nat → mjU} : gR (mjW0 s) q 7 3 k = k (q + 3) := by
  rcases hq with h | h <;> subst h
  · exact xg_2_3
  · exact xg_30_3
theorem yg_4 {q : Nat} (hq : isP q) {s : mjSt3} {k : Nat → mjU} : gR (mjW0 s) q 7 4 k = k (q + 4) := by
  rcases hq with h | h <;> subst h
  · exact xg_2_4
  · exact xg_30_4
theorem yg_5 {q : Nat} (hq : isP q) {s : mjSt3} {k : Nat → mjU} : gR (mjW0 s) q 7 5 k = k (q + 5) := by
  rcases hq with h | h <;> subst h
  · exact xg_2_5
  · exact xg_30_5
theorem yg_6 {q : Nat} (hq : isP q) {s : mjSt3} {k : Nat → mjU} : gR (mjW0 s) q 7 6 k = k (q + 6) := by
  rcases hq with h | h <;> subst h
  · exact xg_2_6
  · exact xg_30_6
theorem yg_7 {q : Nat} (hq : isP q) {s : mjSt3} {k : Nat → mjU} : gR (mjW0 s) q 7 7 k = k (q + 7) := by
  rcases hq with h | h <;> subst h
  · exact xg_2_7
  · exact xg_30_7
theorem yg_8 {q : Nat} (hq : isP q) {s : mjSt3} {k : Nat → mjU} : gR (mjW0 s) q 7 8 k = k (q + 8) := by
  rcases hq with h | h <;> subst h
  · exact xg_2_8
  · exact xg_30_8
theorem yg_9 {q : Nat} (hq : isP q) {s : mjSt3} {k : Nat → mjU} : gR (mjW0 s) q 7 9 k = k (q + 9) := by
  rcases hq with h | h <;> subst h
  · exact xg_2_9
  · exact xg_30_9
theorem yg_10 {q : Nat} (hq : isP q) {s : mjSt3} {k : Nat → mjU} : gR (mjW0 s) q 7 10 k = k (q + 10) := by
  rcases hq with h | h <;> subst h
  · exact xg_2_10
  · exact xg_30_10
theorem yg_11 {q : Nat} (hq : isP q) {s : mjSt3} {k : Nat → mjU} : gR (mjW0 s) q 7 11 k = k (q + 11) := by
  rcases hq with h | h <;> subst h
  · exact xg_2_11
  · exact xg_30_11
theorem yg_12 {q : Nat} (hq : isP q) {s : mjSt3} {k : Nat → mjU} : gR (mjW0 s) q 7 12 k = k (q + 12) := by
  rcases hq with h | h <;> subst h
  · exact xg_2_12
  · exact xg_30_12
theorem yg_13 {q : Nat} (hq : isP q) {s : mjSt3} {k : Nat → mjU} : gR (mjW0 s) q 7 13 k = k (q + 13) := by
  rcases hq with h | h <;> subst h
  · exact xg_2_13
  · exact xg_30_13
theorem yg_14 {q : Nat} (hq : isP q) {s : mjSt3} {k : Nat → mjU} : gR (mjW0 s) q 7 14 k = k (q + 14) := by
  rcases hq with h | h <;> subst h
  · exact xg_2_14
  · exact xg_30_14
theorem yg_15 {q : Nat} (hq : isP q) {s : mjSt3} {k : Nat → mjU} : gR (mjW0 s) q 7 15 k = k (q + 24) := by
  rcases hq with h | h <;> subst h
  · exact xg_2_15
  · exact xg_30_15
theorem ymV {q : Nat} (hq : isP q) {s : mjSt3} {u : mjU} : rV (mjW0 s) (q + 14) 6 u = u := by
  rcases hq with h | h <;> subst h
  · exact xV_16
  · exact xV_44
theorem ymg_0 {q : Nat} (hq : isP q) {s : mjSt3} {k : Int32 → mjU} : gI (mjW0 s) (q + 14) 6 0 k = k (s.1 (q + 14) 0) := by
  rcases hq with h | h <;> subst h
  · exact xg_16_0
  · exact xg_44_0
theorem ymp_0 {q : Nat} (hq : isP q) {s : mjSt3} {v : Int32} {k : mjH → mjU} : pI (mjW0 s) (q + 14) 6 0 v k = k (mjW0 (uI s (q + 14) (upd (s.1 (q + 14)) 0 v))) := by
  rcases hq with h | h <;> subst h
  · exact xp_16_0
  · exact xp_44_0
theorem ymg_1 {q : Nat} (hq : isP q) {s : mjSt3} {k : Nat → mjU} : gR (mjW0 s) (q + 14) 6 1 k = k (q + 15) := by
  rcases hq with h | h <;> subst h
  · exact xg_16_1
  · exact xg_44_1
theorem ymg_2 {q : Nat} (hq : isP q) {s : mjSt3} {k : Nat → mjU} : gR (mjW0 s) (q + 14) 6 2 k = k (q + 16) := by
  rcases hq with h | h <;> subst h
  · exact xg_16_2
  · exact xg_44_2
theorem ymg_3 {q : Nat} (hq : isP q) {s : mjSt3} {k : Nat → mjU} : gR (mjW0 s) (q + 14) 6 3 k = k (q + 17) := by
  rcases hq with h | h <;> subst h
  · exact xg_16_3
  · exact xg_44_3
theorem ymg_4 {q : Nat} (hq : isP q) {s : mjSt3} {k : Nat → mjU} : gR (mjW0 s) (q + 14) 6 4 k = k (q + 18) := by
  rcases hq with h | h <;> subst h
  · exact xg_16_4
  · exact xg_44_4
theorem ymg_5 {q : Nat} (hq : isP q) {s : mjSt3} {k : Nat → mjU} : gR (mjW0 s) (q + 14) 6 5 k = k (q + 19) := by
  rcases hq with h | h <;> subst h
  · exact xg_16_5
  · exact xg_44_5
theorem ymg_6 {q : Nat} (hq : isP q) {s : mjSt3} {k : Nat → mjU} : gR (mjW0 s) (q + 14) 6 6 k = k (q + 20) := by
  rcases hq with h | h <;> subst h
  · exact xg_16_6
  · exact xg_44_6
theorem ymg_7 {q : Nat} (hq : isP q) {s : mjSt3} {k : Nat → mjU} : gR (mjW0 s) (q + 14) 6 7 k = k (q + 21) := by
  rcases hq with h | h <;> subst h
  · exact xg_16_7
  · exact xg_44_7
theorem ymg_8 {q : Nat} (hq : isP q) {s : mjSt3} {k : Nat → mjU} : gR (mjW0 s) (q + 14) 6 8 k = k (q + 22) := by
  rcases hq with h | h <;> subst h
  · exact xg_16_8
  · exact xg_44_8
theorem ymg_9 {q : Nat} (hq : isP q) {s : mjSt3} {k : Nat → mjU} : gR (mjW0 s) (q + 14) 6 9 k = k (q + 23) := by
  rcases hq with h | h <;> subst h
  · exact xg_16_9
  · exact xg_44_9
theorem ycV {q : Nat} (hq : isP q) {s : mjSt3} {u : mjU} : rV (mjW0 s) (q + 24) 0 u = u := by
  rcases hq with h | h <;> subst h
  · exact xV_26
  · exact xV_54
theorem ycg_0 {q : Nat} (hq : isP q) {s : mjSt3} {k : Nat → mjU} : gR (mjW0 s) (q + 24) 0 0 k = k (q + 25) := by
  rcases hq with h | h <;> subst h
  · exact xg_26_0
  · exact xg_54_0
theorem ycg_1 {q : Nat} (hq : isP q) {s : mjSt3} {k : Nat → mjU} : gR (mjW0 s) (q + 24) 0 1 k = k (q + 26) := by
  rcases hq with h | h <;> subst h
  · exact xg_26_1
  · exact xg_54_1
theorem ycg_2 {q : Nat} (hq : isP q) {s : mjSt3} {k : Nat → mjU} : gR (mjW0 s) (q + 24) 0 2 k = k (q + 27) := by
  rcases hq with h | h <;> subst h
  · exact xg_26_2
  · exact xg_54_2
theorem ycg_3 {q : Nat} (hq : isP q) {s : mjSt3} {k : Int32 → mjU} : gI (mjW0 s) (q + 24) 0 3 k = k (s.1 (q + 24) 3) := by
  rcases hq with h | h <;> subst h
  · exact xg_26_3
  · exact xg_54_3
theorem ycp_3 {q : Nat} (hq : isP q) {s : mjSt3} {v : Int32} {k : mjH → mjU} : pI (mjW0 s) (q + 24) 0 3 v k = k (mjW0 (uI s (q + 24) (upd (s.1 (q + 24)) 3 v))) := by
  rcases hq with h | h <;> subst h
  · exact xp_26_3
  · exact xp_54_3
theorem ya_1 {q : Nat} (hq : isP q) {s : mjSt3} {i : Int32} {k : Int32 → mjU} : aI (mjW0 s) (q + 1) i k = if mj_in i 16 = true then k (s.1 (q + 1) i.toNatClampNeg) else none := by
  rcases hq with h | h <;> subst h
  · exact xa_3
  · exact xa_31
theorem ys_1 {q : Nat} (hq : isP q) {s : mjSt3} {i x : Int32} {k : mjH → mjU} : sI (mjW0 s) (q + 1) i x k = if mj_in i 16 = true then k (mjW0 (uI s (q + 1) (upd (s.1 (q + 1)) i.toNatClampNeg x))) else none := by
  rcases hq with h | h <;> subst h
  · exact xs_3
  · exact xs_31
theorem yN_1 {q : Nat} (hq : isP q) {s : mjSt3} {k : Int32 → mjU} : aN (mjW0 s) (q + 1) k = k (Int32.ofNat 16) := by
  rcases hq with h | h <;> subst h
  · exact xN_3
  · exact xN_31
theorem ya_2 {q : Nat} (hq : isP q) {s : mjSt3} {i : Int32} {k : Int32 → mjU} : aI (mjW0 s) (q + 2) i k = if mj_in i 16 = true then k (s.1 (q + 2) i.toNatClampNeg) else none := by
  rcases hq with h | h <;> subst h
  · exact xa_4
  · exact xa_32
theorem ys_2 {q : Nat} (hq : isP q) {s : mjSt3} {i x : Int32} {k : mjH → mjU} : sI (mjW0 s) (q + 2) i x k = if mj_in i 16 = true then k (mjW0 (uI s (q + 2) (upd (s.1 (q + 2)) i.toNatClampNeg x))) else none := by
  rcases hq with h | h <;> subst h
  · exact xs_4
  · exact xs_32
theorem yN_2 {q : Nat} (hq : isP q) {s : mjSt3} {k : Int32 → mjU} : aN (mjW0 s) (q + 2) k = k (Int32.ofNat 16) := by
  rcases hq with h | h <;> subst h
  · exact xN_4
  · exact xN_32
theorem ya_3 {q : Nat} (hq : isP q) {s : mjSt3} {i : Int32} {k : Int32 → mjU} : aI (mjW0 s) (q + 3) i k = if mj_in i 16 = true then k (s.1 (q + 3) i.toNatClampNeg) else none := by
  rcases hq with h | h <;> subst h
  · exact xa_5
  · exact xa_33
theorem ys_3 {q : Nat} (hq : isP q) {s : mjSt3} {i x : Int32} {k : mjH → mjU} : sI (mjW0 s) (q + 3) i x k = if mj_in i 16 = true then k (mjW0 (uI s (q + 3) (upd (s.1 (q + 3)) i.toNatClampNeg x))) else none := by
  rcases hq with h | h <;> subst h
  · exact xs_5
  · exact xs_33
theorem yN_3 {q : Nat} (hq : isP q) {s : mjSt3} {k : Int32 → mjU} : aN (mjW0 s) (q + 3) k = k (Int32.ofNat 16) := by
  rcases hq with h | h <;> subst h
  · exact xN_5
  · exact xN_33
theorem ya_4 {q : Nat} (hq : isP q) {s : mjSt3} {i : Int32} {k : Int32 → mjU} : aI (mjW0 s) (q + 4) i k = if mj_in i 128 = true then k (s.1 (q + 4) i.toNatClampNeg) else none := by
  rcases hq with h | h <;> subst h
  · exact xa_6
  · exact xa_34
theorem ys_4 {q : Nat} (hq : isP q) {s : mjSt3} {i x : Int32} {k : mjH → mjU} : sI (mjW0 s) (q + 4) i x k = if mj_in i 128 = true then k (mjW0 (uI s (q + 4) (upd (s.1 (q + 4)) i.toNatClampNeg x))) else none := by
  rcases hq with h | h <;> subst h
  · exact xs_6
  · exact xs_34
theorem yN_4 {q : Nat} (hq : isP q) {s : mjSt3} {k : Int32 → mjU} : aN (mjW0 s) (q + 4) k = k (Int32.ofNat 128) := by
  rcases hq with h | h <;> subst h
  · exact xN_6
  · exact xN_34
theorem ya_5 {q : Nat} (hq : isP q) {s : mjSt3} {i : Int32} {k : Int32 → mjU} : aI (mjW0 s) (q + 5) i k = if mj_in i 16 = true then k (s.1 (q + 5) i.toNatClampNeg) else none := by
  rcases hq with h | h <;> subst h
  · exact xa_7
  · exact xa_35
theorem ys_5 {q : Nat} (hq : isP q) {s : mjSt3} {i x : Int32} {k : mjH → mjU} : sI (mjW0 s) (q + 5) i x k = if mj_in i 16 = true then k (mjW0 (uI s (q + 5) (upd (s.1 (q + 5)) i.toNatClampNeg x))) else none := by
  rcases hq with h | h <;> subst h
  · exact xs_7
  · exact xs_35
theorem yN_5 {q : Nat} (hq : isP q) {s : mjSt3} {k : Int32 → mjU} : aN (mjW0 s) (q + 5) k = k (Int32.ofNat 16) := by
  rcases hq with h | h <;> subst h
  · exact xN_7
  · exact xN_35
theorem ya_6 {q : Nat} (hq : isP q) {s : mjSt3} {i : Int32} {k : Int32 → mjU} : aI (mjW0 s) (q + 6) i k = if mj_in i 16 = true then k (s.1 (q + 6) i.toNatClampNeg) else none := by
  rcases hq with h | h <;> subst h
  · exact xa_8
  · exact xa_36
theorem ys_6 {q : Nat} (hq : isP q) {s : mjSt3} {i x : Int32} {k : mjH → mjU} : sI (mjW0 s) (q + 6) i x k = if mj_in i 16 = true then k (mjW0 (uI s (q + 6) (upd (s.1 (q + 6)) i.toNatClampNeg x))) else none := by
  rcases hq with h | h <;> subst h
  · exact xs_8
  · exact xs_36
theorem yN_6 {q : Nat} (hq : isP q) {s : mjSt3} {k : Int32 → mjU} : aN (mjW0 s) (q + 6) k = k (Int32.ofNat 16) := by
  rcases hq with h | h <;> subst h
  · exact xN_8
  · exact xN_36
theorem ya_7 {q : Nat} (hq : isP q) {s : mjSt3} {i : Int32} {k : Int32 → mjU} : aI (mjW0 s) (q + 7) i k = if mj_in i 16 = true then k (s.1 (q + 7) i.toNatClampNeg) else none := by
  rcases hq with h | h <;> subst h
  · exact xa_9
  · exact xa_37
theorem ys_7 {q : Nat} (hq : isP q) {s : mjSt3} {i x : Int32} {k : mjH → mjU} : sI (mjW0 s) (q + 7) i x k = if mj_in i 16 = true then k (mjW0 (uI s (q + 7) (upd (s.1 (q + 7)) i.toNatClampNeg x))) else none := by
  rcases hq with h | h <;> subst h
  · exact xs_9
  · exact xs_37
theorem yN_7 {q : Nat} (hq : isP q) {s : mjSt3} {k : Int32 → mjU} : aN (mjW0 s) (q + 7) k = k (Int32.ofNat 16) := by
  rcases hq with h | h <;> subst h
  · exact xN_9
  · exact xN_37
theorem ya_8 {q : Nat} (hq : isP q) {s : mjSt3} {i : Int32} {k : Int32 → mjU} : aI (mjW0 s) (q + 8) i k = if mj_in i 16 = true then k (s.1 (q + 8) i.toNatClampNeg) else none := by
  rcases hq with h | h <;> subst h
  · exact xa_10
  · exact xa_38
theorem ys_8 {q : Nat} (hq : isP q) {s : mjSt3} {i x : Int32} {k : mjH → mjU} : sI (mjW0 s) (q + 8) i x k = if mj_in i 16 = true then k (mjW0 (uI s (q + 8) (upd (s.1 (q + 8)) i.toNatClampNeg x))) else none := by
  rcases hq with h | h <;> subst h
  · exact xs_10
  · exact xs_38
theorem yN_8 {q : Nat} (hq : isP q) {s : mjSt3} {k : Int32 → mjU} : aN (mjW0 s) (q + 8) k = k (Int32.ofNat 16) := by
  rcases hq with h | h <;> subst h
  · exact xN_10
  · exact xN_38
theorem ya_9 {q : Nat} (hq : isP q) {s : mjSt3} {i : Int32} {k : Int32 → mjU} : aI (mjW0 s) (q + 9) i k = if mj_in i 16 = true then k (s.1 (q + 9) i.toNatClampNeg) else none := by
  rcases hq with h | h <;> subst h
  · exact xa_11
  · exact xa_39
theorem ys_9 {q : Nat} (hq : isP q) {s : mjSt3} {i x : Int32} {k : mjH → mjU} : sI (mjW0 s) (q + 9) i x k = if mj_in i 16 = true then k (mjW0 (uI s (q + 9) (upd (s.1 (q + 9)) i.toNatClampNeg x))) else none := by
  rcases hq with h | h <;> subst h
  · exact xs_11
  · exact xs_39
theorem yN_9 {q : Nat} (hq : isP q) {s : mjSt3} {k : Int32 → mjU} : aN (mjW0 s) (q + 9) k = k (Int32.ofNat 16) := by
  rcases hq with h | h <;> subst h
  · exact xN_11
  · exact xN_39
theorem ya_10 {q : Nat} (hq : isP q) {s : mjSt3} {i : Int32} {k : Int32 → mjU} : aI (mjW0 s) (q + 10) i k = if mj_in i 16 = true then k (s.1 (q + 10) i.toNatClampNeg) else none := by
  rcases hq with h | h <;> subst h
  · exact xa_12
  · exact xa_40
theorem ys_10 {q : Nat} (hq : isP q) {s : mjSt3} {i x : Int32} {k : mjH → mjU} : sI (mjW0 s) (q + 10) i x k = if mj_in i 16 = true then k (mjW0 (uI s (q + 10) (upd (s.1 (q + 10)) i.toNatClampNeg x))) else none := by
  rcases hq with h | h <;> subst h
  · exact xs_12
  · exact xs_40
theorem yN_10 {q : Nat} (hq : isP q) {s : mjSt3} {k : Int32 → mjU} : aN (mjW0 s) (q + 10) k = k (Int32.ofNat 16) := by
  rcases hq with h | h <;> subst h
  · exact xN_12
  · exact xN_40
theorem ya_11 {q : Nat} (hq : isP q) {s : mjSt3} {i : Int32} {k : Int32 → mjU} : aI (mjW0 s) (q + 11) i k = if mj_in i 112 = true then k (s.1 (q + 11) i.toNatClampNeg) else none := by
  rcases hq with h | h <;> subst h
  · exact xa_13
  · exact xa_41
theorem ys_11 {q : Nat} (hq : isP q) {s : mjSt3} {i x : Int32} {k : mjH → mjU} : sI (mjW0 s) (q + 11) i x k = if mj_in i 112 = true then k (mjW0 (uI s (q + 11) (upd (s.1 (q + 11)) i.toNatClampNeg x))) else none := by
  rcases hq with h | h <;> subst h
  · exact xs_13
  · exact xs_41
theorem yN_11 {q : Nat} (hq : isP q) {s : mjSt3} {k : Int32 → mjU} : aN (mjW0 s) (q + 11) k = k (Int32.ofNat 112) := by
  rcases hq with h | h <;> subst h
  · exact xN_13
  · exact xN_41
theorem ya_12 {q : Nat} (hq : isP q) {s : mjSt3} {i : Int32} {k : Int32 → mjU} : aI (mjW0 s) (q + 12) i k = if mj_in i 256 = true then k (s.1 (q + 12) i.toNatClampNeg) else none := by
  rcases hq with h | h <;> subst h
  · exact xa_14
  · exact xa_42
theorem ys_12 {q : Nat} (hq : isP q) {s : mjSt3} {i x : Int32} {k : mjH → mjU} : sI (mjW0 s) (q + 12) i x k = if mj_in i 256 = true then k (mjW0 (uI s (q + 12) (upd (s.1 (q + 12)) i.toNatClampNeg x))) else none := by
  rcases hq with h | h <;> subst h
  · exact xs_14
  · exact xs_42
theorem yN_12 {q : Nat} (hq : isP q) {s : mjSt3} {k : Int32 → mjU} : aN (mjW0 s) (q + 12) k = k (Int32.ofNat 256) := by
  rcases hq with h | h <;> subst h
  · exact xN_14
  · exact xN_42
theorem ya_13 {q : Nat} (hq : isP q) {s : mjSt3} {i : Int32} {k : Int64 → mjU} : aL (mjW0 s) (q + 13) i k = if mj_in i 96 = true then k (s.2.1 (q + 13) i.toNatClampNeg) else none := by
  rcases hq with h | h <;> subst h
  · exact xa_15
  · exact xa_43
theorem ys_13 {q : Nat} (hq : isP q) {s : mjSt3} {i : Int32} {x : Int64} {k : mjH → mjU} : sL (mjW0 s) (q + 13) i x k = if mj_in i 96 = true then k (mjW0 (uL s (q + 13) (vp_updL (s.2.1 (q + 13)) i.toNatClampNeg x))) else none := by
  rcases hq with h | h <;> subst h
  · exact xs_15
  · exact xs_43
theorem yN_13 {q : Nat} (hq : isP q) {s : mjSt3} {k : Int32 → mjU} : aN (mjW0 s) (q + 13) k = k (Int32.ofNat 96) := by
  rcases hq with h | h <;> subst h
  · exact xN_15
  · exact xN_43
theorem ya_15 {q : Nat} (hq : isP q) {s : mjSt3} {i : Int32} {k : Int64 → mjU} : aL (mjW0 s) (q + 15) i k = if mj_in i 385 = true then k (s.2.1 (q + 15) i.toNatClampNeg) else none := by
  rcases hq with h | h <;> subst h
  · exact xa_17
  · exact xa_45
theorem ys_15 {q : Nat} (hq : isP q) {s : mjSt3} {i : Int32} {x : Int64} {k : mjH → mjU} : sL (mjW0 s) (q + 15) i x k = if mj_in i 385 = true then k (mjW0 (uL s (q + 15) (vp_updL (s.2.1 (q + 15)) i.toNatClampNeg x))) else none := by
  rcases hq with h | h <;> subst h
  · exact xs_17
  · exact xs_45
theorem yN_15 {q : Nat} (hq : isP q) {s : mjSt3} {k : Int32 → mjU} : aN (mjW0 s) (q + 15) k = k (Int32.ofNat 385) := by
  rcases hq with h | h <;> subst h
  · exact xN_17
  · exact xN_45
theorem ya_16 {q : Nat} (hq : isP q) {s : mjSt3} {i : Int32} {k : Int32 → mjU} : aI (mjW0 s) (q + 16) i k = if mj_in i 385 = true then k (s.1 (q + 16) i.toNatClampNeg) else none := by
  rcases hq with h | h <;> subst h
  · exact xa_18
  · exact xa_46
theorem ys_16 {q : Nat} (hq : isP q) {s : mjSt3} {i x : Int32} {k : mjH → mjU} : sI (mjW0 s) (q + 16) i x k = if mj_in i 385 = true then k (mjW0 (uI s (q + 16) (upd (s.1 (q + 16)) i.toNatClampNeg x))) else none := by
  rcases hq with h | h <;> subst h
  · exact xs_18
  · exact xs_46
theorem yN_16 {q : Nat} (hq : isP q) {s : mjSt3} {k : Int32 → mjU} : aN (mjW0 s) (q + 16) k = k (Int32.ofNat 385) := by
  rcases hq with h | h <;> subst h
  · exact xN_18
  · exact xN_46
theorem ya_17 {q : Nat} (hq : isP q) {s : mjSt3} {i : Int32} {k : Int32 → mjU} : aI (mjW0 s) (q + 17) i k = if mj_in i 385 = true then k (s.1 (q + 17) i.toNatClampNeg) else none := by
  rcases hq with h | h <;> subst h
  · exact xa_19
  · exact xa_47
theorem ys_17 {q : Nat} (hq : isP q) {s : mjSt3} {i x : Int32} {k : mjH → mjU} : sI (mjW0 s) (q + 17) i x k = if mj_in i 385 = true then k (mjW0 (uI s (q + 17) (upd (s.1 (q + 17)) i.toNatClampNeg x))) else none := by
  rcases hq with h | h <;> subst h
  · exact xs_19
  · exact xs_47
theorem yN_17 {q : Nat} (hq : isP q) {s : mjSt3} {k : Int32 → mjU} : aN (mjW0 s) (q + 17) k = k (Int32.ofNat 385) := by
  rcases hq with h | h <;> subst h
  · exact xN_19
  · exact xN_47
theorem ya_18 {q : Nat} (hq : isP q) {s : mjSt3} {i : Int32} {k : Int32 → mjU} : aB (mjW0 s) (q + 18) i k = if mj_in i 385 = true then k (s.1 (q + 18) i.toNatClampNeg) else none := by
  rcases hq with h | h <;> subst h
  · exact xa_20
  · exact xa_48
theorem ys_18 {q : Nat} (hq : isP q) {s : mjSt3} {i x : Int32} {k : mjH → mjU} : sB (mjW0 s) (q + 18) i x k = if mj_in i 385 = true then k (mjW0 (uI s (q + 18) (upd (s.1 (q + 18)) i.toNatClampNeg (vp_nar .boolean x)))) else none := by
  rcases hq with h | h <;> subst h
  · exact xs_20
  · exact xs_48
theorem yN_18 {q : Nat} (hq : isP q) {s : mjSt3} {k : Int32 → mjU} : aN (mjW0 s) (q + 18) k = k (Int32.ofNat 385) := by
  rcases hq with h | h <;> subst h
  · exact xN_20
  · exact xN_48
theorem ya_19 {q : Nat} (hq : isP q) {s : mjSt3} {i : Int32} {k : Int32 → mjU} : aI (mjW0 s) (q + 19) i k = if mj_in i 385 = true then k (s.1 (q + 19) i.toNatClampNeg) else none := by
  rcases hq with h | h <;> subst h
  · exact xa_21
  · exact xa_49
theorem ys_19 {q : Nat} (hq : isP q) {s : mjSt3} {i x : Int32} {k : mjH → mjU} : sI (mjW0 s) (q + 19) i x k = if mj_in i 385 = true then k (mjW0 (uI s (q + 19) (upd (s.1 (q + 19)) i.toNatClampNeg x))) else none := by
  rcases hq with h | h <;> subst h
  · exact xs_21
  · exact xs_49
theorem yN_19 {q : Nat} (hq : isP q) {s : mjSt3} {k : Int32 → mjU} : aN (mjW0 s) (q + 19) k = k (Int32.ofNat 385) := by
  rcases hq with h | h <;> subst h
  · exact xN_21
  · exact xN_49
theorem ya_20 {q : Nat} (hq : isP q) {s : mjSt3} {i : Int32} {k : Int32 → mjU} : aI (mjW0 s) (q + 20) i k = if mj_in i 385 = true then k (s.1 (q + 20) i.toNatClampNeg) else none := by
  rcases hq with h | h <;> subst h
  · exact xa_22
  · exact xa_50
theorem ys_20 {q : Nat} (hq : isP q) {s : mjSt3} {i x : Int32} {k : mjH → mjU} : sI (mjW0 s) (q + 20) i x k = if mj_in i 385 = true then k (mjW0 (uI s (q + 20) (upd (s.1 (q + 20)) i.toNatClampNeg x))) else none := by
  rcases hq with h | h <;> subst h
  · exact xs_22
  · exact xs_50
theorem yN_20 {q : Nat} (hq : isP q) {s : mjSt3} {k : Int32 → mjU} : aN (mjW0 s) (q + 20) k = k (Int32.ofNat 385) := by
  rcases hq with h | h <;> subst h
  · exact xN_22
  · exact xN_50
theorem ya_21 {q : Nat} (hq : isP q) {s : mjSt3} {i : Int32} {k : Int32 → mjU} : aI (mjW0 s) (q + 21) i k = if mj_in i 2310 = true then k (s.1 (q + 21) i.toNatClampNeg) else none := by
  rcases hq with h | h <;> subst h
  · exact xa_23
  · exact xa_51
theorem ys_21 {q : Nat} (hq : isP q) {s : mjSt3} {i x : Int32} {k : mjH → mjU} : sI (mjW0 s) (q + 21) i x k = if mj_in i 2310 = true then k (mjW0 (uI s (q + 21) (upd (s.1 (q + 21)) i.toNatClampNeg x))) else none := by
  rcases hq with h | h <;> subst h
  · exact xs_23
  · exact xs_51
theorem yN_21 {q : Nat} (hq : isP q) {s : mjSt3} {k : Int32 → mjU} : aN (mjW0 s) (q + 21) k = k (Int32.ofNat 2310) := by
  rcases hq with h | h <;> subst h
  · exact xN_23
  · exact xN_51
theorem ya_22 {q : Nat} (hq : isP q) {s : mjSt3} {i : Int32} {k : Int32 → mjU} : aI (mjW0 s) (q + 22) i k = if mj_in i 385 = true then k (s.1 (q + 22) i.toNatClampNeg) else none := by
  rcases hq with h | h <;> subst h
  · exact xa_24
  · exact xa_52
theorem ys_22 {q : Nat} (hq : isP q) {s : mjSt3} {i x : Int32} {k : mjH → mjU} : sI (mjW0 s) (q + 22) i x k = if mj_in i 385 = true then k (mjW0 (uI s (q + 22) (upd (s.1 (q + 22)) i.toNatClampNeg x))) else none := by
  rcases hq with h | h <;> subst h
  · exact xs_24
  · exact xs_52
theorem yN_22 {q : Nat} (hq : isP q) {s : mjSt3} {k : Int32 → mjU} : aN (mjW0 s) (q + 22) k = k (Int32.ofNat 385) := by
  rcases hq with h | h <;> subst h
  · exact xN_24
  · exact xN_52
theorem ya_23 {q : Nat} (hq : isP q) {s : mjSt3} {i : Int32} {k : Int32 → mjU} : aI (mjW0 s) (q + 23) i k = if mj_in i 385 = true then k (s.1 (q + 23) i.toNatClampNeg) else none := by
  rcases hq with h | h <;> subst h
  · exact xa_25
  · exact xa_53
theorem ys_23 {q : Nat} (hq : isP q) {s : mjSt3} {i x : Int32} {k : mjH → mjU} : sI (mjW0 s) (q + 23) i x k = if mj_in i 385 = true then k (mjW0 (uI s (q + 23) (upd (s.1 (q + 23)) i.toNatClampNeg x))) else none := by
  rcases hq with h | h <;> subst h
  · exact xs_25
  · exact xs_53
theorem yN_23 {q : Nat} (hq : isP q) {s : mjSt3} {k : Int32 → mjU} : aN (mjW0 s) (q + 23) k = k (Int32.ofNat 385) := by
  rcases hq with h | h <;> subst h
  · exact xN_25
  · exact xN_53
theorem ya_25 {q : Nat} (hq : isP q) {s : mjSt3} {i : Int32} {k : Int32 → mjU} : aI (mjW0 s) (q + 25) i k = if mj_in i 3100 = true then k (s.1 (q + 25) i.toNatClampNeg) else none := by
  rcases hq with h | h <;> subst h
  · exact xa_27
  · exact xa_55
theorem ys_25 {q : Nat} (hq : isP q) {s : mjSt3} {i x : Int32} {k : mjH → mjU} : sI (mjW0 s) (q + 25) i x k = if mj_in i 3100 = true then k (mjW0 (uI s (q + 25) (upd (s.1 (q + 25)) i.toNatClampNeg x))) else none := by
  rcases hq with h | h <;> subst h
  · exact xs_27
  · exact xs_55
theorem yN_25 {q : Nat} (hq : isP q) {s : mjSt3} {k : Int32 → mjU} : aN (mjW0 s) (q + 25) k = k (Int32.ofNat 3100) := by
  rcases hq with h | h <;> subst h
  · exact xN_27
  · exact xN_55
theorem ya_26 {q : Nat} (hq : isP q) {s : mjSt3} {i : Int32} {k : Int32 → mjU} : aI (mjW0 s) (q + 26) i k = if mj_in i 3100 = true then k (s.1 (q + 26) i.toNatClampNeg) else none := by
  rcases hq with h | h <;> subst h
  · exact xa_28
  · exact xa_56
theorem ys_26 {q : Nat} (hq : isP q) {s : mjSt3} {i x : Int32} {k : mjH → mjU} : sI (mjW0 s) (q + 26) i x k = if mj_in i 3100 = true then k (mjW0 (uI s (q + 26) (upd (s.1 (q + 26)) i.toNatClampNeg x))) else none := by
  rcases hq with h | h <;> subst h
  · exact xs_28
  · exact xs_56
theorem yN_26 {q : Nat} (hq : isP q) {s : mjSt3} {k : Int32 → mjU} : aN (mjW0 s) (q + 26) k = k (Int32.ofNat 3100) := by
  rcases hq with h | h <;> subst h
  · exact xN_28
  · exact xN_56
theorem ya_27 {q : Nat} (hq : isP q) {s : mjSt3} {i : Int32} {k : Int32 → mjU} : aI (mjW0 s) (q + 27) i k = if mj_in i 3100 = true then k (s.1 (q + 27) i.toNatClampNeg) else none := by
  rcases hq with h | h <;> subst h
  · exact xa_29
  · exact xa_57
theorem ys_27 {q : Nat} (hq : isP q) {s : mjSt3} {i x : Int32} {k : mjH → mjU} : sI (mjW0 s) (q + 27) i x k = if mj_in i 3100 = true then k (mjW0 (uI s (q + 27) (upd (s.1 (q + 27)) i.toNatClampNeg x))) else none := by
  rcases hq with h | h <;> subst h
  · exact xs_29
  · exact xs_57
theorem yN_27 {q : Nat} (hq : isP q) {s : mjSt3} {k : Int32 → mjU} : aN (mjW0 s) (q + 27) k = k (Int32.ofNat 3100) := by
  rcases hq with h | h <;> subst h
  · exact xN_29
  · exact xN_57
end
