/-! ===== how STATEMENTS and BLOCKS are read ===== -/
/-- behind STATEMENTS: cursor, told, KINDS' tokens, orders, calls' arguments -/
abbrev PB : Type := Nat × Nat × List Nat × List Row × List (Nat × Nat)
abbrev PY : Type := (Nat × Nat) ⊕ PB
def prV (T : TT) (M o c kq : Nat) : PX := prE T M 100 0 o c kq
def pSeq (T : TT) (rd : Nat → Nat → Nat → Nat → PY) (kq i0 : Nat) : Nat → PB → PY
  | 0, z => .inr z
  | k + 1, z => if (T z.1).1 = 125 then .inr z else (match rd z.1 z.2.1 (kq + z.2.2.1.length) (i0 + z.2.2.2.1.length) with
    | .inl e => .inl e
    | .inr y => pSeq T rd kq i0 k (y.1, y.2.1, z.2.2.1 ++ y.2.2.1, z.2.2.2.1 ++ y.2.2.2.1, z.2.2.2.2 ++ y.2.2.2.2))
def pBlk (T : TT) (M : Nat) (rd : Nat → Nat → Nat → Nat → PY) (o c td kq i0 : Nat) : PY :=
  if (T c).1 = 123 then (if o = 12 then .inl (3, c) else (match pSeq T rd kq i0 M (c + 1, td, [], [(26, (T (c + 1)).2.1, 0, 0, 0)], []) with
    | .inl e => .inl e
    | .inr z => if (T z.1).1 = 125 then .inr (z.1 + 1, z.2.1, z.2.2.1, z.2.2.2.1 ++ [(27, (T (z.1 + 1)).2.1, 0, 0, 0)], z.2.2.2.2) else .inl (F2 T z.1)))
  else .inl (F2 T c)
def oLine (T : TT) (c : Nat) : Row := (1, (T c).2.1, 0, 0, 0)
/-- TYPE NAME = E ; -/
def pDecl (T : TT) (M o c td kq : Nat) : PY :=
  (match pType T c with
  | .inl e => .inl e
  | .inr c1 => if (T c1).1 = 3 then (if td = 16 then .inl (3, c1) else if (T (c1 + 1)).1 = 61 then (match prV T M o (c1 + 2) (kq + (if (T c).1 = 10 then 0 else 1)) with
      | .inl e => .inl e
      | .inr y => if (T y.1).1 = 59 then .inr (y.1 + 1, td + 1, (if (T c).1 = 10 then [] else [c]) ++ y.2.2.1, oLine T c :: (19, (T c1).2.1, if (T c).1 = 10 then -1 else nI kq, 0, (T c1).2.2.1) :: (y.2.2.2.1 ++ [(20, (T (c1 + 1)).2.1, nI td, 0, 0)]), y.2.2.2.2) else .inl (F2 T y.1))
    else .inl (F2 T (c1 + 1)))
    else .inl (F2 T c1))
/-- from the word to behind the BLOCK: the E's and the BLOCK's parts; h: orders ahead of the E -/
def pGrd (T : TT) (M : Nat) (bl : Nat → Nat → Nat → Nat → PY) (o c td kq i0 : Nat) : (Nat × Nat) ⊕ (PZ × PB) :=
  if (T (c + 1)).1 = 40 then (if o = 12 then .inl (3, c + 1) else (match prV T M (o + 1) (c + 2) kq with
    | .inl e => .inl e
    | .inr y => if (T y.1).1 = 41 then (match bl (y.1 + 1) td (kq + y.2.2.1.length) (i0 + y.2.2.2.1.length + 1) with
        | .inl e => .inl e
        | .inr z => .inr (y, z)) else .inl (F2 T y.1)))
  else .inl (F2 T (c + 1))
def pIf (T : TT) (M : Nat) (bl : Nat → Nat → Nat → Nat → PY) (o c td kq i0 : Nat) : PY :=
  (match pGrd T M bl o c td kq (i0 + 1) with
  | .inl e => .inl e
  | .inr (y, z) => if (T z.1).1 = 16 then (match bl (z.1 + 1) z.2.1 (kq + y.2.2.1.length + z.2.2.1.length) (i0 + 3 + y.2.2.2.1.length + z.2.2.2.1.length) with
      | .inl e => .inl e
      | .inr w => .inr (w.1, w.2.1, y.2.2.1 ++ z.2.2.1 ++ w.2.2.1, oLine T c :: (y.2.2.2.1 ++ (21, (T c).2.1, nI (i0 + 3 + y.2.2.2.1.length + z.2.2.2.1.length), 0, 0) :: (z.2.2.2.1 ++ (22, -1, nI (i0 + 3 + y.2.2.2.1.length + z.2.2.2.1.length + w.2.2.2.1.length), 0, 0) :: w.2.2.2.1)), y.2.2.2.2 ++ z.2.2.2.2 ++ w.2.2.2.2))
    else .inr (z.1, z.2.1, y.2.2.1 ++ z.2.2.1, oLine T c :: (y.2.2.2.1 ++ (21, (T c).2.1, nI (i0 + 2 + y.2.2.2.1.length + z.2.2.2.1.length), 0, 0) :: z.2.2.2.1), y.2.2.2.2 ++ z.2.2.2.2))
def pWhile (T : TT) (M : Nat) (bl : Nat → Nat → Nat → Nat → PY) (o c td kq i0 : Nat) : PY :=
  (match pGrd T M bl o c td kq (i0 + 2) with
  | .inl e => .inl e
  | .inr (y, z) => .inr (z.1, z.2.1, y.2.2.1 ++ z.2.2.1, oLine T c :: (2, (T c).2.1, 0, 0, 0) :: (y.2.2.2.1 ++ (21, (T c).2.1, nI (i0 + 4 + y.2.2.2.1.length + z.2.2.2.1.length), 0, 0) :: (z.2.2.2.1 ++ [(23, -1, nI (i0 + 1), 0, 0)])), y.2.2.2.2 ++ z.2.2.2.2))
/-- return, say -/
def pGive (T : TT) (M o c td kq : Nat) (w : Int32) : PY :=
  (match prV T M o (c + 1) kq with
  | .inl e => .inl e
  | .inr y => if (T y.1).1 = 59 then .inr (y.1 + 1, td, y.2.2.1, oLine T c :: (y.2.2.2.1 ++ [(w, (T c).2.1, 1, 0, 0)]), y.2.2.2.2) else .inl (F2 T y.1))
/-- the last order of what is left of = -/
def oLast (l : List Row) : Row := l.getLastD (0, 0, 0, 0, 0)
def oLeft (sh : Int32) (l : List Row) : List Row := l.dropLast ++ [(if sh = 1 then 15 else 16, (oLast l).2)]
def pUse (T : TT) (M o c td kq i0 : Nat) : PY :=
  (match prV T M o c kq with
  | .inl e => .inl e
  | .inr y => if (T y.1).1 = 61 ∧ (y.2.1 = 1 ∨ y.2.1 = 2) then (match prV T M o (y.1 + 1) (kq + y.2.2.1.length) with
        | .inl e => .inl e
        | .inr z => if (T z.1).1 = 59 then .inr (z.1 + 1, td, y.2.2.1 ++ z.2.2.1, oLine T c :: (oLeft y.2.1 y.2.2.2.1 ++ z.2.2.2.1 ++ [(if y.2.1 = 1 then 17 else 18, (T y.1).2.1, nI (i0 + y.2.2.2.1.length), (oLast y.2.2.2.1).2.1, 0)]), y.2.2.2.2 ++ z.2.2.2.2) else .inl (F2 T z.1))
      else if (T y.1).1 = 59 ∧ y.2.1 = 3 then .inr (y.1 + 1, td, y.2.2.1, oLine T c :: (y.2.2.2.1 ++ [(25, (T c).2.1, 0, 0, 0)]), y.2.2.2.2)
      else .inl (F2 T y.1))
/-- tags: 0 BLOCK, 1 STATEMENT -/
def prS (T : TT) (M : Nat) : Nat → Nat → Nat → Nat → Nat → Nat → Nat → PY
  | 0, _, _, _, _, _, _ => .inl (0, 0)
  | f + 1, 0, o, c, td, kq, i0 => pBlk T M (prS T M f 1 (o + 1)) o c td kq i0
  | f + 1, _, o, c, td, kq, i0 =>
    if (T c).1 = 2 ∨ (T c).1 = 10 then pDecl T M o c td kq
    else if (T c).1 = 15 then pIf T M (prS T M f 0 o) o c td kq i0
    else if (T c).1 = 17 then pWhile T M (prS T M f 0 o) o c td kq i0
    else if (T c).1 = 18 then pGive T M o c td kq 28
    else if (T c).1 = 19 then pGive T M o c td kq 24
    else if (T c).1 = 123 then prS T M f 0 o c td kq i0
    else pUse T M o c td kq i0
theorem prS_0 {T : TT} {M f o c td kq i0 : Nat} : prS T M (f + 1) 0 o c td kq i0 = pBlk T M (prS T M f 1 (o + 1)) o c td kq i0 := rfl
theorem prS_1 {T : TT} {M f o c td kq i0 : Nat} : prS T M (f + 1) 1 o c td kq i0 = (if (T c).1 = 2 ∨ (T c).1 = 10 then pDecl T M o c td kq
    else if (T c).1 = 15 then pIf T M (prS T M f 0 o) o c td kq i0
    else if (T c).1 = 17 then pWhile T M (prS T M f 0 o) o c td kq i0
    else if (T c).1 = 18 then pGive T M o c td kq 28
    else if (T c).1 = 19 then pGive T M o c td kq 24
    else if (T c).1 = 123 then prS T M f 0 o c td kq i0
    else pUse T M o c td kq i0) := rfl
/-! ===== the class reads them so ===== -/
/-- bad, whatever else -/
def bOK (s : mjSt3) (T : TT) (N : Nat) (u : mjU) (e : Nat × Nat) : Prop := (e.1 = 1 ∨ e.1 = 2 ∨ e.1 = 3) ∧ ∃ (o' v' : Int32) (ag' : Nat → Int32), u = some (none, mjW0 (eR s (N, nI e.1, (T e.2).2.1, o', v', ag')))
def sOK (s : mjSt3) (T : TT) (N : Nat) (u : mjU) (p : Int32) (o : Nat) (ag : Nat → Int32) (r : PY) : Prop := match r with
  | .inl e => bOK s T N u e
  | .inr z => z.1 ≤ N ∧ u = some (none, mjW0 (eR s (z.1, 0, p, nI o, nI z.2.1, rAg z.2.2.2.2 ag)))
section MJ49
variable {T : TT} {d N c : Nat} {s : mjSt3} {f p o v : Int32} {ag : Nat → Int32}
theorem x_val (hT : TH T N s) {D q kq : Nat} (hD : 109 ≤ D) (hq : q ≤ 12) (hc : c ≤ N) : eOK s T N (mjF D 142 [.ref 64] (mjW0 (eR s (c, 0, p, nI q, v, ag)))) p (nI q) v ag (prV T (N + 1) q c kq) := (rdE_ok hT 100 D q c kq p v ag (by omega) hq hc).1 (by omega)
theorem L139_S (R : mjR) (n : Nat) (a : Nat) (b : Int32) (hp : mjH) : L_139_8 R (n + 1) a b hp = b_139_8 R (L_139_8 R n) a b hp := rfl
theorem n_blk8 (hT : TH T N s) (hf : ¬ f = 0) (q : Nat) (i : Int32) : L_139_8 (mjF (d + 3)) (q + 1) 64 i (mjW0 (eR s (N, f, p, o, v, ag))) = some (none, mjW0 (eR s (N, f, p, o - 1, v, ag))) := by
  rw [L139_S]
  unfold b_139_8 b_139_51
  rw [xg_64_0, xV_58, u_size hT (Nat.le_refl N), bI_s, xg_64_0, xV_58, u_is hT (Nat.le_refl N), bI_s, i01, if_neg (kN hT (by decide)), xg_64_0, xV_58, r_fine, bI_s, i01, if_neg (show ¬ f = 0 from hf), xV_64, u_closeN hT hf, bN_s, ite_self]
theorem n_block (hT : TH T N s) (hf : ¬ f = 0) : mjF (d + 4) 139 [.ref 64] (mjW0 (eR s (N, f, p, o, v, ag))) = some (none, mjW0 (eR s (N, f, p, o - 1, v, ag))) := by
  rw [e_139]
  unfold f_139 b_139_0
  rw [xV_64, u_openN hT hf (by decide), bN_s, show mjN = 99999999 + 1 from rfl, n_blk8 hT hf]
theorem n_var (hT : TH T N s) (hf : ¬ f = 0) : ∃ v', mjF (d + 4) 150 [.ref 64] (mjW0 (eR s (N, f, p, o, v, ag))) = some (none, mjW0 (eR s (N, f, p, o, v', ag))) := by
  refine ⟨v + 1, ?_⟩
  rw [e_150]
  unfold f_150 b_150_0 b_150_33
  rw [xV_64, x_typeN hT hf, bN_s]
  simp only [xg_64_10, eR_v, xg_64_0, xV_58, u_is hT (Nat.le_refl N), bI_s, i01, if_neg (kN hT (k := 3) (by decide)), xp_64_10, wR_v, u_needN hT hf, bN_s, if_true, ite_self]
/-- readVariable -/
theorem x_var (hT : TH T N s) {q td c1 : Nat} (hc : c ≤ N) (h16 : td ≤ 16) (hc1 : pType T c = .inr c1) : (T c1).1 = 3 → (td = 16 → bOK s T N (mjF (d + 4) 150 [.ref 64] (mjW0 (eR s (c, 0, p, nI q, nI td, ag)))) (3, c1)) ∧ (¬ td = 16 → (T (c1 + 1)).1 = 61 → c1 + 1 < N ∧ mjF (d + 4) 150 [.ref 64] (mjW0 (eR s (c, 0, p, nI q, nI td, ag))) = some (none, mjW0 (eR s (c1 + 2, 0, p, nI q, nI (td + 1), ag)))) ∧ (¬ td = 16 → ¬ (T (c1 + 1)).1 = 61 → bOK s T N (mjF (d + 4) 150 [.ref 64] (mjW0 (eR s (c, 0, p, nI q, nI td, ag)))) (F2 T (c1 + 1))) := by
  intro h3
  have h1 := x_type (d := d) (p := p) (o := nI q) (v := nI td) (ag := ag) hT hc
  rw [hc1] at h1
  obtain ⟨hl, h1⟩ := h1
  have hl1 := lt_of hT hl h3 (by decide)
  rw [e_150]
  unfold f_150 b_150_0
  rw [xV_64, h1, bN_s, xg_64_10, eR_v]
  refine ⟨fun h => ?_, fun h h61 => ?_, fun h h61 => ?_⟩
  · subst h
    rw [if_pos (show nI 16 = 16 from rfl), xg_64_0, xV_58, u_is hT hl, bI_s, i01, if_pos h3, xg_64_0, xV_58, u_ref3 hT hl (by rw [h3]; decide), bN_s]
    unfold b_150_33
    rw [xg_64_10, xp_64_10, wR_v, xg_64_0, xV_58, u_needN hT (show ¬ nI 3 = 0 by decide), bN_s, xg_64_0, xV_58, u_needN hT (show ¬ nI 3 = 0 by decide), bN_s]
    exact ⟨Or.inr (Or.inr rfl), _, _, _, rfl⟩
  · have hl2 := lt_of hT (c := c1 + 1) (by omega) h61 (by decide)
    rw [if_neg (show ¬ nI td = 16 from fun e => h ((nI_eq (a := td) (b := 16) (by omega) (by omega)).mp e))]
    unfold b_150_33
    rw [xg_64_10, eR_v, nI_1, xp_64_10, wR_v, xg_64_0, xV_58, u_need hT hl h3 (by decide), bN_s, xg_64_0, xV_58, u_need hT (by omega) h61 (by decide), bN_s]
    exact ⟨hl2, rfl⟩
  · rw [if_neg (show ¬ nI td = 16 from fun e => h ((nI_eq (a := td) (b := 16) (by omega) (by omega)).mp e))]
    unfold b_150_33
    rw [xg_64_10, eR_v, nI_1, xp_64_10, wR_v, xg_64_0, xV_58, u_need hT hl h3 (by decide), bN_s, xg_64_0, xV_58, u_need2 hT (by omega) h61, bN_s]
    exact ⟨F2_in T _, _, _, _, rfl⟩
theorem x_varT (hT : TH T N s) {q td : Nat} {e : Nat × Nat} (hc : c ≤ N) (he : pType T c = .inl e) : bOK s T N (mjF (d + 4) 150 [.ref 64] (mjW0 (eR s (c, 0, p, nI q, nI td, ag)))) e := by
  have h1 := x_type (d := d) (p := p) (o := nI q) (v := nI td) (ag := ag) hT hc
  rw [he] at h1
  obtain ⟨hn, h1⟩ := h1
  rw [e_150]
  unfold f_150 b_150_0 b_150_33
  rw [xV_64, h1, bN_s]
  simp only [xg_64_10, eR_v, xg_64_0, xV_58, u_is hT (Nat.le_refl N), bI_s, i01, if_neg (kN hT (k := 3) (by decide)), xp_64_10, wR_v, u_needN hT (in_n0 hn), bN_s, if_true, ite_self]
  exact ⟨hn, _, _, _, rfl⟩
theorem x_varN (hT : TH T N s) {q td c1 : Nat} (hc : c ≤ N) (hc1 : pType T c = .inr c1) (h3 : ¬ (T c1).1 = 3) : bOK s T N (mjF (d + 4) 150 [.ref 64] (mjW0 (eR s (c, 0, p, nI q, nI td, ag)))) (F2 T c1) := by
  have h1 := x_type (d := d) (p := p) (o := nI q) (v := nI td) (ag := ag) hT hc
  rw [hc1] at h1
  obtain ⟨hl, h1⟩ := h1
  rw [e_150]
  unfold f_150 b_150_0 b_150_33
  rw [xV_64, h1, bN_s]
  simp only [xg_64_10, eR_v, xg_64_0, xV_58, u_is hT hl, bI_s, i01, if_neg h3, xp_64_10, wR_v, u_need2 hT hl h3, bN_s, if_true, ite_self, u_needN hT (F2_n0 T c1)]
  exact ⟨F2_in T _, _, _, _, rfl⟩
end MJ49
