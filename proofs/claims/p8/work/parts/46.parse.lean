/-! ===== how a TEXT is read: a function of its tokens ===== -/
/-- an order of the reference: what, place, a, b, name -/
abbrev Row : Type := Int32 × Int32 × Int32 × Int32 × Int64
/-- behind an E: cursor, shape, its KINDS' tokens, its orders, its calls' arguments (token, how many) -/
abbrev PZ : Type := Nat × Int32 × List Nat × List Row × List (Nat × Nat)
/-- a FAULT and its token, or what is behind -/
abbrev PX : Type := (Nat × Nat) ⊕ PZ
def isOw (k : Int32) : Prop := k = 12 ∨ k = 13 ∨ k = 3
def pOwn (T : TT) : Nat → Nat → Nat → (Nat × Nat) ⊕ Nat
  | 0, _, c => .inr c
  | f + 1, k, c => if (T c).1 = 12 ∨ (T c).1 = 13 ∨ (T c).1 = 3 then (if k = 5 then .inl (3, c) else if (T (c + 1)).1 = 44 then pOwn T f (k + 1) (c + 2) else if (T (c + 1)).1 = 93 then .inr (c + 2) else .inl (F2 T (c + 1))) else .inl (F2 T c)
/-- a KIND -/
def pKind (T : TT) (c : Nat) : (Nat × Nat) ⊕ Nat := if (T c).1 = 2 then (if (T (c + 1)).1 = 91 then pOwn T 6 0 (c + 2) else .inl (F2 T (c + 1))) else .inl (F2 T c)
/-- a TYPE -/
def pType (T : TT) (c : Nat) : (Nat × Nat) ⊕ Nat := if (T c).1 = 10 then .inr (c + 1) else pKind T c
def isCmp (k : Int32) : Bool := decide (k = 200 ∨ k = 201 ∨ k = 60)
def isSum (k : Int32) : Bool := decide (k = 43 ∨ k = 45)
def isPro (k : Int32) : Bool := decide (k = 42 ∨ k = 47 ∨ k = 37)
def isVal (k : Int32) : Bool := decide (k = 3 ∨ k = 4 ∨ k = 11 ∨ k = 12 ∨ k = 14 ∨ k = 40 ∨ k = 45)
def oTwo (T : TT) (c : Nat) : Row := (9, (T c).2.1, nbr (T c).1 0, 0, 0)
/-- operators of one rank -/
def pLoop (T : TT) (sg : Int32 → Bool) (rd : Nat → Nat → PX) (kq : Nat) : Nat → PZ → PX
  | 0, z => .inr z
  | k + 1, z => if sg (T z.1).1 = true then (match rd (z.1 + 1) (kq + z.2.2.1.length) with
      | .inl e => .inl e
      | .inr y => pLoop T sg rd kq k (y.1, 0, z.2.2.1 ++ y.2.2.1, z.2.2.2.1 ++ y.2.2.2.1 ++ [oTwo T z.1], z.2.2.2.2 ++ y.2.2.2.2)) else .inr z
/-- what stands behind an ATOM -/
def pPost (T : TT) (ra : Nat → Nat → PX) (kq : Nat) : Nat → PZ → PX
  | 0, z => .inr z
  | k + 1, z => if (T z.1).1 = 20 then (match pKind T (z.1 + 1) with
      | .inl e => .inl e
      | .inr c => pPost T ra kq k (c, 0, z.2.2.1 ++ [z.1 + 1], z.2.2.2.1 ++ [(14, (T z.1).2.1, nI (kq + z.2.2.1.length), 0, 0)], z.2.2.2.2))
    else if (T z.1).1 = 46 then (if (T (z.1 + 1)).1 = 3 then (if (T (z.1 + 2)).1 = 40 then (match ra (z.1 + 2) (kq + z.2.2.1.length) with
          | .inl e => .inl e
          | .inr y => pPost T ra kq k (y.1, 3, z.2.2.1 ++ y.2.2.1, z.2.2.2.1 ++ y.2.2.2.1, z.2.2.2.2 ++ y.2.2.2.2))
        else pPost T ra kq k (z.1 + 2, 2, z.2.2.1, z.2.2.2.1 ++ [(10, (T (z.1 + 1)).2.1, 0, 0, (T (z.1 + 1)).2.2.1)], z.2.2.2.2))
      else .inl (F2 T (z.1 + 1)))
    else .inr z
/-- ARGUMENTS from number k on: behind the ) , how many -/
def pArgs (T : TT) (rv : Nat → Nat → PX) (kq : Nat) : Nat → Nat → PZ → (Nat × Nat) ⊕ (Nat × PZ)
  | 0, _, _ => .inl (0, 0)
  | f + 1, k, z => if k = 6 then .inl (if isVal (T z.1).1 = true then (3, z.1) else F2 T z.1) else (match rv z.1 (kq + z.2.2.1.length) with
      | .inl e => .inl e
      | .inr y => if (T y.1).1 = 44 then pArgs T rv kq f (k + 1) (y.1 + 1, 0, z.2.2.1 ++ y.2.2.1, z.2.2.2.1 ++ y.2.2.2.1 ++ [(12, (T z.1).2.1, nI k, 0, 0)], z.2.2.2.2 ++ y.2.2.2.2)
        else if (T y.1).1 = 41 then .inr (k + 1, y.1 + 1, 0, z.2.2.1 ++ y.2.2.1, z.2.2.2.1 ++ y.2.2.2.1 ++ [(12, (T z.1).2.1, nI k, 0, 0)], z.2.2.2.2 ++ y.2.2.2.2)
        else .inl (F2 T y.1))
/-- a call's ( is at c, its NAME ahead of it -/
def oAsk (T : TT) (c m : Nat) : Row := (11, (T (c - 1)).2.1, 0, nI m, (T (c - 1)).2.2.1)
def oCall (T : TT) (c m : Nat) : Row := (13, (T (c - 1)).2.1, nI m, 0, (T (c - 1)).2.2.1)
def pCall (T : TT) (rv : Nat → Nat → PX) (o c kq : Nat) : PX :=
  if o = 12 then .inl (3, c) else if (T (c + 1)).1 = 41 then .inr (c + 2, 3, [], [oAsk T c 0, oCall T c 0], [(c, 0)])
  else (match pArgs T rv kq 7 0 (c + 1, 0, [], [], []) with
    | .inl e => .inl e
    | .inr y => .inr (y.2.1, 3, y.2.2.2.1, oAsk T c y.1 :: (y.2.2.2.2.1 ++ [oCall T c y.1]), y.2.2.2.2.2 ++ [(c, y.1)]))
def pAtom (T : TT) (rv : Nat → Nat → PX) (o c kq : Nat) : PX :=
  if (T c).1 = 3 then .inr (c + 1, 1, [], [(6, (T c).2.1, 0, 0, (T c).2.2.1)], [])
  else if (T c).1 = 4 then .inr (c + 1, 0, [], [(3, (T c).2.1, (T c).2.2.2, 0, 0)], [])
  else if (T c).1 = 11 then .inr (c + 1, 0, [], [(4, (T c).2.1, 0, 0, 0)], [])
  else if (T c).1 = 12 then .inr (c + 1, 0, [], [(5, (T c).2.1, 0, 0, 0)], [])
  else if (T c).1 = 14 then (match pKind T (c + 1) with
    | .inl e => .inl e
    | .inr c' => .inr (c', 0, [c + 1], [(7, (T c).2.1, nI kq, 0, 0)], []))
  else if (T c).1 = 40 then (if o = 12 then .inl (3, c) else (match rv (c + 1) kq with
    | .inl e => .inl e
    | .inr y => if (T y.1).1 = 41 then .inr (y.1 + 1, 0, y.2.2.1, y.2.2.2.1 ++ [(30, -1, 0, 0, 0)], y.2.2.2.2) else .inl (F2 T y.1)))
  else .inl (F2 T c)
/-- tags: 0 E, 1 SUM, 2 PRODUCT, 3 UNIT, 4 POST, 5 ATOM, 6 a call's ( -/
def prE (T : TT) (M : Nat) : Nat → Nat → Nat → Nat → Nat → PX
  | 0, _, _, _, _ => .inl (0, 0)
  | f + 1, 0, o, c, kq => (match prE T M f 1 o c kq with
    | .inl e => .inl e
    | .inr z => if isCmp (T z.1).1 = true then (match prE T M f 1 o (z.1 + 1) (kq + z.2.2.1.length) with
        | .inl e => .inl e
        | .inr y => .inr (y.1, 0, z.2.2.1 ++ y.2.2.1, z.2.2.2.1 ++ y.2.2.2.1 ++ [oTwo T z.1], z.2.2.2.2 ++ y.2.2.2.2)) else .inr z)
  | f + 1, 1, o, c, kq => (match prE T M f 2 o c kq with
    | .inl e => .inl e
    | .inr z => pLoop T isSum (prE T M f 2 o) kq M z)
  | f + 1, 2, o, c, kq => (match prE T M f 3 o c kq with
    | .inl e => .inl e
    | .inr z => pLoop T isPro (prE T M f 3 o) kq M z)
  | f + 1, 3, o, c, kq => if (T c).1 = 45 then (if o = 12 then .inl (3, c) else (match prE T M f 3 (o + 1) (c + 1) kq with
    | .inl e => .inl e
    | .inr y => .inr (y.1, 0, y.2.2.1, y.2.2.2.1 ++ [(8, (T c).2.1, 0, 0, 0)], y.2.2.2.2))) else prE T M f 4 o c kq
  | f + 1, 4, o, c, kq => (match prE T M f 5 o c kq with
    | .inl e => .inl e
    | .inr z => pPost T (prE T M f 6 o) kq M z)
  | f + 1, 5, o, c, kq => pAtom T (prE T M f 0 (o + 1)) o c kq
  | f + 1, _, o, c, kq => pCall T (prE T M f 0 (o + 1)) o c kq
section MJ46
variable {T : TT} {M f o c kq : Nat}
theorem prE_0 : prE T M (f + 1) 0 o c kq = (match prE T M f 1 o c kq with
    | .inl e => .inl e
    | .inr z => if isCmp (T z.1).1 = true then (match prE T M f 1 o (z.1 + 1) (kq + z.2.2.1.length) with
        | .inl e => .inl e
        | .inr y => .inr (y.1, 0, z.2.2.1 ++ y.2.2.1, z.2.2.2.1 ++ y.2.2.2.1 ++ [oTwo T z.1], z.2.2.2.2 ++ y.2.2.2.2)) else .inr z) := rfl
theorem prE_1 : prE T M (f + 1) 1 o c kq = (match prE T M f 2 o c kq with
    | .inl e => .inl e
    | .inr z => pLoop T isSum (prE T M f 2 o) kq M z) := rfl
theorem prE_2 : prE T M (f + 1) 2 o c kq = (match prE T M f 3 o c kq with
    | .inl e => .inl e
    | .inr z => pLoop T isPro (prE T M f 3 o) kq M z) := rfl
theorem prE_3 : prE T M (f + 1) 3 o c kq = if (T c).1 = 45 then (if o = 12 then .inl (3, c) else (match prE T M f 3 (o + 1) (c + 1) kq with
    | .inl e => .inl e
    | .inr y => .inr (y.1, 0, y.2.2.1, y.2.2.2.1 ++ [(8, (T c).2.1, 0, 0, 0)], y.2.2.2.2))) else prE T M f 4 o c kq := rfl
theorem prE_4 : prE T M (f + 1) 4 o c kq = (match prE T M f 5 o c kq with
    | .inl e => .inl e
    | .inr z => pPost T (prE T M f 6 o) kq M z) := rfl
theorem prE_5 : prE T M (f + 1) 5 o c kq = pAtom T (prE T M f 0 (o + 1)) o c kq := rfl
theorem prE_6 : prE T M (f + 1) 6 o c kq = pCall T (prE T M f 0 (o + 1)) o c kq := rfl
end MJ46
/-! ===== the class reads a KIND so ===== -/
/-- behind a step of the reader that gives nothing back: as the result says, or bad -/
def uOK (s : mjSt3) (T : TT) (N : Nat) (u : mjU) (p o v : Int32) (ag : Nat → Int32) (r : (Nat × Nat) ⊕ Nat) : Prop := match r with
  | .inl e => (e.1 = 1 ∨ e.1 = 2 ∨ e.1 = 3) ∧ u = some (none, mjW0 (eR s (N, nI e.1, (T e.2).2.1, o, v, ag)))
  | .inr c' => c' ≤ N ∧ u = some (none, mjW0 (eR s (c', 0, p, o, v, ag)))
theorem F2_in (T : TT) (c : Nat) : (F2 T c).1 = 1 ∨ (F2 T c).1 = 2 ∨ (F2 T c).1 = 3 := by
  unfold F2
  by_cases h : (T c).1 = 1
  · rw [if_pos h]; exact Or.inl rfl
  · rw [if_neg h]; exact Or.inr (Or.inl rfl)
theorem in_n0 {e : Nat} (h : e = 1 ∨ e = 2 ∨ e = 3) : ¬ nI e = 0 := by
  rcases h with h | h | h <;> rw [h] <;> decide
section MJ46b
variable {T : TT} {d N : Nat} {s : mjSt3} {f p o v : Int32} {ag : Nat → Int32}
theorem L130_S (R : mjR) (n : Nat) (a : Nat) (b : Int32) (hp : mjH) : L_130_48 R (n + 1) a b hp = b_130_48 R (L_130_48 R n) a b hp := rfl
/-- the loop over further owners, in a bad state -/
theorem lq_130N (hT : TH T N s) (hf : ¬ f = 0) (q : Nat) (b : Int32) : L_130_48 (mjF (d + 2)) (q + 1) 64 b (mjW0 (eR s (N, f, p, o, v, ag))) = some (none, mjW0 (eR s (N, f, p, o, v, ag))) := by
  rw [L130_S]
  unfold b_130_48 b_130_83
  simp only [xg_64_0, xV_58, u_is hT (Nat.le_refl N), bI_s, i01, u_needN hT hf, bN_s, hT.2.2.1]
  rw [if_neg (show ¬ (0 : Int32) = 44 by decide), ite_self]
theorem x_own (hT : TH T N s) : ∀ (f k c q : Nat), f + k = 5 → k < 5 → f + 1 < q → c < N → uOK s T N (L_130_48 (mjF (d + 2)) q 64 (nI (k + 1)) (mjW0 (eR s (c + 1, 0, p, o, v, ag)))) p o v ag (if (T (c + 1)).1 = 44 then pOwn T f (k + 1) (c + 2) else if (T (c + 1)).1 = 93 then .inr (c + 2) else .inl (F2 T (c + 1)))
  | 0, k, c, q, hk, h5, hq, hc => by omega
  | f + 1, k, c, q, hk, h5, hq, hc => by
    obtain ⟨q, rfl⟩ : ∃ n, q = n + 1 := ⟨q - 1, by omega⟩
    rw [L130_S]
    unfold b_130_48
    rw [if_neg (show ¬ (5 : Int32) < nI (k + 1) from nI_nlt (a := 5) (by omega) (by omega))]
    rw [xg_64_0, xV_58, u_is hT (c := c + 1) (by omega), bI_s, i01]
    by_cases h44 : (T (c + 1)).1 = 44
    · rw [if_pos h44, if_pos h44, xg_64_0, xV_58]
      have hl : c + 1 < N := lt_of hT (by omega) h44 (by decide)
      rw [u_skip hT hl, bN_s, xV_64]
      unfold pOwn
      by_cases ho : (T (c + 2)).1 = 12 ∨ (T (c + 2)).1 = 13 ∨ (T (c + 2)).1 = 3
      · rw [if_pos ho]
        by_cases k5 : k + 1 = 5
        · obtain ⟨q, rfl⟩ : ∃ n, q = n + 1 := ⟨q - 1, by omega⟩
          rw [if_pos k5, k5, show nI 5 = (5 : Int32) from rfl, u_owner3 hT (c := c + 1 + 1) (by omega) ho, bN_s, lq_130N hT (by decide)]
          exact ⟨Or.inr (Or.inr rfl), rfl⟩
        · rw [if_neg k5, u_owner hT (c := c + 1 + 1) (by omega) (by omega) ho, bN_s, nI_1]
          have hl2 : c + 2 < N := by
            rcases ho with h | h | h
            · exact lt_of hT (by omega) h (by decide)
            · exact lt_of hT (by omega) h (by decide)
            · exact lt_of hT (by omega) h (by decide)
          exact x_own hT f (k + 1) (c + 2) q (by omega) (by omega) (by omega) hl2
      · obtain ⟨q, rfl⟩ : ∃ n, q = n + 1 := ⟨q - 1, by omega⟩
        rw [if_neg ho, u_owner2 hT (c := c + 1 + 1) (by omega) _ ho, bN_s, lq_130N hT (F2_n0 T _)]
        exact ⟨F2_in T _, rfl⟩
    · rw [if_neg h44, if_neg h44]
      unfold b_130_83
      rw [xg_64_0, xV_58]
      by_cases h93 : (T (c + 1)).1 = 93
      · have hl : c + 1 < N := lt_of hT (by omega) h93 (by decide)
        rw [if_pos h93, u_need hT (by omega) h93 (by decide), bN_s]
        exact ⟨by omega, rfl⟩
      · rw [if_neg h93, u_need2 hT (by omega) h93, bN_s]
        exact ⟨F2_in T _, rfl⟩
/-- readType(false) -/
theorem x_kind (hT : TH T N s) {c : Nat} (hc : c ≤ N) : uOK s T N (mjF (d + 3) 130 [.ref 64, .int 0] (mjW0 (eR s (c, 0, p, o, v, ag)))) p o v ag (pKind T c) := by
  rw [e_130]
  unfold f_130 b_130_0
  rw [if_pos rfl]
  unfold b_130_24 pKind
  rw [xg_64_0, xV_58, show mjN = 99999999 + 1 from rfl]
  by_cases h2 : (T c).1 = 2
  · have hl := lt_of hT hc h2 (by decide)
    rw [if_pos h2, u_need hT hc h2 (by decide), bN_s, xg_64_0, xV_58]
    by_cases h91 : (T (c + 1)).1 = 91
    · have hl2 := lt_of hT (c := c + 1) (by omega) h91 (by decide)
      rw [if_pos h91, u_need hT (by omega) h91 (by decide), bN_s, xV_64]
      unfold pOwn
      by_cases ho : (T (c + 2)).1 = 12 ∨ (T (c + 2)).1 = 13 ∨ (T (c + 2)).1 = 3
      · have hl3 : c + 2 < N := by
          rcases ho with h | h | h
          · exact lt_of hT (by omega) h (by decide)
          · exact lt_of hT (by omega) h (by decide)
          · exact lt_of hT (by omega) h (by decide)
        have e : mjF (d + 2) 131 [.ref 64, .int 0] (mjW0 (eR s (c + 1 + 1, 0, p, o, v, ag))) = _ := u_owner (a := 0) hT (by omega) (by decide) ho
        rw [if_pos ho, if_neg (by decide), e, bN_s]
        exact x_own hT 5 0 (c + 2) _ (by omega) (by omega) (by omega) hl3
      · rw [if_neg ho, u_owner2 hT (c := c + 1 + 1) (by omega) _ ho, bN_s, lq_130N hT (F2_n0 T _)]
        exact ⟨F2_in T _, rfl⟩
    · rw [if_neg h91, u_need2 hT (by omega) h91, bN_s, xV_64, u_ownerN hT (F2_n0 T _), bN_s, lq_130N hT (F2_n0 T _)]
      exact ⟨F2_in T _, rfl⟩
  · rw [if_neg h2, u_need2 hT hc h2, bN_s, xg_64_0, xV_58, u_needN hT (F2_n0 T _), bN_s, xV_64, u_ownerN hT (F2_n0 T _), bN_s, lq_130N hT (F2_n0 T _)]
    exact ⟨F2_in T _, rfl⟩
theorem x_kindN (hT : TH T N s) (hf : ¬ f = 0) : mjF (d + 3) 130 [.ref 64, .int 0] (mjW0 (eR s (N, f, p, o, v, ag))) = some (none, mjW0 (eR s (N, f, p, o, v, ag))) := by
  rw [e_130]
  unfold f_130 b_130_0
  rw [if_pos rfl]
  unfold b_130_24
  rw [xg_64_0, xV_58, show mjN = 99999999 + 1 from rfl, u_needN hT hf, bN_s, xg_64_0, xV_58, u_needN hT hf, bN_s, xV_64, u_ownerN hT hf, bN_s, lq_130N hT hf]
/-- readType(true) -/
theorem x_type (hT : TH T N s) {c : Nat} (hc : c ≤ N) : uOK s T N (mjF (d + 3) 130 [.ref 64, .int 1] (mjW0 (eR s (c, 0, p, o, v, ag)))) p o v ag (pType T c) := by
  have h := x_kind (d := d) (p := p) (o := o) (v := v) (ag := ag) hT hc
  rw [e_130] at h ⊢
  unfold f_130 b_130_0 at h ⊢
  rw [if_pos rfl] at h
  rw [if_neg (by decide), xg_64_0, xV_58, u_is hT hc, bI_s, i01]
  unfold pType
  by_cases h10 : (T c).1 = 10
  · have hl := lt_of hT hc h10 (by decide)
    rw [if_pos h10, if_pos h10, xg_64_0, xV_58, u_skip hT hl, bN_s]
    exact ⟨hl, rfl⟩
  · rw [if_neg h10, if_neg h10]
    exact h
theorem x_typeN (hT : TH T N s) (hf : ¬ f = 0) : mjF (d + 3) 130 [.ref 64, .int 1] (mjW0 (eR s (N, f, p, o, v, ag))) = some (none, mjW0 (eR s (N, f, p, o, v, ag))) := by
  have h := x_kindN (d := d) (p := p) (o := o) (v := v) (ag := ag) hT hf
  rw [e_130] at h ⊢
  unfold f_130 b_130_0 at h ⊢
  rw [if_pos rfl] at h
  rw [if_neg (by decide), xg_64_0, xV_58, u_is hT (Nat.le_refl N), bI_s, i01, if_neg (show ¬ (T N).1 = 10 from fun e => absurd (hT.2.2.1.symm.trans e) (by decide))]
  exact h
end MJ46b
