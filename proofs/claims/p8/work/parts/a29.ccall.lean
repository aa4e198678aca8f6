/-! ===== the Coder: calls ===== -/
/-- a call that waits: METHOD and OWNERS, values so far -/
def jA (j : JS) (p : Nat × Nat) (rs : List Nat) : JS := (j.1, p :: j.2.1, j.2.2.1, j.2.2.2.1, j.2.2.2.2.1, j.2.2.2.2.2.1, j.2.2.2.2.2.2.1, rs)
/-- a METHOD that may be called: its rows -/
def okM (E : EV) (p : Nat × Nat) : Prop := p.1 < nMem E.2.1 ∧ vK E.2.1 p.2
/-- behind orders of a call that waits -/
def atA (E : EV) (q : Nat) (s0 : mjSt3) (c0 cs : Nat) (j0 : JS) (p : Nat × Nat) (os : List Row) (s : mjSt3) (c : Nat) (rs : List Nat) (l : List Ins) : Prop := jrun E os j0 = some (jA j0 p rs, l) ∧ fne s c ∧ s.1 (q + 24) 3 = nI (cs + l.length) ∧ CL q s cs l ∧ CP q cs s0 s ∧ oE q s0 s ∧ l.length + c0 + 3 ≤ c
theorem pArgs_pre {T : TT} {rv : Nat → Nat → PX} {kq : Nat} : ∀ (f k : Nat) (z : PZ) (y : Nat × PZ), pArgs T rv kq f k z = .inr y → ∃ a b c, y.2.2.2.1 = z.2.2.1 ++ a ∧ y.2.2.2.2.1 = z.2.2.2.1 ++ b ∧ y.2.2.2.2.2 = z.2.2.2.2 ++ c
  | 0, k, z, y, h => by cases h
  | f + 1, k, z, y, h => by
    unfold pArgs at h
    by_cases k6 : k = 6
    · rw [if_pos k6] at h; cases h
    · rw [if_neg k6] at h
      cases hr : rv z.1 (kq + z.2.2.1.length) with
      | inl e => rw [hr] at h; cases h
      | inr x =>
        rw [hr] at h
        dsimp only at h
        by_cases a : (T x.1).1 = 44
        · rw [if_pos a] at h
          obtain ⟨a1, b1, c1, h1, h2, h3⟩ := pArgs_pre f (k + 1) _ y h
          refine ⟨x.2.2.1 ++ a1, x.2.2.2.1 ++ [(12, (T z.1).2.1, nI k, 0, 0)] ++ b1, x.2.2.2.2 ++ c1, ?_, ?_, ?_⟩
          · rw [h1, List.append_assoc]
          · rw [h2]; simp only [List.append_assoc]
          · rw [h3, List.append_assoc]
        · rw [if_neg a] at h
          by_cases b : (T x.1).1 = 41
          · rw [if_pos b] at h
            cases h
            exact ⟨x.2.2.1, x.2.2.2.1 ++ [(12, (T z.1).2.1, nI k, 0, 0)], x.2.2.2.2, rfl, by simp only [List.append_assoc], rfl⟩
          · rw [if_neg b] at h; cases h
theorem pArgs_cnt {T : TT} {rv : Nat → Nat → PX} {kq : Nat} (hv : ∀ c kq x, rv c kq = .inr x → c < x.1) : ∀ (f k : Nat) (z : PZ) (y : Nat × PZ), k ≤ 6 → pArgs T rv kq f k z = .inr y → k < y.1 ∧ y.1 ≤ 6 ∧ z.1 + 1 < y.2.1
  | 0, k, z, y, _, h => by cases h
  | f + 1, k, z, y, hk, h => by
    unfold pArgs at h
    by_cases k6 : k = 6
    · rw [if_pos k6] at h; cases h
    · rw [if_neg k6] at h
      cases hr : rv z.1 (kq + z.2.2.1.length) with
      | inl e => rw [hr] at h; cases h
      | inr x =>
        have hx := hv _ _ _ hr
        rw [hr] at h
        dsimp only at h
        by_cases a : (T x.1).1 = 44
        · rw [if_pos a] at h
          have := pArgs_cnt hv f (k + 1) _ y (by omega) h
          dsimp only at this
          omega
        · rw [if_neg a] at h
          by_cases b : (T x.1).1 = 41
          · rw [if_pos b] at h
            cases h
            dsimp only
            omega
          · rw [if_neg b] at h; cases h
section MJA29
variable {E : EV} {d N q c t n e k u v i m o w cs c0 kq nt : Nat} {s s' s0 : mjSt3} {j j0 : JS} {z : PZ} {p : Nat × Nat} {os : List Row} {rs : List Nat} {l : List Ins}
theorem L23_S (R : mjR) (n a : Nat) (b e f g : Int32) (hp : mjH) : L_23_43 R (n + 1) a b e f g hp = b_23_43 R (L_23_43 R n) a b e f g hp := rfl
theorem BC.skp (B : BC E.1 N q E.2.1 E.2.2.1 s) : mjF (d + 1) 166 [.ref 58] (mjW0 s) = some (none, mjW0 s) := j_skipB B.1.1.1.1 B.2.1
/-- fits, in a bad state -/
theorem x_123B (B : BC E.1 N q E.2.1 E.2.2.1 s) (hv : v < 524290) (hw : vT E.2.1 w) : ∃ b, mjF (d + 3) 123 [.ref q, .int (tyI v), .int (tyI w)] (mjW0 s) = some (some (.int b), mjW0 s) := by
  have C := B.1
  have hq := C.pq
  have hn := C.hn
  have h16 := hn.1
  have pre : mjF (d + 3) 123 [.ref q, .int (tyI v), .int (tyI w)] (mjW0 s) = _ := e_123 (d := d + 2)
  unfold f_123 b_123_0 b_123_25 b_123_67 at pre
  match v, hv, pre with
  | 1, _, pre =>
    rw [if_pos (show tyI 1 = -2 from rfl)] at pre
    by_cases g : tyI w = -1
    · rw [if_pos g] at pre; exact ⟨_, pre⟩
    · rw [if_neg g] at pre; exact ⟨_, pre⟩
  | 0, _, pre =>
    rw [if_neg (show ¬ tyI 0 = -2 by decide), if_pos (show tyI 0 < 0 by decide)] at pre
    by_cases g : tyI 0 = tyI w
    · rw [if_pos g] at pre; exact ⟨_, pre⟩
    · rw [if_neg g] at pre; exact ⟨_, pre⟩
  | k + 2, hv, pre =>
    have kc : cK k < 16 := by unfold cK; omega
    rw [if_neg (show ¬ tyI (k + 2) = -2 from fun x => by
      have := (tyI_eq (t := k + 2) (u := 1) hv (by decide)).mp x
      omega), if_neg (show ¬ tyI (k + 2) < 0 from nI_pos (by omega))] at pre
    rcases hw with g | ⟨x, g, vx⟩
    · subst g
      rw [if_neg (show ¬ (0 : Int32) ≤ tyI 0 by decide)] at pre
      by_cases g : tyI (k + 2) = tyI 0
      · rw [if_pos g] at pre; exact ⟨_, pre⟩
      · rw [if_neg g] at pre; exact ⟨_, pre⟩
    · subst g
      have xl := vx.lt hn
      have xc := vx.cl hn
      have V : VWS E.1 E.2.1 q s := C.1.2.2.2.1
      rw [if_pos (show (0 : Int32) ≤ tyI (x + 2) from nI_pos' (by omega)), show tyI (k + 2) = nI k from rfl, show tyI (x + 2) = nI x from rfl, x_105 (by omega), bI_s, x_105 (by omega), bI_s, yV hq, x_view hq kc (by omega), bI_s, V _ kc _ (by omega)] at pre
      by_cases kl : cK k < E.2.1.length
      · rw [if_pos kl] at pre
        cases hv' : vwT (nmL E.2.1) (abT E.1 E.2.1) (cK k) (cK x) with
        | none => rw [hv', oI_n, if_pos (by decide)] at pre; exact ⟨_, pre⟩
        | some v' =>
          have vv := (vw_v hn kl hv').1
          have vl := vv.lt hn
          rw [hv', oI_s, if_neg (nI_pos (by omega)), yV hq, x_stand hq C.1.1.2.2.2.2.2.2.1 (by omega) (by omega) (by have := vv.cl hn; omega), bI_s] at pre
          by_cases g : nI (stand (nmL E.2.1) v' k) = nI x
          · rw [if_pos g] at pre; exact ⟨_, pre⟩
          · rw [if_neg g] at pre; exact ⟨_, pre⟩
      · rw [if_neg kl, if_pos (by decide)] at pre
        exact ⟨_, pre⟩
/-- the end of a call, in a bad state -/
theorem n_141 (B : BC E.1 N q E.2.1 E.2.2.1 s) (a : Int32) (hnt : nt ≤ N) : ∃ s', b_23_141 (mjF (d + 1)) 75 a (nI nt) (mjW0 s) = some (none, mjW0 s') ∧ BC E.1 N q E.2.1 E.2.2.1 s' ∧ oC q s s' := by
  obtain ⟨y, n', w1, w2, w3, w4, w5⟩ := n_emit (d := d) B 13 a (E.1 nt).2.1
  refine ⟨y, ?_, w3, w4⟩
  unfold b_23_141
  rw [xg_75_0, xV_58, B.skp, bN_s, xg_75_5, B.1.2.2.2.2.2.2.2, xg_75_0, xV_58, j_place B.1.1.1.1 B.2.1.1 (Nat.le_refl N) hnt, bI_s, ycV B.1.pq, w1, bI_s]
theorem n_23l (B : BC E.1 N q E.2.1 E.2.2.1 s) (hm : m < nMem E.2.1) (hnt : nt ≤ N) (a i : Int32) (n : Nat) : ∃ s', L_23_43 (mjF (d + 1)) (n + 1) 75 (nI m) (nI nt) a i (mjW0 s) = some (none, mjW0 s') ∧ BC E.1 N q E.2.1 E.2.2.1 s' ∧ oC q s s' := by
  obtain ⟨y, y1, y2, y3⟩ := n_141 (d := d) B (nI m) hnt
  refine ⟨y, ?_, y2, y3⟩
  have d3 := B.1.2.1.2.2.1
  rw [L23_S]
  unfold b_23_43
  rw [xg_75_4, B.1.2.2.2.2.2.2.1, ymg_6 B.1.pq, wya_20 B.1.pq (by omega), xg_75_0, xV_58, j_fineB B.2.1, bI_s, if_pos rfl, y1, ite_self]
theorem jrun_no {a b : List Row} {j : JS} (h : jrun E a j = none) : jrun E (a ++ b) j = none := by
  rw [jrun_app, h]
theorem fits_row (p : Nat × Nat) (al : Bool) (x : Int32) (hk : k < 2 ^ 31) : jrow E (12, x, nI k, 0, 0) (jE (jA j0 p rs) t al) = if fitT E.1 E.2.1 t (sty (nmL E.2.1) (pyT E.1 E.2.1 p.1 k) p.2) = true then some (jA j0 p (t :: rs), []) else none := by
  show (if fitT E.1 E.2.1 t (sty (nmL E.2.1) (pyT E.1 E.2.1 p.1 (nI k).toNatClampNeg) p.2) = true then some (jA j0 p (t :: rs), ([] : List Ins)) else none) = _
  rw [nI_clamp hk]
/-- ARGUMENTS -/
theorem argC (ih : hE E N q (d + 5) 11 (prE E.1 (N + 1) w 0 (o + 1)) P3) (C : CE E N q s0 j0 cs) (hp : okM E p) (hnt : nt ≤ N) : ∀ (f k n : Nat) (z : PZ) (y : Nat × PZ) (s : mjSt3) (rs : List Nat) (l : List Ins), pArgs E.1 (prE E.1 (N + 1) w 0 (o + 1)) kq f k z = .inr y → y.1 = (psM E.2.1 p.1).length → 8 < n + k → k ≤ 6 → atA E q s0 c0 cs j0 p (os ++ z.2.2.2.1) s (if k = 0 then z.1 else z.1 - 1) rs l → rs.drop (k + 1) = jRS j0 → 1 ≤ z.1 → z.1 ≤ N → KT E.2.2.2.1 kq y.2.2.2.1 → AG s y.2.2.2.2.2 → cs + (y.2.1 - c0) ≤ 3090 → (∃ s' rs' l', L_23_43 (mjF (d + 5)) n 75 (nI p.1) (nI nt) (nI p.2) (nI k) (mjW0 s) = b_23_141 (mjF (d + 5)) 75 (nI p.1) (nI nt) (mjW0 s') ∧ atA E q s0 c0 cs j0 p (os ++ y.2.2.2.2.1) s' (y.2.1 - 1) rs' l' ∧ rs'.drop (y.1 + 1) = jRS j0 ∧ y.2.1 ≤ N ∧ (E.1 (y.2.1 - 1)).1 = 41) ∨ (∃ s', L_23_43 (mjF (d + 5)) n 75 (nI p.1) (nI nt) (nI p.2) (nI k) (mjW0 s) = some (none, mjW0 s') ∧ bdC E N q s0 j0 (os ++ y.2.2.2.2.1) s')
  | 0, k, n, z, y, s, rs, l, h, _, _, _, _, _, _, _, _, _, _ => by cases h
  | f + 1, k, n, z, y, s, rs, l, h, hy, hn, hk6, A, hr, h1, hzN, hK, hA, hb => by
    have hv : ∀ c kq x, prE E.1 (N + 1) w 0 (o + 1) c kq = .inr x → c < x.1 := fun c kq x hx => (prE_len (T := E.1) (M := N + 1) w 0 (o + 1) c kq x (by omega) hx).1
    have cn := pArgs_cnt hv (f + 1) k z y hk6 h
    have hq' : q = 2 ∨ q = 30 := C.pq
    have hn0 := C.1.hn
    obtain ⟨A1, A2, A3, A4, A5, A6, A7⟩ := A
    have Cs : CE E N q s j0 (cs + l.length) := C.go A6 A3
    have d3 := Cs.1.2.1.2.2.1
    have hm := hp.1
    have l6 : (psM E.2.1 p.1).length ≤ 6 := (Cs.1.2.2.2.1 p.1 hm).2.2.2.2.1
    have hT := Cs.TH
    have h0 := hT.2.2.1
    have hN := hT.2.1
    have lb : cs + l.length ≤ 3090 := by
      have : l.length + c0 + 3 ≤ z.1 := by
        by_cases e : k = 0
        · rw [if_pos e] at A7; omega
        · rw [if_neg e] at A7; omega
      omega
    obtain ⟨n', rfl⟩ : ∃ n', n = n' + 1 := ⟨n - 1, by omega⟩
    unfold pArgs at h
    have k6 : ¬ k = 6 := by
      intro k6
      rw [if_pos k6] at h; cases h
    rw [if_neg k6] at h
    obtain ⟨n2, rfl⟩ : ∃ n2, n' = n2 + 1 := ⟨n' - 1, by omega⟩
    -- the cursor comes to the ARGUMENT
    have S : ∃ s1, o58 s s1 ∧ fne s1 z.1 ∧ L_23_43 (mjF (d + 5)) (n2 + 1 + 1) 75 (nI p.1) (nI nt) (nI p.2) (nI k) (mjW0 s) = b_23_79 (mjF (d + 5)) (L_23_43 (mjF (d + 5)) (n2 + 1)) 75 (nI p.1) (nI nt) (nI p.2) (nI k) (mjW0 s1) := by
      have pre : L_23_43 (mjF (d + 5)) (n2 + 1 + 1) 75 (nI p.1) (nI nt) (nI p.2) (nI k) (mjW0 s) = _ := L23_S _ _ _ _ _ _ _ _
      unfold b_23_43 at pre
      rw [xg_75_4, Cs.1.2.2.2.2.2.2.1, ymg_6 C.pq, wya_20 C.pq (by omega), (Cs.1.2.1.2.2.2.2 p.1 hm).2.2.2.2.2.2, show (mdM E.2.1 p.1).2.2.2.1.length = (psM E.2.1 p.1).length from rfl, ← hy, if_neg (nI_ge cn.1 (by omega)), xg_75_0, xV_58, j_fine A2, bI_s, if_neg (by decide)] at pre
      by_cases e : k = 0
      · rw [if_pos e] at A2
        subst e
        rw [if_pos (show nI 0 ≤ (0 : Int32) by decide)] at pre
        exact ⟨s, offG.rf, A2, pre⟩
      · rw [if_neg e] at A2
        rw [if_neg (nI_nle (by omega) (by omega)), xg_75_0, xV_58, j_skip hT A2 (by omega), bN_s, show z.1 - 1 + 1 = z.1 by omega] at pre
        exact ⟨_, o58.go _ _, A2.go _, pre⟩
    obtain ⟨s1, x1, f1, pre⟩ := S
    have Cs1 : CE E N q s1 (jA j0 p rs) (cs + l.length) := Cs.go x1.oe (by rw [x1.r (by omega)]; exact A3)
    have Y := Cs1.1.1.2.2.2.2.2.2.2.1 p.1 hm
    have vp := py_v (T := E.1) (i := k) hn0 (Cs.1.2.1.2.2.2.2 p.1 hm).2.1
    have vW := vp.sty hn0 hp.2
    unfold b_23_79 b_23_135 at pre
    rw [xg_75_0, xV_58, j_now Cs1.TH f1.1 hzN, bI_s, xg_75_3, Cs1.1.2.2.2.2.2.1, xg_75_4, Cs1.1.2.2.2.2.2.2.1, ymV C.pq, x_98 C.pq (by omega) (by omega), bI_s, Y.2 k (by omega), yV C.pq, x_sty hn0 C.pq Cs1.1.1.1.2.2.2.2.2.2.1 vp hp.2, bI_s, xg_75_3, Cs1.1.2.2.2.2.2.1, xV_75, nI_1] at pre
    cases hx : prE E.1 (N + 1) w 0 (o + 1) z.1 (kq + z.2.2.1.length) with
    | inl e => rw [hx] at h; cases h
    | inr x =>
      have zx := hv _ _ _ hx
      rw [hx] at h
      dsimp only at h
      -- the parts of the whole
      have parts : ∃ a b c, y.2.2.2.1 = z.2.2.1 ++ (x.2.2.1 ++ a) ∧ y.2.2.2.2.1 = z.2.2.2.1 ++ (x.2.2.2.1 ++ ([(12, (E.1 z.1).2.1, nI k, 0, 0)] ++ b)) ∧ y.2.2.2.2.2 = z.2.2.2.2 ++ (x.2.2.2.2 ++ c) ∧ x.1 < y.2.1 ∧ ¬ (E.1 x.1).1 = 61 := by
        by_cases a : (E.1 x.1).1 = 44
        · rw [if_pos a] at h
          obtain ⟨a1, b1, c1, h1, h2, h3⟩ := pArgs_pre f (k + 1) _ y h
          have := pArgs_cnt hv f (k + 1) _ y (by omega) h
          dsimp only at this h1 h2 h3
          refine ⟨a1, b1, c1, by rw [h1, List.append_assoc], by rw [h2]; simp only [List.append_assoc], by rw [h3, List.append_assoc], by omega, by rw [a]; decide⟩
        · rw [if_neg a] at h
          by_cases b : (E.1 x.1).1 = 41
          · rw [if_pos b] at h
            cases h
            exact ⟨[], [], [], by simp only [List.append_nil], by simp only [List.append_assoc, List.append_nil], by simp only [List.append_nil], by show x.1 < x.1 + 1; omega, by rw [b]; decide⟩
          · rw [if_neg b] at h; cases h
      obtain ⟨pa, pb, pc, e1, e2, e3, e4, e5⟩ := parts
      rw [e1] at hK
      rw [e3] at hA
      have A7' : l.length + c0 + 3 ≤ z.1 := by
        by_cases e : k = 0
        · rw [if_pos e] at A7; omega
        · rw [if_neg e] at A7; omega
      have G := ih z.1 (kq + z.2.2.1.length) (cs + l.length) s1 (jA j0 p rs) x hzN Cs1 f1 hx e5 (hK.app.2.app.1) ((hA.oE C.pq x1.oe).app.2.app.1) (by omega)
      have bad : ∀ (y' : mjSt3), BC E.1 N q E.2.1 E.2.2.1 y' → oC q s0 y' → jrun E (os ++ y.2.2.2.2.1) j0 = none → L_23_43 (mjF (d + 5)) (n2 + 1 + 1) 75 (nI p.1) (nI nt) (nI p.2) (nI k) (mjW0 s) = L_23_43 (mjF (d + 5)) (n2 + 1) 75 (nI p.1) (nI nt) (nI p.2) (nI (k + 1)) (mjW0 y') → (∃ s', L_23_43 (mjF (d + 5)) (n2 + 1 + 1) 75 (nI p.1) (nI nt) (nI p.2) (nI k) (mjW0 s) = some (none, mjW0 s') ∧ bdC E N q s0 j0 (os ++ y.2.2.2.2.1) s') := by
        intro y' by' oy nj pr
        obtain ⟨y2, w1, w2, w3⟩ := n_23l (d := d + 4) by' hm hnt (nI p.2) (nI (k + 1)) n2
        exact ⟨y2, pr.trans w1, nj, w2, oy.tr w3⟩
      have jz : ∀ r, jrun E (os ++ (z.2.2.2.1 ++ r)) j0 = match jrun E r (jA j0 p rs) with
          | none => none
          | some (j2, c2) => some (j2, l ++ c2) := by
        intro r
        rw [← List.append_assoc, jrun_app, A1]
        rfl
      rcases G with ⟨s2, t, al, l2, g1, ⟨g2, g3, g4, g5, g6, g7, g8, g9⟩, gN, _⟩ | ⟨s2, vv, g1, gv, g2, g3, g4⟩
      · have C2 : CE E N q s2 (jA j0 p rs) (cs + l.length + l2.length) := Cs1.go g8 g5
        have fr := fits_row (E := E) (j0 := j0) (rs := rs) (t := t) (k := k) p al (E.1 z.1).2.1 (by omega)
        rw [g1, bI_s, yV C.pq, x_123 C2.1 g3 vW, bI_s, b2_i, xg_75_0, xV_58] at pre
        have oe2 : oE q s0 s2 := A6.tr (x1.oe.tr g8)
        by_cases ft : fitT E.1 E.2.1 t (sty (nmL E.2.1) (pyT E.1 E.2.1 p.1 k) p.2) = true
        · rw [if_pos ft] at fr pre
          have CL2 : CL q s2 cs (l ++ l2) := (A4.keep (CP.trn (CP.o58 C.pq x1) g7)).app g6
          have CP2 : CP q cs s0 s2 := CP.trn A5 (CP.trn (CP.o58 C.pq x1) (g7.mono (by omega)))
          have jr : jrun E (os ++ (z.2.2.2.1 ++ (x.2.2.2.1 ++ [(12, (E.1 z.1).2.1, nI k, 0, 0)]))) j0 = some (jA j0 p (t :: rs), l ++ l2) := by
            rw [jz, jrun_app, g2]
            dsimp only
            rw [jrun_1, fr]
            dsimp only
            rw [List.append_nil]
          have sz : s2.1 (q + 24) 3 = nI (cs + (l ++ l2).length) := by rw [g5, List.length_append, Nat.add_assoc]
          have dr : (t :: rs).drop (k + 1 + 1) = jRS j0 := by
            show rs.drop (k + 1) = _
            exact hr
          by_cases a : (E.1 x.1).1 = 44
          · rw [if_pos a] at h
            have xN := lt_z h0 gN a (by decide)
            have R := argC ih C hp hnt f (k + 1) (n2 + 1) _ y s2 (t :: rs) (l ++ l2) h hy (by omega) (by omega) ⟨by
              dsimp only
              simp only [List.append_assoc]
              exact jr, by
              rw [if_neg (by omega)]
              show fne s2 (x.1 + 1 - 1)
              exact g4, sz, CL2, CP2, oe2, by
              rw [if_neg (by omega), List.length_append]
              show l.length + l2.length + c0 + 3 ≤ x.1 + 1 - 1
              omega⟩ dr (by show 1 ≤ x.1 + 1; omega) (by show x.1 + 1 ≤ N; omega) (by rw [e1]; exact hK) (by rw [e3]; exact (hA.oE C.pq (x1.oe.tr g8))) hb
            rcases R with ⟨s', rs', l', r1, r2⟩ | ⟨s', r1, r2⟩
            · exact Or.inl ⟨s', rs', l', pre.trans r1, r2⟩
            · exact Or.inr ⟨s', pre.trans r1, r2⟩
          · rw [if_neg a] at h
            by_cases b : (E.1 x.1).1 = 41
            · rw [if_pos b] at h
              have xN := lt_z h0 gN b (by decide)
              cases h
              refine Or.inl ⟨s2, t :: rs, l ++ l2, ?_, ⟨?_, g4, sz, CL2, CP2, oe2, ?_⟩, dr, by show x.1 + 1 ≤ N; omega, b⟩
              · rw [pre, L23_S]
                unfold b_23_43
                rw [xg_75_4, C2.1.2.2.2.2.2.2.1, ymg_6 C.pq, wya_20 C.pq (by omega), (C2.1.2.1.2.2.2.2 p.1 hm).2.2.2.2.2.2, show (mdM E.2.1 p.1).2.2.2.1.length = (psM E.2.1 p.1).length from rfl, ← hy, if_pos (nI_le (by show k + 1 ≤ k + 1; omega) (by omega))]
              · dsimp only
                simp only [List.append_assoc]
                exact jr
              · rw [List.length_append]
                show l.length + l2.length + c0 + 3 ≤ x.1 + 1 - 1
                omega
            · rw [if_neg b] at h; cases h
        · rw [if_neg ft] at fr pre
          obtain ⟨y', y1, y2, y3⟩ := j_at (d := d + 4) (k := 7) (t := z.1) C2.TH g4 gN hzN (by decide)
          rw [y1, bN_s] at pre
          refine Or.inr (bad y' (C2.bad (by omega) y3 y2) (oe2.C.tr y3.C) ?_ pre)
          rw [e2, jz, jrun_app, g2]
          dsimp only
          rw [jrun_app, jrun_1, fr]
      · obtain ⟨b, hbb⟩ := x_123B (d := d + 2) g3 gv vW
        rw [g1, bI_s, yV C.pq, hbb, bI_s, xg_75_0, xV_58, j_atB g3.1.1.1.1 g3.2.1, bN_s, ite_self] at pre
        refine Or.inr (bad s2 g3 (A6.C.tr (x1.C.tr g4)) ?_ pre)
        rw [e2, jz, jrun_app, g2]
end MJA29
