/-! ===== what waits at an order, and its TYPES ===== -/
def tOK (L : List CD) (x : Nat) : Prop := ctT x < L.length + 2
/-- a FIELD left of =: the TYPE of its object, its own TYPE, its place -/
def FLD (T : TT) (L : List CD) (x ty lf : Nat) : Prop := ∃ k m w, x = k + 2 ∧ memT T L (cK k) w false = some m ∧ lf = numM T L m ∧ ctT ty = ctT (tyM T L m)
/-- a call that waits: its METHOD, the TYPES of its values (the last first), its object's -/
def CLW (T : TT) (L : List CD) (n i : Nat) (w : Int64) (p : Nat × Nat) (as : List Nat) (x : Nat) : Prop := ∃ k, x = k + 2 ∧ memT T L (cK k) w true = some p.1 ∧ (psM L p.1).length = n ∧ as.length = i ∧ ∀ a, a < i → ∃ y z, as[i - 1 - a]? = some y ∧ fitT T L y z = true ∧ ctT z = ctT (pyT T L p.1 a)
def RELj (T : TT) (L : List CD) (vt : Nat → Nat) (lf : Nat) : GS → List (Nat × Bool) → List (Nat × Nat) → List Nat → Prop
  | [], st, pd, rs => st = [] ∧ pd = [] ∧ rs = []
  | (0, _) :: G, st, pd, rs => ∃ t st' rs', st = t :: st' ∧ rs = t.1 :: rs' ∧ RELj T L vt lf G st' pd rs'
  | (1, 0, _) :: G, st, pd, rs => ∃ t st', st = t :: st' ∧ (vt lf = t.1 ∧ lf < 16) ∧ RELj T L vt lf G st' pd rs
  | (1, _ + 1, _) :: G, st, pd, rs => ∃ t st' x rs', st = t :: st' ∧ rs = x :: rs' ∧ FLD T L x t.1 lf ∧ RELj T L vt lf G st' pd rs'
  | (n + 2, i, w) :: G, st, pd, rs => ∃ p pd' as x rs', pd = p :: pd' ∧ rs = as ++ x :: rs' ∧ CLW T L n i w p as x ∧ RELj T L vt lf G st pd' rs'
/-- VARIABLES: each number has one TYPE -/
def JV (L : List CD) (vt : Nat → Nat) (j : JS) : Prop := (∀ e, e ∈ j.2.2.1 → vt e.2.2.1 = e.2.1 ∧ e.2.2.1 < 16 ∧ tOK L e.2.1) ∧ tOK L j.2.2.2.2.2.1.2
def JOK (T : TT) (L : List CD) (vt : Nat → Nat) (j : JS) (G : GS) : Prop := RELj T L vt j.2.2.2.2.2.2.1 G j.1 j.2.1 (jRS j) ∧ (∀ x, x ∈ jRS j → tOK L x) ∧ JV L vt j
section MJB25
variable {T : TT} {N : Nat} {L : List CD} {E : EV} {vt : Nat → Nat} {j j' : JS} {r : Row} {G : GS} {l : List Ins} {x : Nat}
theorem tOK.v (hn : HN T N L) (h : vT L x) : tOK L x := by
  rcases h with e | ⟨k, e, hk⟩
  · rw [e]; show 0 < _; omega
  · rw [e]
    have := hk.cl hn
    show cK k + 2 < _
    omega
theorem tOK.k {k : Nat} (h : tOK L (k + 2)) : cK k < L.length := by
  have : cK k + 2 < L.length + 2 := h
  omega
theorem tOK.c {y : Nat} (h : tOK L x) (e : ctT y = ctT x) : tOK L y := by unfold tOK at h ⊢; rw [e]; exact h
theorem prt_c {t : Nat × Bool} {w : Int64} {isM : Bool} {p : Nat × Nat} (h : prtE E t w isM = some p) (ht : tOK E.2.1 t.1) : ∃ k, t.1 = k + 2 ∧ cK k < E.2.1.length ∧ memT E.1 E.2.1 (cK k) w isM = some p.1 := by
  unfold prtE at h
  obtain ⟨x, al⟩ := t
  match x, ht, h with
  | 0, _, h => cases h
  | 1, _, h => cases h
  | k + 2, ht, h =>
    dsimp only at h
    cases hm : memT E.1 E.2.1 (cK k) w isM with
    | none => rw [hm] at h; cases h
    | some m =>
      rw [hm] at h
      dsimp only at h
      by_cases g : (!al && hidM E.1 E.2.1 m) = true
      · rw [if_pos g] at h; cases h
      · rw [if_neg g] at h
        cases h
        exact ⟨k, rfl, tOK.k ht, hm⟩
theorem kdE_c (hn : HN E.1 N E.2.1) (hh : ∀ c, E.2.2.2.2.1 = some c → c < E.2.1.length) {a : Int32} {k : Nat} (h : kdE E a = some k) : vK E.2.1 k := by
  unfold kdE at h
  cases hk : kdT E.1 E.2.1 E.2.2.2.2.1 false (E.2.2.2.1 a) with
  | none => rw [hk] at h; cases h
  | some k' =>
    rw [hk] at h
    dsimp only at h
    by_cases g : (E.2.2.1 || nsT E.1 E.2.1 E.2.2.2.2.1 k') = true
    · rw [if_pos g] at h
      cases h
      exact (kd_vK hn hh hk).1
    · rw [if_neg g] at h; cases h
theorem tyE_c (hn : HN E.1 N E.2.1) (hh : ∀ c, E.2.2.2.2.1 = some c → c < E.2.1.length) {a : Int32} {x : Nat} (h : tyE E a = some x) : tOK E.2.1 x := by
  unfold tyE at h
  by_cases g : a = -1
  · rw [if_pos g] at h
    cases h
    show 0 < _
    omega
  · rw [if_neg g] at h
    cases hk : kdE E a with
    | none => rw [hk] at h; cases h
    | some k =>
      rw [hk] at h
      cases h
      exact tOK.v hn (Or.inr ⟨k, rfl, kdE_c hn hh hk⟩)
theorem own_ck (hn : HN T N L) {c : Nat} (hc : c < L.length) : cK (own (nmL L) c) = c := mkK_c (vK.n5 hn hc).2 (fun i _ => by
  have := (vK.n5 hn hc).2
  omega)
/-- one order judged: what waits behind it -/
theorem rel_step (Ac : ACY E.1 N E.2.1) (p6 : ∀ m, m < nMem E.2.1 → (psM E.2.1 m).length ≤ 6) (hh : ∀ c, E.2.2.2.2.1 = some c → c < E.2.1.length) (ok : okG r G) (J : JOK E.1 E.2.1 vt j G) (h : jrow E r j = some (j', l)) (hvt : r.1 = 20 → vt j.2.2.2.1 = j.2.2.2.2.2.1.2 ∧ j.2.2.2.1 < 16) : JOK E.1 E.2.1 vt j' (nxG r G) := by
  have hn := Ac.1
  obtain ⟨R, K, V⟩ := J
  have push : ∀ (t : Nat) (al : Bool) (i : List Ins), tOK E.2.1 t → some (jpush j t al (t :: jRS j), i) = some (j', l) → JOK E.1 E.2.1 vt j' ((0, 0, 0) :: G) := by
    intro t al i ht e
    cases e
    refine ⟨⟨(t, al), j.1, jRS j, rfl, rfl, R⟩, fun x hx => ?_, V⟩
    rcases List.mem_cons.mp hx with e | e
    · rw [e]; exact ht
    · exact K x e
  have memf : ∀ {t : Nat × Bool} {w : Int64} {isM : Bool} {p : Nat × Nat}, prtE E t w isM = some p → tOK E.2.1 t.1 → ∃ k, t.1 = k + 2 ∧ memT E.1 E.2.1 (cK k) w isM = some p.1 ∧ hmM E.2.1 p.1 < E.2.1.length ∧ p.1 < nMem E.2.1 ∧ ctT (sty (nmL E.2.1) (tyM E.1 E.2.1 p.1) p.2) = ctT (tyM E.1 E.2.1 p.1) ∧ tOK E.2.1 (sty (nmL E.2.1) (tyM E.1 E.2.1 p.1) p.2) := by
    intro t w isM p hp ht
    obtain ⟨k, k1, k2, k3⟩ := prt_c hp ht
    obtain ⟨m1, m2, _⟩ := mem_in Ac k2 k3
    have tv := tyM_v hn m2
    have e := ct_sty (u := p.2) hn tv
    exact ⟨k, k1, k3, m2, m1, e, (tOK.v hn tv).c e⟩
  rcases ok with o | ⟨o, G', eG⟩ | ⟨o, G', eG⟩ | ⟨o, n, G', n6, ob, eG⟩ | ⟨o, n, i, w, G', eG, hi, n6, oa⟩ | ⟨o, n, G', n6, oa, eG⟩ | ⟨o, eG⟩ | ⟨o, eG⟩ | ⟨o, eG⟩ | ⟨o, eG⟩ | ⟨o, eG⟩ | ⟨o, eG⟩
  · rw [nxG_a o]
    rcases o with o | o | o | o | o
    · rw [jr_3 o] at h
      exact push 0 _ _ (by show 0 < _; omega) h
    · rw [jr_4 o] at h
      exact push 1 _ _ (by show 1 < _; omega) h
    · rw [jr_5 o] at h
      cases hc : E.2.2.2.2.1 with
      | none => rw [hc] at h; cases h
      | some c =>
        rw [hc] at h
        have cl := hh c hc
        refine push _ _ _ ?_ h
        show cK (own (nmL E.2.1) c) + 2 < _
        rw [own_ck hn cl]
        omega
    · rw [jr_6 o] at h
      cases hv : vsK j.2.2.1 r.2.2.2.2 with
      | none => rw [hv] at h; cases h
      | some e =>
        rw [hv] at h
        exact push _ _ _ (V.1 e (List.mem_of_find?_eq_some hv)).2.2 h
    · rw [jr_7 o] at h
      cases hk : kdE E r.2.2.1 with
      | none => rw [hk] at h; cases h
      | some k =>
        rw [hk] at h
        exact push _ _ _ (tOK.v hn (Or.inr ⟨k, rfl, kdE_c hn hh hk⟩)) h
  · subst eG
    rw [nxG_9 o]
    obtain ⟨t2, st1, rs1, e1, e2, t1, st2, rs2, e3, e4, R2⟩ := R
    subst e3
    rw [jr_9 o, e1] at h
    dsimp only at h
    by_cases g : (if r.2.2.1 = 257 ∨ r.2.2.1 = 258 then (t1.1 = 0 ↔ t2.1 = 0) else (t1.1 = 0 ∧ t2.1 = 0))
    · rw [if_pos g] at h
      cases h
      have ed : (jRS j).drop 2 = rs2 := by rw [e2, e4]; rfl
      refine ⟨⟨(0, false), st2, rs2, rfl, ?_, R2⟩, fun x hx => ?_, V⟩
      · show 0 :: (jRS j).drop 2 = 0 :: rs2
        rw [ed]
      · have hx' : x ∈ 0 :: (jRS j).drop 2 := hx
        rw [ed] at hx'
        rcases List.mem_cons.mp hx' with e | e
        · rw [e]; show 0 < _; omega
        · exact K x (by rw [e2, e4]; exact List.mem_cons_of_mem _ (List.mem_cons_of_mem _ e))
    · rw [if_neg g] at h; cases h
  · subst eG
    obtain ⟨t, st1, rs1, e1, e2, R1⟩ := R
    have tk : tOK E.2.1 t.1 := K t.1 (by rw [e2]; exact List.mem_cons_self)
    rcases o with o | o | o | o
    · rw [nxG_n (Or.inl o)]
      rw [jr_8 o, e1] at h
      dsimp only at h
      by_cases g : t.1 = 0
      · rw [if_pos g] at h
        cases h
        exact ⟨⟨t, st1, rs1, e1, e2, R1⟩, K, V⟩
      · rw [if_neg g] at h; cases h
    · rw [nxG_n (Or.inr (Or.inl o))]
      rw [jr_10 o, e1] at h
      dsimp only at h
      cases hp : prtE E t r.2.2.2.2 false with
      | none => rw [hp] at h; cases h
      | some p =>
        rw [hp] at h
        obtain ⟨k, k1, k2, k3, k4, k5, k6⟩ := memf hp tk
        cases h
        refine ⟨⟨_, st1, rs1, rfl, ?_, R1⟩, fun x hx => ?_, V⟩
        · show _ :: (jRS j).drop 1 = _ :: rs1
          rw [e2]
          rfl
        · have hx' : x ∈ _ :: (jRS j).drop 1 := hx
          rcases List.mem_cons.mp hx' with e | e
          · rw [e]; exact k6
          · exact K x (List.mem_of_mem_drop e)
    · rw [nxG_n (Or.inr (Or.inr (Or.inl o)))]
      rw [jr_14 o, e1] at h
      dsimp only at h
      cases hk : kdE E r.2.2.1 with
      | none => rw [hk] at h; cases h
      | some k =>
        rw [hk] at h
        dsimp only at h
        by_cases g : t.1 = 0
        · rw [if_pos g] at h; cases h
        · rw [if_neg g] at h
          cases h
          refine ⟨⟨_, st1, rs1, rfl, ?_, R1⟩, fun x hx => ?_, V⟩
          · show _ :: (jRS j).drop 1 = _ :: rs1
            rw [e2]
            rfl
          · have hx' : x ∈ _ :: (jRS j).drop 1 := hx
            rcases List.mem_cons.mp hx' with e | e
            · rw [e]; exact tOK.v hn (Or.inr ⟨k, rfl, kdE_c hn hh hk⟩)
            · exact K x (List.mem_of_mem_drop e)
    · rw [nxG_n (Or.inr (Or.inr (Or.inr (Or.inl o))))]
      rw [jr_30 o, e1] at h
      cases h
      exact ⟨⟨(t.1, false), st1, rs1, rfl, e2, R1⟩, K, V⟩
  · subst eG
    rw [nxG_11 o]
    obtain ⟨t, st1, rs1, e1, e2, R1⟩ := R
    have tk : tOK E.2.1 t.1 := K t.1 (by rw [e2]; exact List.mem_cons_self)
    rw [jr_11 o, e1] at h
    dsimp only at h
    cases hp : prtE E t r.2.2.2.2 true with
    | none => rw [hp] at h; cases h
    | some p =>
      rw [hp] at h
      obtain ⟨k, k1, k2, k3, k4, k5, k6⟩ := memf hp tk
      dsimp only at h
      by_cases g : nI (psM E.2.1 p.1).length = r.2.2.2.1
      · rw [if_pos g] at h
        cases h
        have l6 := p6 p.1 k4
        have en : nN r.2.2.2.1 = (psM E.2.1 p.1).length := by rw [← g, nN_nI (by omega)]
        rw [en]
        exact ⟨⟨p, j.2.1, [], t.1, rs1, rfl, e2, ⟨k, k1, k2, rfl, rfl, fun a ha => by omega⟩, R1⟩, K, V⟩
      · rw [if_neg g] at h; cases h
  · subst eG
    rw [nxG_12 o]
    obtain ⟨t, st1, rs1, e1, e2, p, pd1, as, x, rs2, e3, e4, ⟨k, c1, c2, c3, c4, c5⟩, R2⟩ := R
    have xk : tOK E.2.1 x := K x (by rw [e2, e4]; exact List.mem_cons_of_mem _ (List.mem_append_right _ List.mem_cons_self))
    rw [c1] at xk
    obtain ⟨m1, m2, _⟩ := mem_in Ac (tOK.k xk) c2
    rw [jr_12 o, e1, e3] at h
    dsimp only at h
    have ea : r.2.2.1.toNatClampNeg = i := by rw [oa]; exact nI_clamp (by omega)
    rw [ea] at h
    by_cases g : fitT E.1 E.2.1 t.1 (sty (nmL E.2.1) (pyT E.1 E.2.1 p.1 i) p.2) = true
    · rw [if_pos g] at h
      cases h
      refine ⟨⟨p, pd1, t.1 :: as, x, rs2, e3, ?_, ⟨k, c1, c2, c3, by rw [List.length_cons, c4], fun a ha => ?_⟩, R2⟩, K, V⟩
      · show jRS j = _
        rw [e2, e4]
        rfl
      · have ha' : a < i + 1 := ha
        by_cases q : a = i
        · subst q
          exact ⟨t.1, _, by rw [show a + 1 - 1 - a = 0 by omega]; rfl, g, ct_sty hn (py_v hn m2)⟩
        · obtain ⟨y, z, y1, y2, y3⟩ := c5 a (by omega)
          refine ⟨y, z, ?_, y2, y3⟩
          show (t.1 :: as)[i + 1 - 1 - a]? = some y
          rw [show i + 1 - 1 - a = (i - 1 - a) + 1 by omega]
          exact y1
    · rw [if_neg g] at h; cases h
  · subst eG
    rw [nxG_13 o]
    obtain ⟨p, pd1, as, x, rs1, e3, e4, ⟨k, c1, c2, c3, c4, c5⟩, R1⟩ := R
    have xk : tOK E.2.1 x := K x (by rw [e4]; exact List.mem_append_right _ List.mem_cons_self)
    rw [c1] at xk
    obtain ⟨m1, m2, _⟩ := mem_in Ac (tOK.k xk) c2
    have tv := tyM_v hn m2
    rw [jr_13 o, e3] at h
    cases h
    have ed : (jRS j).drop ((psM E.2.1 p.1).length + 1) = rs1 := by
      rw [e4, c3, ← c4, ← List.drop_drop, List.drop_left']
      · rfl
      · rfl
    refine ⟨⟨_, j.1, rs1, rfl, ?_, R1⟩, fun x hx => ?_, V⟩
    · show _ :: (jRS j).drop ((psM E.2.1 p.1).length + 1) = _ :: rs1
      rw [ed]
    · have hx' : x ∈ _ :: (jRS j).drop ((psM E.2.1 p.1).length + 1) := hx
      rcases List.mem_cons.mp hx' with e | e
      · rw [e]; exact (tOK.v hn tv).c (ct_sty hn tv)
      · exact K x (List.mem_of_mem_drop e)
  · subst eG
    rw [nxG_15 o]
    rw [jr_15 o] at h
    cases hv : vsK j.2.2.1 r.2.2.2.2 with
    | none => rw [hv] at h; cases h
    | some e =>
      rw [hv] at h
      cases h
      obtain ⟨v1, v2, v3⟩ := V.1 e (List.mem_of_find?_eq_some hv)
      obtain ⟨r1, r2, r3⟩ := R
      exact ⟨⟨(e.2.1, false), j.1, rfl, ⟨v1, v2⟩, r1, r2, r3⟩, K, V⟩
  · subst eG
    rw [nxG_16 o]
    obtain ⟨t, st1, rs1, e1, e2, r1, r2, r3⟩ := R
    have tk : tOK E.2.1 t.1 := K t.1 (by rw [e2]; exact List.mem_cons_self)
    rw [jr_16 o, e1] at h
    dsimp only at h
    cases hp : prtE E t r.2.2.2.2 false with
    | none => rw [hp] at h; cases h
    | some p =>
      rw [hp] at h
      obtain ⟨k, k1, k2, k3, k4, k5, k6⟩ := memf hp tk
      cases h
      exact ⟨⟨_, st1, t.1, rs1, rfl, e2, ⟨k, p.1, r.2.2.2.2, k1, k2, rfl, k5⟩, r1, r2, r3⟩, K, V⟩
  · subst eG
    rw [nxG_17 (Or.inl o)]
    obtain ⟨t2, st1, rs1, e1, e2, t1, st2, e3, _, r1, r2, r3⟩ := R
    subst e3
    rw [jr_17 o, e1] at h
    dsimp only at h
    by_cases g : fitT E.1 E.2.1 t2.1 t1.1 = true
    · rw [if_pos g] at h
      cases h
      refine ⟨⟨r1, r2, ?_⟩, fun x hx => K x (List.mem_of_mem_drop hx), V⟩
      show (jRS j).drop 1 = []
      rw [e2, r3]
      rfl
    · rw [if_neg g] at h; cases h
  · subst eG
    rw [nxG_17 (Or.inr o)]
    obtain ⟨t2, st1, rs1, e1, e2, t1, st2, x, rs2, e3, e4, _, r1, r2, r3⟩ := R
    subst e3
    rw [jr_18 o, e1] at h
    dsimp only at h
    by_cases g : fitT E.1 E.2.1 t2.1 t1.1 = true
    · rw [if_pos g] at h
      cases h
      refine ⟨⟨r1, r2, ?_⟩, fun x hx => K x (List.mem_of_mem_drop hx), V⟩
      show (jRS j).drop 2 = []
      rw [e2, e4, r3]
      rfl
    · rw [if_neg g] at h; cases h
  · subst eG
    obtain ⟨t, st1, rs1, e1, e2, r1, r2, r3⟩ := R
    have ed : (jRS j).drop 1 = [] := by rw [e2, r3]; rfl
    have done : ∀ (x : Option (JS × List Ins)), x = some (j', l) → (∃ i, x = some (jst j st1 ((jRS j).drop 1), i)) → JOK E.1 E.2.1 vt j' [] := by
      intro x hx ⟨i, hi⟩
      rw [hx] at hi
      cases hi
      exact ⟨⟨r1, r2, ed⟩, fun x hx => K x (List.mem_of_mem_drop hx), V⟩
    rcases o with o | o | o | o | o
    · rw [nxG_o (Or.inl o)]
      rw [jr_20 o, e1] at h
      dsimp only at h
      by_cases g : fitT E.1 E.2.1 t.1 j.2.2.2.2.2.1.2 = true
      · rw [if_pos g] at h
        cases h
        refine ⟨⟨r1, r2, ed⟩, fun x hx => K x (List.mem_of_mem_drop hx), fun e he => ?_, V.2⟩
        rcases List.mem_append.mp he with q | q
        · exact V.1 e q
        · have : e = (j.2.2.2.2.2.1.1, j.2.2.2.2.2.1.2, j.2.2.2.1, j.2.2.2.2.1) := by simpa using q
          rw [this]
          exact ⟨(hvt o).1, (hvt o).2, V.2⟩
      · rw [if_neg g] at h; cases h
    · rw [nxG_o (Or.inr (Or.inl o))]
      rw [jr_21 o, e1] at h
      dsimp only at h
      by_cases g : t.1 = 0
      · rw [if_pos g] at h; exact done _ h ⟨_, rfl⟩
      · rw [if_neg g] at h; cases h
    · rw [nxG_o (Or.inr (Or.inr (Or.inl o)))]
      rw [jr_24 o, e1] at h
      dsimp only at h
      by_cases g : t.1 = 0
      · rw [if_pos g] at h; exact done _ h ⟨_, rfl⟩
      · rw [if_neg g] at h; cases h
    · rw [nxG_o (Or.inr (Or.inr (Or.inr (Or.inl o))))]
      rw [jr_25 o, e1] at h
      exact done _ h ⟨_, rfl⟩
    · rw [nxG_o (Or.inr (Or.inr (Or.inr (Or.inr o.1))))]
      rw [jr_28 o.1, e1] at h
      dsimp only at h
      by_cases g : fitT E.1 E.2.1 t.1 E.2.2.2.2.2.1 = true
      · rw [if_pos g] at h; exact done _ h ⟨_, rfl⟩
      · rw [if_neg g] at h; cases h
  · subst eG
    rcases o with o | o | o | o | o | o | o
    · rw [nxG_n (by rw [o]; decide)]
      rw [jr_1 o] at h
      cases h
      exact ⟨R, K, V⟩
    · rw [nxG_n (by rw [o]; decide)]
      rw [jr_2 o] at h
      cases h
      exact ⟨R, K, V⟩
    · rw [nxG_n (by rw [o]; decide)]
      rw [jr_19 o] at h
      cases ht : tyE E r.2.2.1 with
      | none => rw [ht] at h; cases h
      | some x =>
        rw [ht] at h
        dsimp only at h
        by_cases g : vsK j.2.2.1 r.2.2.2.2 = none
        · rw [if_pos g] at h
          cases h
          exact ⟨R, K, V.1, tyE_c hn hh ht⟩
        · rw [if_neg g] at h; cases h
    · rw [nxG_n (by rw [o]; decide)]
      rw [jr_22 o] at h
      cases h
      exact ⟨R, K, V⟩
    · rw [nxG_n (by rw [o]; decide)]
      rw [jr_23 o] at h
      cases h
      exact ⟨R, K, V⟩
    · rw [nxG_n (by rw [o]; decide)]
      rw [jr_26 o] at h
      cases h
      exact ⟨R, K, V⟩
    · rw [nxG_n (by rw [o]; decide)]
      rw [jr_27 o] at h
      cases h
      exact ⟨R, K, fun e he => V.1 e (List.mem_filter.mp he).1, V.2⟩
end MJB25
