section
/-! ===== what waits at an order, and its TYPES ===== -/
def tOK (L : List CD) (x : Nat) : Prop := ctT x < L.length + 2
/-- a FIELD left of =: the TYPE of its object, its own TYPE, its place -/
def FLD (T : TT) (L : List CD) (x ty lf : Nat) : Prop := ∃ k m w, x = k + 2 ∧ memT T L (cK k) w false = some m ∧ lf = numM T L m ∧ ctT ty = ctT (tyM T L m)
/-- a call that waits: its METHOD, the TYPES of its values (the last first), its object's -/
def CLW (T : TT) (L : List CD) (n i : Nat) (w : Int64) (p : Nat × Nat) (as : List Nat) (x : Nat) : Prop := ∃ k, x = k + 2 ∧ memT T L (cK k) w true = some p.1 ∧ (psM L p.1).length = n ∧ as.length = i ∧ ∀ a, a < i → ∃ y z, as[i - 1 - a]? = some y ∧ fitT T L y z = true ∧ ctT z = ctT (pyT T L p.1 a)
def RELj (T : TT) (L : List CD) (vt : Nat → Nat) (lf : Nat) : GS → List (Nat × Bool) → List (Nat × Nat) → List Nat → Prop
  | [], st, pd, rs => st = [] ∧ pd = [] ∧ rs = []
  | (0, _) :: G, st, pd, rs => ∃ t st' rs', st = t :: st' ∧ rs = t.1 :: rs' ∧ RELj T L vt lf G st' pd rs'
  | (1, 0, _) :: G, st, pd, rs => ∃ t st', st = t :: st' ∧ (vt lf = t.1 ∧ lf < 16) ∧ RELj T L vt lf G st' pd rs
  | (1, _ + 1, _) :: G, st, pd, rs => ∃ t st' x rs', st = t :: st' ∧ rs = x :: rs' ∧ FLD T L x t.1 lf ∧ RELj T L vt lf G st' pd rs'
  | (n + 2, i, w) :: G, st, pd, rs => ∃ p pd' as x rs', pd = p :: pd' ∧ rs = as ++ x :: rs' ∧ CLW T L n i w p as x ∧ RELj T L vt lf G st pd' rs'
/-- VARIABLES: each number has one TYPE -/
def JV (L : List CD) (vt : Nat → Nat) (j : JS) : Prop := (∀ e, e ∈ j.2.2.1 → vt e.2.2.1 = e.2.1 ∧ e.2.2.1 < 16 ∧ tOK L e.2.1) ∧ tOK L j.2.2.2.2.2.1.2
def JOK (T : TT) (L : List CD) (vt : Nat → Nat) (j : JS) (G : GS) : Prop := RELj T L vt j.2.2.2.2.2.2.1 G j.1 j.2.1 (jRS j) ∧ (∀ x, x ∈ jRS j → tOK L x) ∧ JV L vt j
section MJB25
variable {T : TT} {N : Nat} {L : List CD} {E : EV} {vt : Nat → Nat} {j j' : JS} {r : Row} {G : GS} {l : List Ins} {x : Nat}
theorem tOK.v (hn : HN T N L) (h : vT L x) : tOK L x := by
  rcases h with e | ⟨k, e, hk⟩
  · rw [e]; show 0 < _; omega
  · rw [e]
    have := hk.cl hn
    show cK k + 2 < _
    omega
theorem tOK.k {k : Nat} (h : tOK L (k + 2)) : cK k < L.length := by
  have : cK k + 2 < L.length + 2 := h
  omega
theorem tOK.c {y : Nat} (h : tOK L x) (e : ctT y = ctT x) : tOK L y := by unfold tOK at h ⊢; rw [e]; exact h
theorem prt_c {t : Nat × Bool} {w : Int64} {isM : Bool} {p : Nat × Nat} (h : prtE E t w isM = some p) (ht : tOK E.2.1 t.1) : ∃ k, t.1 = k + 2 ∧ cK k < E.2.1.length ∧ memT E.1 E.2.1 (cK k) w isM = some p.1 := by
  unfold prtE at h
  obtain ⟨x, al⟩ := t
  match x, ht, h with
  | 0, _, h => cases h
  | 1, _, h => cases h
  | k + 2, ht, h =>
    dsimp only at h
    cases hm : memT E.1 E.2.1 (cK k) w isM with
    | none => rw [hm] at h; cases h
    | some m =>
      rw [hm] at h
      dsimp only at h
      by_cases g : (!al && hidM E.1 E.2.1 m) = true
      · rw [if_pos g] at h; cases h
      · rw [if_neg g] at h
        cases h
        exact ⟨k, rfl, tOK.k ht, hm⟩
theorem kdE_c (hn : HN E.1 N E.2.1) (hh : ∀ c, E.2.2.2.2.1 = some c → c < E.2.1.length) {a : Int32} {k : Nat} (h : kdE E a = some k) : vK E.2.1 k := by
  unfold kdE at h
  cases hk : kdT E.1 E.2.1 E.2.2.2.2.1 false (E.2.2.2.1 a) with
  | none => rw [hk] at h; cases h
  | some k' =>
    rw [hk] at h
    dsimp only at h
    by_cases g : (E.2.2.1 || nsT E.1 E.2.1 E.2.2.2.2.1 k') = true
    · rw [if_pos g] at h
      cases h
      exact (kd_vK hn hh hk).1
    · rw [if_neg g] at h; cases h
theorem tyE_c (hn : HN E.1 N E.2.1) (hh : ∀ c, E.2.2.2.2.1 = some c → c < E.2.1.length) {a : Int32} {x : Nat} (h : tyE E a = some x) : tOK E.2.1 x := by
  unfold tyE at h
  by_cases g : a = -1
  · rw [if_pos g] at h
    cases h
    show 0 < _
    omega
  · rw [if_neg g] at h
    cases hk : kdE E a with
    | none => rw [hk] at h; cases h
    | some k =>
      rw [hk] at h
      cases h
      exact tOK.v hn (Or.inr ⟨k, rfl, kdE_c hn hh hk⟩)
theorem own_ck (hn : HN T N L) {c : Nat} (hc : c < L.length) : cK (own (nmL L) c) = c := mkK_c (vK.n5 hn hc).2 (fun i _ => by
  have := (vK.n5 hn hc).2
  omega)
/-- one order judged: what waits behind it -/
theorem rel_step (Ac : ACY E.1 N E.2.1) (p6 : ∀ m, m < nMem E.2.1 → (psM E.2.1 m).length ≤ 6) (hh : ∀ c, E.2.2.2.2.1 = some c → c < E.2.1.length) (ok : okG r G) (J : JOK E.1 E.2.1 vt j G) (h : jrow E r j = some (j', l)) (hvt : r.1 = 20 → vt j.2.2.2.1 = j.2.2.2.2.2.1.2 ∧ j.2.2.2.1 < 16) : JOK E.1 E.2.1 vt j' (nxG r G) := by
  have hn := Ac.1
  obtain ⟨R, K, V⟩ := J
  have push : ∀ (t : Nat) (al : Bool) (i : List Ins), tOK E.2.1 t → some (jpush j t al (t :: jRS j), i) = some (j', l) → JOK E.1 E.2.1 vt j' ((0, 0, 0) :: G) := by
    intro t al i ht e
    cases e
    refine ⟨⟨(t, al), j.1, jRS j, rfl, rfl, R⟩, fun x hx => ?_, V⟩
    rcases List.mem_cons.mp hx with e | e
    · rw [e]; exact ht
    · exact K x e
  have memf : ∀ {t : Nat × Bool} {w : Int64} {isM : Bool} {p : Nat × Nat}, prtE E t w isM = some p → tOK E.2.1 t.1 → ∃ k, t.1 = k + 2 ∧ memT E.1 E.2.1 (cK k) w isM = some p.1 ∧ hmM E.2.1 p.1 < E.2.1.length ∧ p.1 < nMem E.2.1 ∧ ctT (sty (nmL E.2.1) (tyM E.1 E.2.1 p.1) p.2) = ctT (tyM E.1 E.2.1 p.1) ∧ tOK E.2.1 (sty (nmL E.2.1) (tyM E.1 E.2.1 p.1) p.2) := by
    intro t w isM p hp ht
    obtain ⟨k, k1, k2, k3⟩ := prt_c hp ht
    obtain ⟨m1, m2, _⟩ := mem_in Ac k2 k3
    have tv := tyM_v hn m2
    have e := ct_sty (u := p.2) hn tv
    exact ⟨k, k1, k3, m2, m1, e, (tOK.v hn tv).c e⟩
  rcases ok with o | ⟨o, G', eG⟩ | ⟨o, G', eG⟩ | ⟨o, n, G', n6, ob, eG⟩ | ⟨o, n, i, w, G', eG, hi, n6, oa⟩ | ⟨o, n, G', n6, oa, eG⟩ | ⟨o, eG⟩ | ⟨o, eG⟩ | ⟨o, eG⟩ | ⟨o, eG⟩ | ⟨o, eG⟩ | ⟨o, eG⟩
  · rw [nxG_a o]
    rcases o with o | o | o | o | o
    · rw [jr_3 o] at h
      exact push 0 _ _ (by show 0 < _; omega) h
    · rw [jr_4 o] at h
      exact push 1 _ _ (by show 1 < _; omega) h
    · rw [jr_5 o] at h
      cases hc : E.2.2.2.2.1 with
      | none => rw [hc] at h; cases h
      | some c =>
        rw [hc] at h
        have cl := hh c hc
        refine push _ _ _ ?_ h
        show cK (own (nmL E.2.1) c) + 2 < _
        rw [own_ck hn cl]
        omega
    · rw [jr_6 o] at h
      cases hv : vsK j.2.2.1 r.2.2.2.2 with
      | none => rw [hv] at h; cases h
      | some e =>
        rw [hv] at h
        exact push _ _ _ (V.1 e (List.mem_of_find?_eq_some hv)).2.2 h
    · rw [jr_7 o] at h
      cases hk : kdE E r.2.2.1 with
      | none => rw [hk] at h; cases h
      | some k =>
        rw [hk] at h
        exact push _ _ _ (tOK.v hn (Or.inr ⟨k, rfl, kdE_c hn hh hk⟩)) h
  · subst eG
    rw [nxG_9 o]
    obtain ⟨t2, st1, rs1, e1, e2, t1, st2, rs2, e3, e4, R2⟩ := R
    subst e3
    rw [jr_9 o, e1] at h
    dsimp only at h
    by_cases g : (if r.2.2.1 = 257 ∨ r.2.2.1 = 258 then (t1.1 = 0 ↔ t2.1 = 0) else (t1.1 = 0 ∧ t2.1 = 0))
    · rw [if_pos g] at h
      cases h
      have ed : (jRS j).drop 2 = rs2 := by rw [e2, e4]; rfl
      refine ⟨⟨(0, false), st2, rs2, rfl, ?_, R2⟩, fun x hx => ?_, V⟩
      · show 0 :: (jRS j).drop 2 = 0 :: rs2
        rw [ed]
      · have hx' : x ∈ 0 :: (jRS j).drop 2 := hx
        rw [ed] at hx'
        rcases List.mem_cons.mp hx' with e | e
        · rw [e]; show 0 < _; omega
        · exact K x (by rw [e2, e4]; exact List.mem_cons_of_mem _ (List.mem_cons_of_mem _ e))
    · rw [if_neg g] at h; cases h
  · subst eG
    obtain ⟨t, st1, rs1, e1, e2, R1⟩ := R
    have tk : tOK E.2.1 t.1 := K t.1 (by rw [e2]; exact List.mem_cons_self)
    rcases o with o | o | o | o
    · rw [nxG_n (Or.inl o)]
      rw [jr_8 o, e1] at h
      dsimp only at h
      by_cases g : t.1 = 0
      · rw [if_pos g] at h
        cases h
        exact ⟨⟨t, st1, rs1, e1, e2, R1⟩, K, V⟩
      · rw [if_neg g] at h; cases h
    · rw [nxG_n (Or.inr (Or.inl o))]
      rw [jr_10 o, e1] at h
      dsimp only at h
      cases hp : prtE E t r.2.2.2.2 false with
      | none => rw [hp] at h; cases h
      | some p =>
        rw [hp] at h
        obtain ⟨k, k1, k2, k3, k4, k5, k6⟩ := memf hp tk
        cases h
        refine ⟨⟨_, st1, rs1, rfl, ?_, R1⟩, fun x hx => ?_, V⟩
        · show _ :: (jRS j).drop 1 = _ :: rs1
          rw [e2]
          rfl
        · have hx' : x ∈ _ :: (jRS j).drop 1 := hx
          rcases List.mem_cons.mp hx' with e | e
          · rw [e]; exact k6
          · exact K x (List.mem_of_mem_drop e)
    · rw [nxG_n (Or.inr (Or.inr (Or.inl o)))]
      rw [jr_14 o, e1] at h
      dsimp only at h
      cases hk : kdE E r.2.2.1 with
      | none => rw [hk] at h; cases h
      | some k =>
        rw [hk] at h
        dsimp only at h
        by_cases g : t.1 = 0
        · rw [if_pos g] at h; cases h
        · rw [if_neg g] at h
          cases h
          refine ⟨⟨_, st1, rs1, rfl, ?_, R1⟩, fun x hx => ?_, V⟩
          · show _ :: (jRS j).drop 1 = _ :: rs1
            rw [e2]
            rfl
          · have hx' : x ∈ _ :: (jRS j).drop 1 := hx
            rcases List.mem_cons.mp hx' with e | e
            · rw [e]; exact tOK.v hn (Or.inr ⟨k, rfl, kdE_c hn hh hk⟩)
            · exact K x (List.mem_of_mem_drop e)
    · rw [nxG_n (Or.inr (Or.inr (Or.inr (Or.inl o))))]
      rw [jr_30 o, e1] at h
      cases h
      exact ⟨⟨(t.1, false), st1, rs1, rfl, e2, R1⟩, K, V⟩
  · subst eG
    rw [nxG_11 o]
    obtain ⟨t, st1, rs1, e1, e2, R1⟩ := R
    have tk : tOK E.2.1 t.1 := K t.1 (by rw [e2]; exact List.mem_cons_self)
    rw [jr_11 o, e1] at h
    dsimp only at h
    cases hp : prtE E t r.2.2.2.2 true with
    | none => rw [hp] at h; cases h
    | some p =>
      rw [hp] at h
      obtain ⟨k, k1, k2, k3, k4, k5, k6⟩ := memf hp tk
      dsimp only at h
      by_cases g : nI (psM E.2.1 p.1).length = r.2.2.2.1
      · rw [if_pos g] at h
        cases h
        have l6 := p6 p.1 k4
        have en : nN r.2.2.2.1 = (psM E.2.1 p.1).length := by rw [← g, nN_nI (by omega)]
        rw [en]
        exact ⟨⟨p, j.2.1, [], t.1, rs1, rfl, e2, ⟨k, k1, k2, rfl, rfl, fun a ha => by omega⟩, R1⟩, K, V⟩
      · rw [if_neg g] at h; cases h
  · subst eG
    rw [nxG_12 o]
    obtain ⟨t, st1, rs1, e1, e2, p, pd1, as, x, rs2, e3, e4, ⟨k, c1, c2, c3, c4, c5⟩, R2⟩ := R
    have xk : tOK E.2.1 x := K x (by rw [e2, e4]; exact List.mem_cons_of_mem _ (List.mem_append_right _ List.mem_cons_self))
    rw [c1] at xk
    obtain ⟨m1, m2, _⟩ := mem_in Ac (tOK.k xk) c2
    rw [jr_12 o, e1, e3] at h
    dsimp only at h
    have ea : r.2.2.1.toNatClampNeg = i := by rw [oa]; exact nI_clamp (by omega)
    rw [ea] at h
    by_cases g : fitT E.1 E.2.1 t.1 (sty (nmL E.2.1) (pyT E.1 E.2.1 p.1 i) p.2) = true
    · rw [if_pos g] at h
      cases h
      refine ⟨⟨p, pd1, t.1 :: as, x, rs2, e3, ?_, ⟨k, c1, c2, c3, by rw [List.length_cons, c4], fun a ha => ?_⟩, R2⟩, K, V⟩
      · show jRS j = _
        rw [e2, e4]
        rfl
      · have ha' : a < i + 1 := ha
        by_cases q : a = i
        · subst q
          exact ⟨t.1, _, by rw [show a + 1 - 1 - a = 0 by omega]; rfl, g, ct_sty hn (py_v hn m2)⟩
        · obtain ⟨y, z, y1, y2, y3⟩ := c5 a (by omega)
          refine ⟨y, z, ?_, y2, y3⟩
          show (t.1 :: as)[i + 1 - 1 - a]? = some y
          rw [show i + 1 - 1 - a = (i - 1 - a) + 1 by omega]
          exact y1
    · rw [if_neg g] at h; cases h
  · subst eG
    rw [nxG_13 o]
    obtain ⟨p, pd1, as, x, rs1, e3, e4, ⟨k, c1, c2, c3, c4, c5⟩, R1⟩ := R
    have xk : tOK E.2.1 x := K x (by rw [e4]; exact List.mem_append_right _ List.mem_cons_self)
    rw [c1] at xk
    obtain ⟨m1, m2, _⟩ := mem_in Ac (tOK.k xk) c2
    have tv := tyM_v hn m2
    rw [jr_13 o, e3] at h
    cases h
    have ed : (jRS j).drop ((psM E.2.1 p.1).length + 1) = rs1 := by
      rw [e4, c3, ← c4, ← List.drop_drop, List.drop_left']
      · rfl
      · rfl
    refine ⟨⟨_, j.1, rs1, rfl, ?_, R1⟩, fun x hx => ?_, V⟩
    · show _ :: (jRS j).drop ((psM E.2.1 p.1).length + 1) = _ :: rs1
      rw [ed]
    · have hx' : x ∈ _ :: (jRS j).drop ((psM E.2.1 p.1).length + 1) := hx
      rcases List.mem_cons.mp hx' with e | e
      · rw [e]; exact (tOK.v hn tv).c (ct_sty hn tv)
      · exact K x (List.mem_of_mem_drop e)
  · subst eG
    rw [nxG_15 o]
    rw [jr_15 o] at h
    cases hv : vsK j.2.2.1 r.2.2.2.2 with
    | none => rw [hv] at h; cases h
    | some e =>
      rw [hv] at h
      cases h
      obtain ⟨v1, v2, v3⟩ := V.1 e (List.mem_of_find?_eq_some hv)
      obtain ⟨r1, r2, r3⟩ := R
      exact ⟨⟨(e.2.1, false), j.1, rfl, ⟨v1, v2⟩, r1, r2, r3⟩, K, V⟩
  · subst eG
    rw [nxG_16 o]
    obtain ⟨t, st1, rs1, e1, e2, r1, r2, r3⟩ := R
    have tk : tOK E.2.1 t.1 := K t.1 (by rw [e2]; exact List.mem_cons_self)
    rw [jr_16 o, e1] at h
    dsimp only at h
    cases hp : prtE E t r.2.2.2.2 false with
    | none => rw [hp] at h; cases h
    | some p =>
      rw [hp] at h
      obtain ⟨k, k1, k2, k3, k4, k5, k6⟩ := memf hp tk
      cases h
      exact ⟨⟨_, st1, t.1, rs1, rfl, e2, ⟨k, p.1, r.2.2.2.2, k1, k2, rfl, k5⟩, r1, r2, r3⟩, K, V⟩
  · subst eG
    rw [nxG_17 (Or.inl o)]
    obtain ⟨t2, st1, rs1, e1, e2, t1, st2, e3, _, r1, r2, r3⟩ := R
    subst e3
    rw [jr_17 o, e1] at h
    dsimp only at h
    by_cases g : fitT E.1 E.2.1 t2.1 t1.1 = true
    · rw [if_pos g] at h
      cases h
      refine ⟨⟨r1, r2, ?_⟩, fun x hx => K x (List.mem_of_mem_drop hx), V⟩
      show (jRS j).drop 1 = []
      rw [e2, r3]
      rfl
    · rw [if_neg g] at h; cases h
  · subst eG
    rw [nxG_17 (Or.inr o)]
    obtain ⟨t2, st1, rs1, e1, e2, t1, st2, x, rs2, e3, e4, _, r1, r2, r3⟩ := R
    subst e3
    rw [jr_18 o, e1] at h
    dsimp only at h
    by_cases g : fitT E.1 E.2.1 t2.1 t1.1 = true
    · rw [if_pos g] at h
      cases h
      refine ⟨⟨r1, r2, ?_⟩, fun x hx => K x (List.mem_of_mem_drop hx), V⟩
      show (jRS j).drop 2 = []
      rw [e2, e4, r3]
      rfl
    · rw [if_neg g] at h; cases h
  · subst eG
    obtain ⟨t, st1, rs1, e1, e2, r1, r2, r3⟩ := R
    have ed : (jRS j).drop 1 = [] := by rw [e2, r3]; rfl
    have done : ∀ (x : Option (JS × List Ins)), x = some (j', l) → (∃ i, x = some (jst j st1 ((jRS j).drop 1), i)) → JOK E.1 E.2.1 vt j' [] := by
      intro x hx ⟨i, hi⟩
      rw [hx] at hi
      cases hi
      exact ⟨⟨r1, r2, ed⟩, fun x hx => K x (List.mem_of_mem_drop hx), V⟩
    rcases o with o | o | o | o | o
    · rw [nxG_o (Or.inl o)]
      rw [jr_20 o, e1] at h
      dsimp only at h
      by_cases g : fitT E.1 E.2.1 t.1 j.2.2.2.2.2.1.2 = true
      · rw [if_pos g] at h
        cases h
        refine ⟨⟨r1, r2, ed⟩, fun x hx => K x (List.mem_of_mem_drop hx), fun e he => ?_, V.2⟩
        rcases List.mem_append.mp he with q | q
        · exact V.1 e q
        · have : e = (j.2.2.2.2.2.1.1, j.2.2.2.2.2.1.2, j.2.2.2.1, j.2.2.2.2.1) := by simpa using q
          rw [this]
          exact ⟨(hvt o).1, (hvt o).2, V.2⟩
      · rw [if_neg g] at h; cases h
    · rw [nxG_o (Or.inr (Or.inl o))]
      rw [jr_21 o, e1] at h
      dsimp only at h
      by_cases g : t.1 = 0
      · rw [if_pos g] at h; exact done _ h ⟨_, rfl⟩
      · rw [if_neg g] at h; cases h
    · rw [nxG_o (Or.inr (Or.inr (Or.inl o)))]
      rw [jr_24 o, e1] at h
      dsimp only at h
      by_cases g : t.1 = 0
      · rw [if_pos g] at h; exact done _ h ⟨_, rfl⟩
      · rw [if_neg g] at h; cases h
    · rw [nxG_o (Or.inr (Or.inr (Or.inr (Or.inl o))))]
      rw [jr_25 o, e1] at h
      exact done _ h ⟨_, rfl⟩
    · rw [nxG_o (Or.inr (Or.inr (Or.inr (Or.inr o.1))))]
      rw [jr_28 o.1, e1] at h
      dsimp only at h
      by_cases g : fitT E.1 E.2.1 t.1 E.2.2.2.2.2.1 = true
      · rw [if_pos g] at h; exact done _ h ⟨_, rfl⟩
      · rw [if_neg g] at h; cases h
  · subst eG
    rcases o with o | o | o | o | o | o | o
    · rw [nxG_n (by rw [o]; decide)]
      rw [jr_1 o] at h
      cases h
      exact ⟨R, K, V⟩
    · rw [nxG_n (by rw [o]; decide)]
      rw [jr_2 o] at h
      cases h
      exact ⟨R, K, V⟩
    · rw [nxG_n (by rw [o]; decide)]
      rw [jr_19 o] at h
      cases ht : tyE E r.2.2.1 with
      | none => rw [ht] at h; cases h
      | some x =>
        rw [ht] at h
        dsimp only at h
        by_cases g : vsK j.2.2.1 r.2.2.2.2 = none
        · rw [if_pos g] at h
          cases h
          exact ⟨R, K, V.1, tyE_c hn hh ht⟩
        · rw [if_neg g] at h; cases h
    · rw [nxG_n (by rw [o]; decide)]
      rw [jr_22 o] at h
      cases h
      exact ⟨R, K, V⟩
    · rw [nxG_n (by rw [o]; decide)]
      rw [jr_23 o] at h
      cases h
      exact ⟨R, K, V⟩
    · rw [nxG_n (by rw [o]; decide)]
      rw [jr_26 o] at h
      cases h
      exact ⟨R, K, V⟩
    · rw [nxG_n (by rw [o]; decide)]
      rw [jr_27 o] at h
      cases h
      exact ⟨R, K, fun e he => V.1 e (List.mem_filter.mp he).1, V.2⟩
end MJB25
end
section
/-! ===== what waits at every order of a BLOCK ===== -/
def n20 : List Row → Nat
  | [] => 0
  | r :: l => (if r.1 = 20 then 1 else 0) + n20 l
/-- how many values wait -/
def vG : GS → Nat
  | [] => 0
  | (0, _) :: G => 1 + vG G
  | (1, 0, _) :: G => vG G
  | (1, _ + 1, _) :: G => 1 + vG G
  | (_ + 2, i, _) :: G => i + 1 + vG G
/-- the TYPES of the VARIABLES, by number -/
def vtR (E : EV) : List Row → JS → Nat → Nat
  | [], _ => fun _ => 1
  | r :: os, j => match jrow E r j with
    | none => fun _ => 0
    | some (j', _) => fun v => if r.1 = 20 ∧ v = j.2.2.2.1 then j.2.2.2.2.2.1.2 else vtR E os j' v
section MJB26
variable {T : TT} {N : Nat} {L : List CD} {E : EV} {vt : Nat → Nat} {j j' : JS} {r : Row} {G : GS} {l : List Ins} {x : WS}
theorem td_step (ok : okG r G) (h : jrow E r j = some (j', l)) : j'.2.2.2.1 = j.2.2.2.1 + (if r.1 = 20 then 1 else 0) ∧ l.length ≤ 1 := by
  rcases ok with o | ⟨o, _⟩ | ⟨o, _⟩ | ⟨o, _⟩ | ⟨o, _⟩ | ⟨o, _⟩ | ⟨o, _⟩ | ⟨o, _⟩ | ⟨o, _⟩ | ⟨o, _⟩ | ⟨o, _⟩ | ⟨o, _⟩
  · rcases o with o | o | o | o | o
    · rw [if_neg (by rw [o]; decide)]; rw [jr_3 o] at h; cases h; exact ⟨rfl, Nat.le_refl _⟩
    · rw [if_neg (by rw [o]; decide)]; rw [jr_4 o] at h; cases h; exact ⟨rfl, Nat.le_refl _⟩
    · rw [if_neg (by rw [o]; decide)]; rw [jr_5 o] at h; split at h <;> first | (cases h; exact ⟨rfl, Nat.le_refl _⟩) | cases h
    · rw [if_neg (by rw [o]; decide)]; rw [jr_6 o] at h; split at h <;> first | (cases h; exact ⟨rfl, Nat.le_refl _⟩) | cases h
    · rw [if_neg (by rw [o]; decide)]; rw [jr_7 o] at h; split at h <;> first | (cases h; exact ⟨rfl, Nat.le_refl _⟩) | cases h
  · rw [if_neg (by rw [o]; decide)]; rw [jr_9 o] at h
    split at h
    · split at h
      · split at h
        · cases h; exact ⟨rfl, Nat.le_refl _⟩
        · cases h
      · split at h
        · cases h; exact ⟨rfl, Nat.le_refl _⟩
        · cases h
    · cases h
  · rcases o with o | o | o | o
    · rw [if_neg (by rw [o]; decide)]; rw [jr_8 o] at h
      split at h
      · split at h
        · cases h; exact ⟨rfl, Nat.le_refl _⟩
        · cases h
      · cases h
    · rw [if_neg (by rw [o]; decide)]; rw [jr_10 o] at h
      split at h
      · split at h
        · cases h
        · cases h; exact ⟨rfl, Nat.le_refl _⟩
      · cases h
    · rw [if_neg (by rw [o]; decide)]; rw [jr_14 o] at h
      split at h
      · split at h
        · cases h
        · split at h
          · cases h
          · cases h; exact ⟨rfl, Nat.le_refl _⟩
      · cases h
    · rw [if_neg (by rw [o]; decide)]; rw [jr_30 o] at h
      split at h
      · cases h; exact ⟨rfl, Nat.zero_le _⟩
      · cases h
  · rw [if_neg (by rw [o]; decide)]; rw [jr_11 o] at h
    split at h
    · split at h
      · cases h
      · split at h
        · cases h; exact ⟨rfl, Nat.zero_le _⟩
        · cases h
    · cases h
  · rw [if_neg (by rw [o]; decide)]; rw [jr_12 o] at h
    split at h
    · split at h
      · cases h; exact ⟨rfl, Nat.zero_le _⟩
      · cases h
    · cases h
  · rw [if_neg (by rw [o]; decide)]; rw [jr_13 o] at h
    split at h
    · cases h; exact ⟨rfl, Nat.le_refl _⟩
    · cases h
  · rw [if_neg (by rw [o]; decide)]; rw [jr_15 o] at h
    split at h
    · cases h
    · cases h; exact ⟨rfl, Nat.zero_le _⟩
  · rw [if_neg (by rw [o]; decide)]; rw [jr_16 o] at h
    split at h
    · split at h
      · cases h
      · cases h; exact ⟨rfl, Nat.zero_le _⟩
    · cases h
  · rw [if_neg (by rw [o]; decide)]; rw [jr_17 o] at h
    split at h
    · split at h
      · cases h; exact ⟨rfl, Nat.le_refl _⟩
      · cases h
    · cases h
  · rw [if_neg (by rw [o]; decide)]; rw [jr_18 o] at h
    split at h
    · split at h
      · cases h; exact ⟨rfl, Nat.le_refl _⟩
      · cases h
    · cases h
  · rcases o with o | o | o | o | o
    · rw [if_pos o]; rw [jr_20 o] at h
      split at h
      · split at h
        · cases h; exact ⟨rfl, Nat.le_refl _⟩
        · cases h
      · cases h
    · rw [if_neg (by rw [o]; decide)]; rw [jr_21 o] at h
      split at h
      · split at h
        · cases h; exact ⟨rfl, Nat.le_refl _⟩
        · cases h
      · cases h
    · rw [if_neg (by rw [o]; decide)]; rw [jr_24 o] at h
      split at h
      · split at h
        · cases h; exact ⟨rfl, Nat.le_refl _⟩
        · cases h
      · cases h
    · rw [if_neg (by rw [o]; decide)]; rw [jr_25 o] at h
      split at h
      · cases h; exact ⟨rfl, Nat.le_refl _⟩
      · cases h
    · rw [if_neg (by rw [o.1]; decide)]; rw [jr_28 o.1] at h
      split at h
      · split at h
        · cases h; exact ⟨rfl, Nat.le_refl _⟩
        · cases h
      · cases h
  · rcases o with o | o | o | o | o | o | o
    · rw [if_neg (by rw [o]; decide)]; rw [jr_1 o] at h; cases h; exact ⟨rfl, Nat.le_refl _⟩
    · rw [if_neg (by rw [o]; decide)]; rw [jr_2 o] at h; cases h; exact ⟨rfl, Nat.le_refl _⟩
    · rw [if_neg (by rw [o]; decide)]; rw [jr_19 o] at h
      split at h
      · cases h
      · split at h
        · cases h; exact ⟨rfl, Nat.zero_le _⟩
        · cases h
    · rw [if_neg (by rw [o]; decide)]; rw [jr_22 o] at h; cases h; exact ⟨rfl, Nat.le_refl _⟩
    · rw [if_neg (by rw [o]; decide)]; rw [jr_23 o] at h; cases h; exact ⟨rfl, Nat.le_refl _⟩
    · rw [if_neg (by rw [o]; decide)]; rw [jr_26 o] at h; cases h; exact ⟨rfl, Nat.zero_le _⟩
    · rw [if_neg (by rw [o]; decide)]; rw [jr_27 o] at h; cases h; exact ⟨rfl, Nat.zero_le _⟩
theorem jcons2 {os : List Row} {lq : List Ins} (h : jrun E (r :: os) j = some (j', lq)) : ∃ j1 l1 l2, jrow E r j = some (j1, l1) ∧ jrun E os j1 = some (j', l2) ∧ lq = l1 ++ l2 := by
  have h' : (match jrow E r j with
    | none => none
    | some (j1, c1) => match jrun E os j1 with
      | none => none
      | some (j2, c2) => some (j2, c1 ++ c2)) = some (j', lq) := h
  cases h1 : jrow E r j with
  | none => rw [h1] at h'; cases h'
  | some y =>
    obtain ⟨j1, l1⟩ := y
    rw [h1] at h'
    dsimp only at h'
    cases h2 : jrun E os j1 with
    | none => rw [h2] at h'; cases h'
    | some y2 =>
      obtain ⟨j2, l2⟩ := y2
      rw [h2] at h'
      have e := Option.some.inj h'
      rw [Prod.mk.injEq] at e
      exact ⟨j1, l1, l2, rfl, by rw [h2, e.1], e.2.symm⟩
theorem td_run : ∀ (a : List Row) (j : JS) (G : GS) (j' : JS) (l : List Ins), sdG a G → jrun E a j = some (j', l) → j'.2.2.2.1 = j.2.2.2.1 + n20 a ∧ l.length ≤ a.length
  | [], j, G, j', l, _, h => by cases h; exact ⟨rfl, Nat.le_refl _⟩
  | r :: a, j, G, j', l, sc, h => by
    obtain ⟨j1, l1, l2, h1, h2, h3⟩ := jcons2 h
    obtain ⟨a1, a2⟩ := td_step sc.1 h1
    obtain ⟨b1, b2⟩ := td_run a j1 (nxG r G) j' l2 sc.2 h2
    refine ⟨?_, by rw [h3, List.length_append, List.length_cons]; omega⟩
    show _ = _ + ((if r.1 = 20 then 1 else 0) + n20 a)
    omega
/-- a VARIABLE's TYPE is that of the order that tells it -/
theorem vtR_at : ∀ (a b : List Row) (j0 : JS) (G : GS) (j : JS) (l : List Ins), sdG a G → jrun E a j0 = some (j, l) → r.1 = 20 → (∃ y, jrow E r j = some y) → vtR E (a ++ r :: b) j0 j.2.2.2.1 = j.2.2.2.2.2.1.2
  | [], b, j0, G, j, l, _, h, hr, ⟨y, hy⟩ => by
    cases h
    obtain ⟨j1, l1⟩ := y
    show (match jrow E r j0 with
      | none => fun _ => 0
      | some (j', _) => fun v => if r.1 = 20 ∧ v = j0.2.2.2.1 then j0.2.2.2.2.2.1.2 else vtR E b j' v) j0.2.2.2.1 = _
    rw [hy]
    exact if_pos ⟨hr, rfl⟩
  | x :: a, b, j0, G, j, l, sc, h, hr, hy => by
    obtain ⟨j1, l1, l2, h1, h2, h3⟩ := jcons2 h
    have t1 := (td_step sc.1 h1).1
    have t2 := (td_run a j1 _ j l2 sc.2 h2).1
    show (match jrow E x j0 with
      | none => fun _ => 0
      | some (j', _) => fun v => if x.1 = 20 ∧ v = j0.2.2.2.1 then j0.2.2.2.2.2.1.2 else vtR E (a ++ r :: b) j' v) j.2.2.2.1 = _
    rw [h1]
    dsimp only
    rw [if_neg (fun q => by
      rw [if_pos q.1] at t1
      have := q.2
      omega)]
    exact vtR_at a b j1 _ j l2 sc.2 h2 hr hy
theorem rel_run (Ac : ACY E.1 N E.2.1) (p6 : ∀ m, m < nMem E.2.1 → (psM E.2.1 m).length ≤ 6) (hh : ∀ c, E.2.2.2.2.1 = some c → c < E.2.1.length) : ∀ (a : List Row) (j : JS) (G : GS) (j' : JS) (l : List Ins), sdG a G → JOK E.1 E.2.1 vt j G → jrun E a j = some (j', l) → (∀ a1 r a2 j2 l2, a = a1 ++ r :: a2 → r.1 = 20 → jrun E a1 j = some (j2, l2) → vt j2.2.2.2.1 = j2.2.2.2.2.2.1.2 ∧ j2.2.2.2.1 < 16) → JOK E.1 E.2.1 vt j' (fdG a G)
  | [], j, G, j', l, _, J, h, _ => by cases h; exact J
  | r :: a, j, G, j', l, sc, J, h, hv => by
    obtain ⟨j1, l1, l2, h1, h2, h3⟩ := jcons2 h
    have J1 := rel_step Ac p6 hh sc.1 J h1 (fun e => hv [] r a j [] rfl e rfl)
    refine rel_run Ac p6 hh a j1 (nxG r G) j' l2 sc.2 J1 h2 (fun a1 r' a2 j2 l3 ea er ej => hv (r :: a1) r' a2 j2 (l1 ++ l3) (by rw [ea]; rfl) er ?_)
    show (match jrow E r j with
      | none => none
      | some (j1, c1) => match jrun E a1 j1 with
        | none => none
        | some (j2, c2) => some (j2, c1 ++ c2)) = some (j2, l1 ++ l3)
    rw [h1]
    dsimp only
    rw [ej]
theorem RELj_len {lf : Nat} : ∀ (G : GS) (st : List (Nat × Bool)) (pd : List (Nat × Nat)) (rs : List Nat), RELj T L vt lf G st pd rs → rs.length = vG G
  | [], st, pd, rs, h => by rw [h.2.2]; rfl
  | (0, a, w) :: G, st, pd, rs, h => by
    obtain ⟨t, st', rs', _, e2, h2⟩ := h
    rw [e2, List.length_cons, RELj_len G st' pd rs' h2]
    show _ = 1 + vG G
    omega
  | (1, 0, w) :: G, st, pd, rs, h => by
    obtain ⟨t, st', _, _, h2⟩ := h
    exact RELj_len G st' pd rs h2
  | (1, a + 1, w) :: G, st, pd, rs, h => by
    obtain ⟨t, st', x, rs', _, e2, _, h2⟩ := h
    rw [e2, List.length_cons, RELj_len G st' pd rs' h2]
    show _ = 1 + vG G
    omega
  | (n + 2, i, w) :: G, st, pd, rs, h => by
    obtain ⟨p, pd', as, x, rs', _, e2, ⟨k, _, _, _, c4, _⟩, h2⟩ := h
    rw [e2, List.length_append, List.length_cons, RELj_len G st pd' rs' h2, c4]
    show _ = i + 1 + vG G
    omega
end MJB26
end
section
/-! ===== every order of every BLOCK: what waits, how much ===== -/
def vtM (T : TT) (L : List CD) (E : EV) (os : List Row) (m v : Nat) : Nat := if v < npT L m then pyT T L m v else vtR E os (jmT T L m) v
def osM (rs : List RcM) (z : PB) (m : Nat) : List Row := (zT rs z m).2.2.2.1
/-- a program that was accepted: what a RUN stands on -/
def PRG (T : TT) (N k0 : Nat) (t : PT) (rs : List RcM) (kb : Nat) (z : PB) (tr : Bool) : Prop := ACY T N t.1 ∧ (∀ m, m < nMem t.1 → OKe T t.1 m ∧ (psM t.1 m).length ≤ 6 ∧ hmM t.1 m < t.1.length) ∧ ∀ m, m ≤ 384 → isMT t.1 m = true → gdGS (i0T t m) (osM rs z m) ∧ sdW (osM rs z m) (i0T t m) ((kqT T rs kb m, 0, [], 0), npT t.1 m, i0T t m + (osM rs z m).length, false, 0) ∧ ∃ j l, jrun (EmT T t.1 tr (ktL k0 t.2.2.1) m) (osM rs z m) (jmT T t.1 m) = some (j, l)
section MJB27
variable {T : TT} {N k0 kb m k : Nat} {L : List CD} {t : PT} {rs : List RcM} {z : PB} {tr : Bool} {E : EV} {r : Row} {G : GS} {x : WS}
theorem okW_E {r : Row} {x : WS} (ok : okW r x) (h : isE r) : okEr 60 20 120 r x.1 := by
  rcases ok with ok | ⟨q, _⟩ | ⟨q, _⟩ | ⟨q, _⟩ | ⟨q, _⟩ | ⟨q, _⟩ | ⟨q, _⟩ | q | ⟨q, _⟩ | ⟨q, _⟩
  · exact ok
  all_goals
    exfalso
    unfold isE at h
  · rw [q] at h; exact absurd h (by decide)
  · rw [q] at h; exact absurd h (by decide)
  · rcases q with q | q <;> · rw [q.1] at h; exact absurd h (by decide)
  · rw [q] at h; exact absurd h (by decide)
  · rw [q] at h; exact absurd h (by decide)
  · rcases q with q | q | q | q <;> · rw [q] at h; exact absurd h (by decide)
  · rcases q with q | q | q | q <;> · rw [q] at h; exact absurd h (by decide)
  · rw [q] at h; exact absurd h (by decide)
  · rw [q] at h; exact absurd h (by decide)
theorem val_step {i : Nat} (ow : okW r x) (ok : okG r G) (e : x.1.2.2.2 = vG G) : (nxW r i x).1.2.2.2 = vG (nxG r G) ∧ (nxW r i x).2.1 = x.2.1 + (if r.1 = 20 then 1 else 0) ∧ (x.1.2.2.2 ≤ 120 → (nxW r i x).1.2.2.2 ≤ 120) := by
  have En : isE r → (nxW r i x).2.1 = x.2.1 + (if r.1 = 20 then 1 else 0) ∧ (x.1.2.2.2 ≤ 120 → (nxW r i x).1.2.2.2 ≤ 120) := by
    intro h
    have o := okW_E ow h
    rw [nxW_E h]
    refine ⟨?_, fun _ => o.2.2.2.2.1⟩
    rw [if_neg (fun q => by unfold isE at h; rw [q] at h; exact absurd h (by decide))]
    rfl
  rcases ok with o | ⟨o, G', eG⟩ | ⟨o, G', eG⟩ | ⟨o, n, G', n6, ob, eG⟩ | ⟨o, n, i', w, G', eG, hi, n6, oa⟩ | ⟨o, n, G', n6, oa, eG⟩ | ⟨o, eG⟩ | ⟨o, eG⟩ | ⟨o, eG⟩ | ⟨o, eG⟩ | ⟨o, eG⟩ | ⟨o, eG⟩
  · have hE : isE r := by unfold isE; rcases o with o | o | o | o | o <;> rw [o] <;> decide
    refine ⟨?_, En hE⟩
    rw [nxW_E hE, nxG_a o]
    show (hxE r x.1).2.2.2 = 1 + vG G
    rw [← e]
    unfold hxE
    rcases o with o | o | o | o | o
    · rw [o, if_pos (by decide)]; dsimp only; omega
    · rw [o, if_pos (by decide)]; dsimp only; omega
    · rw [o, if_pos (by decide)]; dsimp only; omega
    · rw [o, if_pos (by decide)]; dsimp only; omega
    · rw [o, if_neg (by decide), if_pos rfl]; dsimp only; omega
  · have hE : isE r := by unfold isE; rw [o]; decide
    refine ⟨?_, En hE⟩
    subst eG
    have e' : x.1.2.2.2 = 1 + (1 + vG G') := e
    rw [nxW_E hE, nxG_9 o]
    show (hxE r x.1).2.2.2 = 1 + vG G'
    unfold hxE
    rw [o, if_neg (by decide), if_neg (by decide), if_pos rfl]
    dsimp only
    omega
  · have hE : isE r := by unfold isE; rcases o with o | o | o | o <;> rw [o] <;> decide
    refine ⟨?_, En hE⟩
    rw [nxW_E hE, nxG_n (by rcases o with o | o | o | o <;> rw [o] <;> decide), ← e]
    show (hxE r x.1).2.2.2 = _
    unfold hxE
    rcases o with o | o | o | o
    · rw [o, if_neg (by decide), if_neg (by decide), if_neg (by decide), if_neg (by decide), if_neg (by decide), if_neg (by decide), if_neg (by decide)]
    · rw [o, if_neg (by decide), if_neg (by decide), if_neg (by decide), if_neg (by decide), if_neg (by decide), if_neg (by decide), if_neg (by decide)]
    · rw [o, if_neg (by decide), if_neg (by decide), if_neg (by decide), if_pos rfl]
    · rw [o, if_neg (by decide), if_neg (by decide), if_neg (by decide), if_neg (by decide), if_neg (by decide), if_neg (by decide), if_neg (by decide)]
  · have hE : isE r := by unfold isE; rw [o]; decide
    refine ⟨?_, En hE⟩
    subst eG
    have e' : x.1.2.2.2 = 1 + vG G' := e
    rw [nxW_E hE, nxG_11 o]
    show (hxE r x.1).2.2.2 = 0 + 1 + vG G'
    rw [hx_11 o]
    dsimp only
    omega
  · have hE : isE r := by unfold isE; rw [o]; decide
    refine ⟨?_, En hE⟩
    subst eG
    have e' : x.1.2.2.2 = 1 + (i' + 1 + vG G') := e
    rw [nxW_E hE, nxG_12 o]
    show (hxE r x.1).2.2.2 = i' + 1 + 1 + vG G'
    rw [hx_12 o]
    dsimp only
    omega
  · have hE : isE r := by unfold isE; rw [o]; decide
    refine ⟨?_, En hE⟩
    subst eG
    have e' : x.1.2.2.2 = n + 1 + vG G' := e
    rw [nxW_E hE, nxG_13 o]
    show (hxE r x.1).2.2.2 = 1 + vG G'
    rw [hx_13 o, oa, nN_nI (by omega)]
    dsimp only
    omega
  · subst eG
    have e' : x.1.2.2.2 = 0 := e
    have n : nxW r i x = ((x.1.1, x.1.2.1 + 1, x.1.2.2), x.2.1, i, x.2.2.2) := by unfold nxW; rw [if_pos o]
    rw [n, nxG_15 o, if_neg (by rw [o]; decide)]
    exact ⟨e', rfl, fun h => h⟩
  · subst eG
    have e' : x.1.2.2.2 = 1 + 0 := e
    have n : nxW r i x = (x.1, x.2.1, i, x.2.2.2) := by unfold nxW; rw [o, if_neg (by decide), if_pos rfl]
    rw [n, nxG_16 o, if_neg (by rw [o]; decide)]
    exact ⟨e', rfl, fun h => h⟩
  · subst eG
    have e' : x.1.2.2.2 = 1 + 0 := e
    have n : nxW r i x = ((x.1.1, x.1.2.1 - 2, x.1.2.2.1, x.1.2.2.2 - 1), x.2) := by unfold nxW; rw [o, if_neg (by decide), if_neg (by decide), if_pos rfl]
    rw [n, nxG_17 (Or.inl o), if_neg (by rw [o]; decide)]
    refine ⟨?_, rfl, fun h => ?_⟩
    · show x.1.2.2.2 - 1 = 0; omega
    · show x.1.2.2.2 - 1 ≤ 120; omega
  · subst eG
    have e' : x.1.2.2.2 = 1 + (1 + 0) := e
    have n : nxW r i x = ((x.1.1, x.1.2.1 - 2, x.1.2.2.1, x.1.2.2.2 - 2), x.2) := by unfold nxW; rw [o, if_neg (by decide), if_neg (by decide), if_neg (by decide), if_pos rfl]
    rw [n, nxG_17 (Or.inr o), if_neg (by rw [o]; decide)]
    refine ⟨?_, rfl, fun h => ?_⟩
    · show x.1.2.2.2 - 2 = 0; omega
    · show x.1.2.2.2 - 2 ≤ 120; omega
  · subst eG
    have e' : x.1.2.2.2 = 1 + 0 := e
    by_cases q : r.1 = 20
    · have n : nxW r i x = ((x.1.1, x.1.2.1 - 1, x.1.2.2.1, x.1.2.2.2 - 1), x.2.1 + 1, x.2.2.1, false, x.2.2.2.2) := by unfold nxW; rw [q, if_neg (by decide), if_neg (by decide), if_neg (by decide), if_neg (by decide), if_neg (by decide), if_pos rfl]
      rw [n, nxG_o (Or.inl q), if_pos q]
      refine ⟨?_, rfl, fun h => ?_⟩
      · show x.1.2.2.2 - 1 = 0; omega
      · show x.1.2.2.2 - 1 ≤ 120; omega
    · have q2 : r.1 = 21 ∨ r.1 = 24 ∨ r.1 = 28 ∨ r.1 = 25 := by
        rcases o with o | o | o | o | o
        · exact absurd o q
        · exact Or.inl o
        · exact Or.inr (Or.inl o)
        · exact Or.inr (Or.inr (Or.inr o))
        · exact Or.inr (Or.inr (Or.inl o.1))
      rw [nx_pop q2, nxG_o (by rcases q2 with h | h | h | h <;> rw [h] <;> decide), if_neg q]
      refine ⟨?_, rfl, fun h => ?_⟩
      · show x.1.2.2.2 - 1 = 0; omega
      · show x.1.2.2.2 - 1 ≤ 120; omega
  · subst eG
    rw [nxG_n (by rcases o with o | o | o | o | o | o | o <;> rw [o] <;> decide), if_neg (by rcases o with o | o | o | o | o | o | o <;> rw [o] <;> decide), ← e]
    rcases o with o | o | o | o | o | o | o
    · rw [nx_same (Or.inl o)]; exact ⟨rfl, rfl, fun h => h⟩
    · rw [nx_same (Or.inr (Or.inl o))]; exact ⟨rfl, rfl, fun h => h⟩
    · have n : nxW r i x = ((if r.2.2.1 = -1 then x.1.1 else x.1.1 + 1, x.1.2), x.2.1, x.2.2.1, true, x.2.2.2.2) := by unfold nxW; rw [o, if_neg (by decide), if_neg (by decide), if_neg (by decide), if_neg (by decide), if_pos rfl]
      rw [n]; exact ⟨rfl, rfl, fun h => h⟩
    · rw [nx_same (Or.inr (Or.inr (Or.inl o)))]; exact ⟨rfl, rfl, fun h => h⟩
    · rw [nx_same (Or.inr (Or.inr (Or.inr o)))]; exact ⟨rfl, rfl, fun h => h⟩
    · have n : nxW r i x = (x.1, x.2.1, x.2.2.1, x.2.2.2.1, x.2.2.2.2 + 1) := by unfold nxW; rw [o, if_neg (by decide), if_neg (by decide), if_neg (by decide), if_neg (by decide), if_neg (by decide), if_neg (by decide), if_neg (by decide), if_neg (by decide), if_pos rfl]
      rw [n]; exact ⟨rfl, rfl, fun h => h⟩
    · have n : nxW r i x = (x.1, x.2.1, x.2.2.1, x.2.2.2.1, x.2.2.2.2 - 1) := by unfold nxW; rw [o, if_neg (by decide), if_neg (by decide), if_neg (by decide), if_neg (by decide), if_neg (by decide), if_neg (by decide), if_neg (by decide), if_neg (by decide), if_neg (by decide), if_pos rfl]
      rw [n]; exact ⟨rfl, rfl, fun h => h⟩
theorem val_run : ∀ (a : List Row) (i : Nat) (x : WS) (G : GS), sdW a i x → sdG a G → x.1.2.2.2 = vG G → x.1.2.2.2 ≤ 120 → (fdW a i x).1.2.2.2 = vG (fdG a G) ∧ (fdW a i x).2.1 = x.2.1 + n20 a ∧ vG (fdG a G) ≤ 120
  | [], i, x, G, _, _, e, h => ⟨e, rfl, by show vG G ≤ 120; omega⟩
  | r :: a, i, x, G, sw, sg, e, h => by
    obtain ⟨a1, a2, a3⟩ := val_step (i := i) sw.1 sg.1 e
    obtain ⟨b1, b2, b3⟩ := val_run a (i + 1) (nxW r i x) (nxG r G) sw.2 sg.2 a1 (a3 h)
    refine ⟨b1, ?_, b3⟩
    show (fdW a (i + 1) (nxW r i x)).2.1 = x.2.1 + ((if r.1 = 20 then 1 else 0) + n20 a)
    omega
theorem EmT_1 {kt : Int32 → Nat} : (EmT T L tr kt m).1 = T ∧ (EmT T L tr kt m).2.1 = L := by
  unfold EmT
  by_cases e : m = 384
  · rw [if_pos e]; exact ⟨rfl, rfl⟩
  · rw [if_neg e]; exact ⟨rfl, rfl⟩
/-- at every order of every BLOCK -/
theorem PRG.pos (P : PRG T N k0 t rs kb z tr) (hm : m ≤ 384) (im : isMT t.1 m = true) (hk : k ≤ (osM rs z m).length) : ∃ j l, jrun (EmT T t.1 tr (ktL k0 t.2.2.1) m) ((osM rs z m).take k) (jmT T t.1 m) = some (j, l) ∧ JOK T t.1 (vtM T t.1 (EmT T t.1 tr (ktL k0 t.2.2.1) m) (osM rs z m) m) j (fdG ((osM rs z m).take k) []) ∧ (jRS j).length ≤ 120 ∧ l.length ≤ k ∧ sdG ((osM rs z m).drop k) (fdG ((osM rs z m).take k) []) := by
  obtain ⟨Ac, PM, PB⟩ := P
  obtain ⟨⟨g1, g2, g3⟩, sw, jf, lf, hj⟩ := PB m hm im
  obtain ⟨E, hE⟩ : ∃ E, E = EmT T t.1 tr (ktL k0 t.2.2.1) m := ⟨_, rfl⟩
  obtain ⟨os, ho⟩ : ∃ os, os = osM rs z m := ⟨_, rfl⟩
  rw [← ho] at g1 g2 g3 sw hj hk
  rw [← hE] at hj
  rw [← hE, ← ho]
  have E1 : E.1 = T := by rw [hE]; exact EmT_1.1
  have E2 : E.2.1 = t.1 := by rw [hE]; exact EmT_1.2
  have split : os = os.take k ++ os.drop k := (List.take_append_drop k os).symm
  have tl : (os.take k).length = k := by rw [List.length_take]; omega
  have g1' := g1
  rw [split, sdG_app] at g1'
  have hj' := hj
  rw [split, jrun_app] at hj'
  cases ha : jrun E (os.take k) (jmT T t.1 m) with
  | none => rw [ha] at hj'; cases hj'
  | some y =>
    obtain ⟨j, l⟩ := y
    have hh : ∀ c, E.2.2.2.2.1 = some c → c < E.2.1.length := by
      intro c hc
      rw [E2]
      rw [hE] at hc
      unfold EmT at hc
      by_cases e : m = 384
      · rw [if_pos e] at hc; cases hc
      · rw [if_neg e] at hc
        have hc' : some (hmM t.1 m) = some c := hc
        cases hc'
        exact (PM m (isMT_lt im e).1).2.2
    have np6 : npT t.1 m ≤ 6 := by
      unfold npT
      by_cases e : m = 384
      · rw [if_pos e]; omega
      · rw [if_neg e]; exact (PM m (isMT_lt im e).1).2.1
    have J0 : JOK E.1 E.2.1 (vtM T t.1 E os m) (jmT T t.1 m) [] := by
      refine ⟨⟨rfl, rfl, rfl⟩, fun x hx => (by cases hx), fun e he => ?_, by show 0 < _; omega⟩
      have he' : e ∈ (if m = 384 then [] else pvs T t.1 m (psM t.1 m).length) := he
      by_cases q : m = 384
      · rw [if_pos q] at he'; cases he'
      · rw [if_neg q] at he'
        obtain ⟨i, i1, i2⟩ := pvs_mem _ e he'
        have npe : npT t.1 m = (psM t.1 m).length := if_neg q
        rw [i2]
        refine ⟨?_, by show i < 16; omega, ?_⟩
        · show (if i < npT t.1 m then pyT T t.1 m i else _) = _
          rw [if_pos (by omega)]
        · rw [E2]
          exact tOK.v Ac.1 (py_v Ac.1 (PM m (isMT_lt im q).1).2.2)
    have cond : ∀ a1 r a2 j2 l2, os.take k = a1 ++ r :: a2 → r.1 = 20 → jrun E a1 (jmT T t.1 m) = some (j2, l2) → vtM T t.1 E os m j2.2.2.2.1 = j2.2.2.2.2.2.1.2 ∧ j2.2.2.2.1 < 16 := by
      intro a1 r a2 j2 l2 ea er ej
      have eo : a1 ++ r :: (a2 ++ os.drop k) = os := by rw [show a1 ++ r :: (a2 ++ os.drop k) = (a1 ++ r :: a2) ++ os.drop k by rw [List.append_assoc]; rfl, ← ea, List.take_append_drop]
      have s1 : sdG (a1 ++ r :: (a2 ++ os.drop k)) [] := by rw [eo]; exact g1
      rw [sdG_app] at s1
      have s2 : sdW (a1 ++ r :: (a2 ++ os.drop k)) (i0T t m) ((kqT T rs kb m, 0, [], 0), npT t.1 m, i0T t m + os.length, false, 0) := by rw [eo]; exact sw
      rw [sdW_app] at s2
      have s3 : jrun E (a1 ++ r :: (a2 ++ os.drop k)) (jmT T t.1 m) = some (jf, lf) := by rw [eo]; exact hj
      rw [jrun_app, ej] at s3
      dsimp only at s3
      have td := (td_run a1 _ [] j2 l2 s1.1 ej).1
      have td0 : (jmT T t.1 m).2.2.2.1 = npT t.1 m := rfl
      have vr := (val_run a1 _ _ [] s2.1 s1.1 rfl (Nat.zero_le _)).2.1
      refine ⟨?_, ?_⟩
      · cases hy : jrow E r j2 with
        | none =>
          have : jrun E (r :: (a2 ++ os.drop k)) j2 = none := by
            show (match jrow E r j2 with
              | none => none
              | some (j1, c1) => match jrun E (a2 ++ os.drop k) j1 with
                | none => none
                | some (j2, c2) => some (j2, c1 ++ c2)) = none
            rw [hy]
          rw [this] at s3
          cases s3
        | some y =>
          have v := vtR_at a1 (a2 ++ os.drop k) (jmT T t.1 m) [] j2 l2 s1.1 ej er ⟨y, hy⟩
          rw [eo] at v
          unfold vtM
          rw [if_neg (by omega)]
          exact v
      · have ow := s2.2.1
        have lt : (fdW a1 (i0T t m) ((kqT T rs kb m, 0, [], 0), npT t.1 m, i0T t m + os.length, false, 0)).2.1 < 16 := by
          rcases ow with ok | ⟨q, _⟩ | ⟨q, _⟩ | ⟨q, _⟩ | ⟨q, _⟩ | ⟨_, _, q, _⟩ | ⟨q, _⟩ | q | ⟨q, _⟩ | ⟨q, _⟩
          · have := ok.1
            rw [er] at this
            exact absurd this (by decide)
          · rw [er] at q; exact absurd q (by decide)
          · rw [er] at q; exact absurd q (by decide)
          · rcases q with q | q <;> · have := q.1; rw [er] at this; exact absurd this (by decide)
          · rw [er] at q; exact absurd q (by decide)
          · exact q
          · rw [er] at q; exact absurd q (by decide)
          · rw [er] at q; exact absurd q (by decide)
          · rw [er] at q; exact absurd q (by decide)
          · rw [er] at q; exact absurd q (by decide)
        have vr' : (fdW a1 (i0T t m) ((kqT T rs kb m, 0, [], 0), npT t.1 m, i0T t m + os.length, false, 0)).2.1 = npT t.1 m + n20 a1 := vr
        omega
    have JK := rel_run (N := N) (vt := vtM T t.1 E os m) (by rw [E1, E2]; exact Ac) (by rw [E2]; exact fun m hm => (PM m hm).2.1) hh (os.take k) _ [] j l g1'.1 J0 ha cond
    rw [E1, E2] at JK
    have sw' := sw
    rw [split, sdW_app] at sw'
    have vb := (val_run _ _ _ [] sw'.1 g1'.1 rfl (Nat.zero_le _)).2.2
    have ll := (td_run _ _ [] j l g1'.1 ha).2
    exact ⟨j, l, rfl, JK, by rw [RELj_len _ _ _ _ JK.1]; exact vb, by omega, g1'.2⟩
end MJB27
end
section
/-! ===== a RUN, pure ===== -/
/-- an OBJECT: its CLASS, its OWNERS (0: world), its FIELDS; how many there are, by number -/
abbrev OBJ : Type := Nat × (Nat → Nat) × (Nat → Int32)
abbrev HEAP : Type := Nat × (Nat → OBJ)
/-- a CALL: MEMBER (384: main), this, STATEMENT, VARIABLES, where its caller goes on -/
abbrev FRM : Type := Nat × Nat × Int32 × (Nat → Int32) × Nat
/-- most CALLS, how many numbers were said, which; STEPS; state; result; TROUBLE, its place -/
abbrev SCL : Type := Nat × Nat × (Nat → Int32) × Nat × Nat × Int32 × Int32 × Int32
/-- OBJECTS; CALLS, the last first; where the last one is; values, the last first -/
abbrev AMS : Type := HEAP × List FRM × Nat × List Int32 × SCL
def szO (T : TT) (L : List CD) (c : Nat) : Nat := 2 + nmL L c + fldT T L c
/-- the WORDS ahead of OBJECT o + 1 -/
def bsH (T : TT) (L : List CD) (H : HEAP) : Nat → Nat
  | 0 => 0
  | o + 1 => bsH T L H o + szO T L (H.2 (o + 1)).1
/-- OWNER i of a TYPE that tells OBJECT o by the NAMES of CLASS a -/
def seenO (T : TT) (L : List CD) (H : HEAP) (o a i : Nat) : Nat := match vwT (nmL L) (abT T L) (H.2 o).1 a with
  | some v => if oK v i < nmL L (H.2 o).1 then (H.2 o).2.1 (oK v i) else 0
  | none => 0
/-- what an OWNER is in the CALL of MEMBER m on OBJECT o -/
def hereO (T : TT) (L : List CD) (H : HEAP) (m o x : Nat) : Nat := if x = 5 ∨ o = 0 then 0 else if x = 6 then o else seenO T L H o (hmM L m) x
/-- E as KIND -/
def asO (T : TT) (L : List CD) (H : HEAP) (m o : Nat) (v : Int32) (k : Nat) : Bool := decide (v = 0) || ((vwT (nmL L) (abT T L) (H.2 (nN v)).1 (cK k)).isSome && allB (fun i => decide (seenO T L H (nN v) (cK k) i = hereO T L H m o (oK k i))) (nmL L (cK k)))
def setF (H : HEAP) (o i : Nat) (v : Int32) : HEAP := (H.1, fun x => if x = o then ((H.2 o).1, (H.2 o).2.1, fun y => if y = i then v else (H.2 o).2.2 y) else H.2 x)
def addO (H : HEAP) (c : Nat) (ow : Nat → Nat) : HEAP := (H.1 + 1, fun x => if x = H.1 + 1 then (c, ow, fun _ => 0) else H.2 x)
def two2 (op a b : Int32) : Option Int32 := if op = 43 then some (a + b) else if op = 45 then some (a - b) else if op = 42 then some (a * b) else if op = 47 then (if b = 0 then none else some (a / b)) else if op = 37 then (if b = 0 then none else some (a - a / b * b)) else if op = 60 then some (if b ≤ a then 0 else 1) else if op = 257 then some (if a = b then 1 else 0) else some (if a = b then 0 else 1)
def aFail (A : AMS) (n p : Int32) : AMS := (A.1, [], A.2.2.1, A.2.2.2.1, A.2.2.2.2.1, A.2.2.2.2.2.1, A.2.2.2.2.2.2.1, A.2.2.2.2.2.2.2.1, 3, A.2.2.2.2.2.2.2.2.2.1, n, p)
def aSt (A : AMS) (st : List Int32) : AMS := (A.1, A.2.1, A.2.2.1, st, A.2.2.2.2)
def aFs (A : AMS) (fs : List FRM) : AMS := (A.1, fs, A.2.2)
def aHp (A : AMS) (H : HEAP) : AMS := (H, A.2)
def aKs (A : AMS) (k : Nat) : AMS := (A.1, A.2.1, k, A.2.2.2)
/-- the number that an order asks for of what waits -/
def slotJ (E : EV) (r : Row) (j : JS) : Nat := match j.1 with
  | t :: _ => (match prtE E t r.2.2.2.2 false with
    | some p => numM E.1 E.2.1 p.1
    | none => 0)
  | [] => 0
def varJ (r : Row) (j : JS) : Nat := match vsK j.2.2.1 r.2.2.2.2 with
  | some e => e.2.2.1
  | none => 0
def setV (f : FRM) (n : Nat) (v : Int32) : FRM := (f.1, f.2.1, f.2.2.1, (fun i => if i = n then v else f.2.2.2.1 i), f.2.2.2.2)
/-- return v -/
def aRet (A : AMS) (f : FRM) (fs : List FRM) (v : Int32) : AMS := match fs with
  | [] => (A.1, [], A.2.2.1, A.2.2.2.1, A.2.2.2.2.1, A.2.2.2.2.2.1, A.2.2.2.2.2.2.1, A.2.2.2.2.2.2.2.1, 2, v, A.2.2.2.2.2.2.2.2.2.2)
  | _ :: _ => (A.1, fs, f.2.2.2.2, v :: A.2.2.2.1, A.2.2.2.2)
def aCall (T : TT) (L : List CD) (cm : Nat) (n m : Nat) (p : Int32) (A : AMS) (fs : List FRM) : AMS :=
  if (A.2.2.2.1)[n]?.getD 0 = 0 then aFail A 1 p
  else if fs.length = cm then aFail A 5 p
  else match memT T L (A.1.2 (nN ((A.2.2.2.1)[n]?.getD 0))).1 (nkM T L m) true with
    | none => A
    | some d => (A.1, (d, nN ((A.2.2.2.1)[n]?.getD 0), -1, (fun i => if i < n then (A.2.2.2.1)[n - 1 - i]?.getD 0 else 0), A.2.2.1) :: fs, 0, (A.2.2.2.1).drop (n + 1), (if A.2.2.2.2.1 < fs.length + 1 then fs.length + 1 else A.2.2.2.2.1), A.2.2.2.2.2)
/-- one order, which stands ahead of A's place -/
def aStep (T : TT) (L : List CD) (E : EV) (j : JS) (i0 wm cm : Nat) (r : Row) (A : AMS) : AMS := match A.2.1, A.2.2.2.1 with
  | [], _ => A
  | f :: fs, st =>
    if r.1 = 1 then aFs A ((f.1, f.2.1, r.2.1, f.2.2.2) :: fs)
    else if r.1 = 3 then aSt A (r.2.2.1 :: st)
    else if r.1 = 4 then aSt A (0 :: st)
    else if r.1 = 5 then aSt A (nI f.2.1 :: st)
    else if r.1 = 6 then aSt A (f.2.2.2.1 (varJ r j) :: st)
    else if r.1 = 7 then (match kdE E r.2.2.1 with
      | none => A
      | some k => if wm < bsH T L A.1 A.1.1 + szO T L (cK k) then aFail A 4 r.2.1 else aSt (aHp A (addO A.1 (cK k) (fun i => hereO T L A.1 f.1 f.2.1 (oK k i)))) (nI (A.1.1 + 1) :: st))
    else if r.1 = 8 then aSt A (-(st.headD 0) :: st.tail)
    else if r.1 = 9 then (match two2 r.2.2.1 (st.tail.headD 0) (st.headD 0) with
      | none => aFail A 2 r.2.1
      | some v => aSt A (v :: st.tail.tail))
    else if r.1 = 10 then (if st.headD 0 = 0 then aFail A 1 r.2.1 else aSt A ((A.1.2 (nN (st.headD 0))).2.2 (slotJ E r j) :: st.tail))
    else if r.1 = 13 then aCall T L cm (nN r.2.2.1) (j.2.1.headD (0, 0)).1 r.2.1 A (f :: fs)
    else if r.1 = 14 then (match kdE E r.2.2.1 with
      | none => A
      | some k => if asO T L A.1 f.1 f.2.1 (st.headD 0) k = true then A else aFail A 3 r.2.1)
    else if r.1 = 17 then aSt (aFs A (setV f j.2.2.2.2.2.2.1 (st.headD 0) :: fs)) st.tail
    else if r.1 = 18 then (if st.tail.headD 0 = 0 then aFail A 1 r.2.2.2.1 else aSt (aHp A (setF A.1 (nN (st.tail.headD 0)) j.2.2.2.2.2.2.1 (st.headD 0))) st.tail.tail)
    else if r.1 = 20 then aSt (aFs A (setV f j.2.2.2.1 (st.headD 0) :: fs)) st.tail
    else if r.1 = 21 then aSt (if st.headD 0 = 0 then aKs A (nN r.2.2.1 - i0) else A) st.tail
    else if r.1 = 22 ∨ r.1 = 23 then aKs A (nN r.2.2.1 - i0)
    else if r.1 = 24 then (A.1, A.2.1, A.2.2.1, st.tail, A.2.2.2.2.1, A.2.2.2.2.2.1 + 1, (fun i => if i = A.2.2.2.2.2.1 ∧ i < 200 then st.headD 0 else A.2.2.2.2.2.2.1 i), A.2.2.2.2.2.2.2)
    else if r.1 = 25 then aSt A st.tail
    else if r.1 = 28 then (if r.2.2.1 = 1 then aRet (aSt A st.tail) f fs (st.headD 0) else aRet A f fs 0)
    else A
def costs (r : Row) : Bool := decide (r.1 = 1 ∨ r.1 = 2 ∨ r.1 = 7 ∨ r.1 = 8 ∨ r.1 = 9 ∨ r.1 = 10 ∨ r.1 = 13 ∨ r.1 = 14)
section MJB28
variable {T : TT} {N : Nat} {L : List CD} {H H' : HEAP} {x y k o : Nat} {v : Int32}
/-- a value of that TYPE -/
def vOK (T : TT) (L : List CD) (H : HEAP) (x : Nat) (v : Int32) : Prop := match x with
  | 0 => True
  | 1 => v = 0
  | k + 2 => v = 0 ∨ ∃ o, 1 ≤ o ∧ o ≤ H.1 ∧ v = nI o ∧ (vwT (nmL L) (abT T L) (H.2 o).1 (cK k)).isSome = true
/-- no OBJECT goes, none changes its CLASS -/
def HX (H H' : HEAP) : Prop := H.1 ≤ H'.1 ∧ ∀ o, 1 ≤ o → o ≤ H.1 → (H'.2 o).1 = (H.2 o).1
theorem HX.rf : HX H H := ⟨Nat.le_refl _, fun _ _ _ => rfl⟩
theorem HX.tr {H'' : HEAP} (a : HX H H') (b : HX H' H'') : HX H H'' := ⟨Nat.le_trans a.1 b.1, fun o h1 h2 => (b.2 o h1 (Nat.le_trans h2 a.1)).trans (a.2 o h1 h2)⟩
theorem vOK.ext (h : vOK T L H x v) (e : HX H H') : vOK T L H' x v := by
  match x, h with
  | 0, _ => trivial
  | 1, h => exact h
  | k + 2, h =>
    rcases h with h | ⟨o, o1, o2, o3, o4⟩
    · exact Or.inl h
    · exact Or.inr ⟨o, o1, Nat.le_trans o2 e.1, o3, by rw [e.2 o o1 o2]; exact o4⟩
theorem vOK.zero : vOK T L H x 0 := by
  match x with
  | 0 => trivial
  | 1 => rfl
  | k + 2 => exact Or.inl rfl
theorem vOK.cls (h : vOK T L H x v) (e : ctT x = ctT y) : vOK T L H y v := by
  match x, y, h, e with
  | 0, 0, _, _ => trivial
  | 0, 1, _, e => cases e
  | 0, k + 2, _, e => have : 0 = cK k + 2 := e; omega
  | 1, 0, _, e => cases e
  | 1, 1, h, _ => exact h
  | 1, k + 2, h, _ => exact Or.inl h
  | k + 2, 0, _, e => have : cK k + 2 = 0 := e; omega
  | k + 2, 1, _, e => have : cK k + 2 = 1 := e; omega
  | k + 2, y + 2, h, e =>
    have e' : cK k = cK y := by have : cK k + 2 = cK y + 2 := e; omega
    rcases h with h | ⟨o, o1, o2, o3, o4⟩
    · exact Or.inl h
    · exact Or.inr ⟨o, o1, o2, o3, by rw [← e']; exact o4⟩
/-- a value that fits -/
theorem vOK.fit (Ac : ACY T N L) (hc : ∀ o, 1 ≤ o → o ≤ H.1 → (H.2 o).1 < L.length) (hx : tOK L x) (h : vOK T L H x v) (f : fitT T L x y = true) : vOK T L H y v := by
  match x, y, h, f, hx with
  | 0, 0, _, _, _ => trivial
  | 0, 1, _, f, _ => exact absurd f (by show ¬ decide ((0 : Nat) = 1) = true; decide)
  | 0, k + 2, _, f, _ =>
    have : (0 : Nat) = k + 2 := of_decide_eq_true f
    omega
  | 1, y, h, f, _ =>
    have e : v = 0 := h
    rw [e]
    exact vOK.zero
  | k + 2, 0, _, f, _ =>
    have : k + 2 = 0 := of_decide_eq_true f
    omega
  | k + 2, 1, _, f, _ =>
    have : k + 2 = 1 := of_decide_eq_true f
    omega
  | k + 2, y + 2, h, f, hx =>
    rcases h with h | ⟨o, o1, o2, o3, o4⟩
    · exact Or.inl h
    · refine Or.inr ⟨o, o1, o2, o3, ?_⟩
      have kc := tOK.k hx
      have oc := hc o o1 o2
      obtain ⟨i, hi⟩ := (vw_iff Ac oc).mp o4
      have f' : (match vwT (nmL L) (abT T L) (cK k) (cK y) with
        | some v => decide (stand (nmL L) v k = y)
        | none => false) = true := f
      cases hv : vwT (nmL L) (abT T L) (cK k) (cK y) with
      | none => rw [hv] at f'; cases f'
      | some w =>
        obtain ⟨i2, hi2⟩ := (vw_iff Ac kc).mp (show (vwT (nmL L) (abT T L) (cK k) (cK y)).isSome = true by rw [hv]; rfl)
        refine (vw_iff Ac oc).mpr ⟨i + i2, ?_⟩
        rw [upI_add, hi]
        exact hi2
end MJB28
end
section
/-! ===== a RUN's values have their TYPES ===== -/
def EMx (T : TT) (t : PT) (tr : Bool) (k0 m : Nat) : EV := EmT T t.1 tr (ktL k0 t.2.2.1) m
def vtX (T : TT) (t : PT) (rs : List RcM) (z : PB) (tr : Bool) (k0 m v : Nat) : Nat := vtM T t.1 (EMx T t tr k0 m) (osM rs z m) m v
def TYS (T : TT) (L : List CD) (H : HEAP) : List Int32 → List Nat → Prop
  | [], [] => True
  | v :: vs, x :: xs => vOK T L H x v ∧ TYS T L H vs xs
  | _, _ => False
def HOK (T : TT) (L : List CD) (H : HEAP) : Prop := ∀ o, 1 ≤ o → o ≤ H.1 → (H.2 o).1 < L.length ∧ (∀ i, (H.2 o).2.1 i < o) ∧ ∀ m, m < nMem L → mSM L m = false → (vwT (nmL L) (abT T L) (H.2 o).1 (hmM L m)).isSome = true → vOK T L H (tyM T L m) ((H.2 o).2.2 (numM T L m))
def FOK (T : TT) (t : PT) (rs : List RcM) (z : PB) (tr : Bool) (k0 : Nat) (H : HEAP) (f : FRM) : Prop := ((f.1 = 384 ∧ f.2.1 = 0) ∨ (f.1 < nMem t.1 ∧ mSM t.1 f.1 = true ∧ 1 ≤ f.2.1 ∧ f.2.1 ≤ H.1 ∧ (vwT (nmL t.1) (abT T t.1) (H.2 f.2.1).1 (hmM t.1 f.1)).isSome = true)) ∧ ∀ v, v < 16 → vOK T t.1 H (vtX T t rs z tr k0 f.1 v) (f.2.2.2.1 v)
/-- the CALLS that wait for the CALL of MEMBER m; the first goes on at k -/
def SUS (T : TT) (t : PT) (rs : List RcM) (z : PB) (tr : Bool) (k0 : Nat) (H : HEAP) : List FRM → Nat → Nat → List Int32 → Prop
  | [], m, _, st => m = 384 ∧ st = []
  | f :: fs, m, k, st => m < nMem t.1 ∧ FOK T t rs z tr k0 H f ∧ k ≤ (osM rs z f.1).length ∧ ∃ j l x xs seg rest, jrun (EMx T t tr k0 f.1) ((osM rs z f.1).take k) (jmT T t.1 f.1) = some (j, l) ∧ jRS j = x :: xs ∧ ctT x = ctT (tyM T t.1 m) ∧ TYS T t.1 H seg xs ∧ st = seg ++ rest ∧ SUS T t rs z tr k0 H fs f.1 f.2.2.2.2 rest
def RUNOK (T : TT) (t : PT) (rs : List RcM) (z : PB) (tr : Bool) (k0 : Nat) (A : AMS) : Prop := ∃ f fs, A.2.1 = f :: fs ∧ FOK T t rs z tr k0 A.1 f ∧ A.2.2.1 ≤ (osM rs z f.1).length ∧ ∃ j l seg rest, jrun (EMx T t tr k0 f.1) ((osM rs z f.1).take A.2.2.1) (jmT T t.1 f.1) = some (j, l) ∧ TYS T t.1 A.1 seg (jRS j) ∧ A.2.2.2.1 = seg ++ rest ∧ SUS T t rs z tr k0 A.1 fs f.1 f.2.2.2.2 rest
def AOK (T : TT) (t : PT) (rs : List RcM) (z : PB) (tr : Bool) (k0 wm cm : Nat) (A : AMS) : Prop := HOK T t.1 A.1 ∧ bsH T t.1 A.1 A.1.1 ≤ wm ∧ A.2.1.length ≤ cm ∧ (A.2.2.2.2.2.2.2.2.1 = 1 → RUNOK T t rs z tr k0 A) ∧ (¬ A.2.2.2.2.2.2.2.2.1 = 1 → A.2.1 = [])
section MJB29
variable {T : TT} {N k0 kb wm cm : Nat} {L : List CD} {t : PT} {rs : List RcM} {z : PB} {tr : Bool} {H H' : HEAP}
theorem TYS.ext (e : HX H H') : ∀ (vs : List Int32) (xs : List Nat), TYS T L H vs xs → TYS T L H' vs xs
  | [], [], _ => trivial
  | [], _ :: _, h => h.elim
  | _ :: _, [], h => h.elim
  | v :: vs, x :: xs, h => ⟨h.1.ext e, TYS.ext e vs xs h.2⟩
theorem TYS.len : ∀ (vs : List Int32) (xs : List Nat), TYS T L H vs xs → vs.length = xs.length
  | [], [], _ => rfl
  | [], _ :: _, h => h.elim
  | _ :: _, [], h => h.elim
  | v :: vs, x :: xs, h => by rw [List.length_cons, List.length_cons, TYS.len vs xs h.2]
theorem TYS.cons {x : Nat} {xs : List Nat} : ∀ {vs : List Int32}, TYS T L H vs (x :: xs) → ∃ v vs', vs = v :: vs' ∧ vOK T L H x v ∧ TYS T L H vs' xs
  | [], h => h.elim
  | v :: vs, h => ⟨v, vs, rfl, h.1, h.2⟩
theorem TYS.app : ∀ {as : List Nat} {xs : List Nat} {vs : List Int32}, TYS T L H vs (as ++ xs) → ∃ us ws, vs = us ++ ws ∧ TYS T L H us as ∧ TYS T L H ws xs
  | [], xs, vs, h => ⟨[], vs, rfl, trivial, h⟩
  | a :: as, xs, vs, h => by
    obtain ⟨v, vs', e, h1, h2⟩ := TYS.cons h
    obtain ⟨us, ws, e2, h3, h4⟩ := TYS.app h2
    exact ⟨v :: us, ws, by rw [e, e2]; rfl, ⟨h1, h3⟩, h4⟩
theorem TYS.at : ∀ {xs : List Nat} {vs : List Int32} {i x : Nat}, TYS T L H vs xs → xs[i]? = some x → ∃ v, vs[i]? = some v ∧ vOK T L H x v
  | [], vs, i, x, _, h => by cases h
  | y :: xs, vs, i, x, h, hi => by
    obtain ⟨v, vs', e, h1, h2⟩ := TYS.cons h
    subst e
    cases i with
    | zero =>
      have e : y = x := by simpa using hi
      exact ⟨v, rfl, by rw [← e]; exact h1⟩
    | succ i =>
      have hi' : xs[i]? = some x := hi
      obtain ⟨w, w1, w2⟩ := TYS.at h2 hi'
      exact ⟨w, w1, w2⟩
theorem TYS.nil {vs : List Int32} (h : TYS T L H vs []) : vs = [] := by
  cases vs with
  | nil => rfl
  | cons v vs => exact h.elim
theorem FOK.ext {f : FRM} (h : FOK T t rs z tr k0 H f) (e : HX H H') : FOK T t rs z tr k0 H' f := by
  refine ⟨?_, fun v hv => (h.2 v hv).ext e⟩
  rcases h.1 with h | ⟨h1, h2, h3, h4, h5⟩
  · exact Or.inl h
  · exact Or.inr ⟨h1, h2, h3, Nat.le_trans h4 e.1, by rw [e.2 _ h3 h4]; exact h5⟩
theorem SUS.ext (e : HX H H') : ∀ (fs : List FRM) (m k : Nat) (st : List Int32), SUS T t rs z tr k0 H fs m k st → SUS T t rs z tr k0 H' fs m k st
  | [], m, k, st, h => h
  | f :: fs, m, k, st, ⟨h0, h1, h2, j, l, x, xs, seg, rest, h3, h4, h5, h6, h7, h8⟩ => ⟨h0, h1.ext e, h2, j, l, x, xs, seg, rest, h3, h4, h5, TYS.ext e _ _ h6, h7, SUS.ext e fs _ _ _ h8⟩
theorem FOK.mt {f : FRM} (h : FOK T t rs z tr k0 H f) (m384 : nMem t.1 ≤ 384) : f.1 ≤ 384 ∧ isMT t.1 f.1 = true := by
  rcases h.1 with ⟨h, _⟩ | ⟨h1, h2, _⟩
  · rw [h]; exact ⟨Nat.le_refl _, rfl⟩
  · refine ⟨by omega, ?_⟩
    unfold isMT
    rw [decide_eq_true h1, h2]
    exact Bool.or_true _
theorem HX.set {o i : Nat} {v : Int32} : HX H (setF H o i v) := by
  refine ⟨Nat.le_refl _, fun x _ _ => ?_⟩
  show (if x = o then _ else H.2 x).1 = _
  by_cases e : x = o
  · rw [if_pos e, e]
  · rw [if_neg e]
theorem HX.add {c : Nat} {ow : Nat → Nat} : HX H (addO H c ow) := by
  refine ⟨Nat.le_succ _, fun x _ h2 => ?_⟩
  show (if x = H.1 + 1 then _ else H.2 x).1 = _
  rw [if_neg (by omega)]
/-- a FIELD of an OBJECT is set -/
theorem HOK.set (Ac : ACY T N L) (hh : ∀ m, m < nMem L → hmM L m < L.length) (h : HOK T L H) {o m : Nat} {v : Int32} (o1 : 1 ≤ o) (o2 : o ≤ H.1) (hm : m < nMem L) (ms : mSM L m = false) (vm : (vwT (nmL L) (abT T L) (H.2 o).1 (hmM L m)).isSome = true) (hv : vOK T L H (tyM T L m) v) : HOK T L (setF H o (numM T L m) v) := by
  intro x x1 x2
  have x2' : x ≤ H.1 := x2
  obtain ⟨a1, a2, a3⟩ := h x x1 x2'
  have ex : (setF H o (numM T L m) v).2 x = if x = o then ((H.2 o).1, (H.2 o).2.1, fun y => if y = numM T L m then v else (H.2 o).2.2 y) else H.2 x := rfl
  by_cases e : x = o
  · subst e
    rw [ex, if_pos rfl]
    refine ⟨a1, a2, fun m' hm' ms' vm' => ?_⟩
    dsimp only
    by_cases q : numM T L m' = numM T L m
    · have := num_inj Ac hh a1 hm' hm ms' ms vm' vm q
      rw [if_pos q, this]
      exact hv.ext HX.set
    · rw [if_neg q]
      exact (a3 m' hm' ms' vm').ext HX.set
  · rw [ex, if_neg e]
    exact ⟨a1, a2, fun m' hm' ms' vm' => (a3 m' hm' ms' vm').ext HX.set⟩
/-- an OBJECT is made -/
theorem HOK.add (h : HOK T L H) {c : Nat} {ow : Nat → Nat} (hc : c < L.length) (ho : ∀ i, ow i < H.1 + 1) : HOK T L (addO H c ow) := by
  intro x x1 x2
  have x2' : x ≤ H.1 + 1 := x2
  have ex : (addO H c ow).2 x = if x = H.1 + 1 then (c, ow, fun _ => 0) else H.2 x := rfl
  by_cases e : x = H.1 + 1
  · rw [ex, if_pos e]
    exact ⟨hc, fun i => by rw [e]; exact ho i, fun _ _ _ _ => vOK.zero⟩
  · rw [ex, if_neg e]
    obtain ⟨a1, a2, a3⟩ := h x x1 (by omega)
    exact ⟨a1, a2, fun m' hm' ms' vm' => (a3 m' hm' ms' vm').ext HX.add⟩
theorem here_lt (h : HOK T L H) {m o x : Nat} (ho : o ≤ H.1) : hereO T L H m o x < H.1 + 1 := by
  unfold hereO
  by_cases e : x = 5 ∨ o = 0
  · rw [if_pos e]; omega
  · rw [if_neg e]
    by_cases e6 : x = 6
    · rw [if_pos e6]; omega
    · rw [if_neg e6]
      have o1 : 1 ≤ o := by
        by_cases q : o = 0
        · exact absurd (Or.inr q) e
        · omega
      unfold seenO
      cases vwT (nmL L) (abT T L) (H.2 o).1 (hmM L m) with
      | none => show 0 < _; omega
      | some v =>
        dsimp only
        by_cases q : oK v x < nmL L (H.2 o).1
        · rw [if_pos q]
          have := (h o o1 ho).2.1 (oK v x)
          omega
        · rw [if_neg q]; omega
theorem bs_same (e : ∀ o, 1 ≤ o → o ≤ H.1 → (H'.2 o).1 = (H.2 o).1) : ∀ o, o ≤ H.1 → bsH T L H' o = bsH T L H o
  | 0, _ => rfl
  | o + 1, h => by
    show bsH T L H' o + szO T L (H'.2 (o + 1)).1 = bsH T L H o + szO T L (H.2 (o + 1)).1
    rw [bs_same e o (by omega), e (o + 1) (by omega) h]
end MJB29
end
section
/-! ===== one order of a RUN, by its sort ===== -/
section MJB30
variable {T : TT} {L : List CD} {E : EV} {j : JS} {i0 wm cm kk : Nat} {r : Row} {H : HEAP} {f : FRM} {fs : List FRM} {st : List Int32} {sc : SCL}
theorem as_1 (h : r.1 = 1) : aStep T L E j i0 wm cm r (H, f :: fs, kk, st, sc) = aFs (H, f :: fs, kk, st, sc) ((f.1, f.2.1, r.2.1, f.2.2.2) :: fs) := by unfold aStep; dsimp only; rw [h, if_pos rfl] <;> rfl
theorem as_3 (h : r.1 = 3) : aStep T L E j i0 wm cm r (H, f :: fs, kk, st, sc) = aSt (H, f :: fs, kk, st, sc) (r.2.2.1 :: st) := by unfold aStep; dsimp only; rw [h, if_neg (by decide), if_pos rfl] <;> rfl
theorem as_4 (h : r.1 = 4) : aStep T L E j i0 wm cm r (H, f :: fs, kk, st, sc) = aSt (H, f :: fs, kk, st, sc) (0 :: st) := by unfold aStep; dsimp only; rw [h, if_neg (by decide), if_neg (by decide), if_pos rfl] <;> rfl
theorem as_5 (h : r.1 = 5) : aStep T L E j i0 wm cm r (H, f :: fs, kk, st, sc) = aSt (H, f :: fs, kk, st, sc) (nI f.2.1 :: st) := by unfold aStep; dsimp only; rw [h, if_neg (by decide), if_neg (by decide), if_neg (by decide), if_pos rfl] <;> rfl
theorem as_6 (h : r.1 = 6) : aStep T L E j i0 wm cm r (H, f :: fs, kk, st, sc) = aSt (H, f :: fs, kk, st, sc) (f.2.2.2.1 (varJ r j) :: st) := by unfold aStep; dsimp only; rw [h, if_neg (by decide), if_neg (by decide), if_neg (by decide), if_neg (by decide), if_pos rfl] <;> rfl
theorem as_7 (h : r.1 = 7) : aStep T L E j i0 wm cm r (H, f :: fs, kk, st, sc) = (match kdE E r.2.2.1 with
      | none => (H, f :: fs, kk, st, sc)
      | some k => if wm < bsH T L (H, f :: fs, kk, st, sc).1 (H, f :: fs, kk, st, sc).1.1 + szO T L (cK k) then aFail (H, f :: fs, kk, st, sc) 4 r.2.1 else aSt (aHp (H, f :: fs, kk, st, sc) (addO (H, f :: fs, kk, st, sc).1 (cK k) (fun i => hereO T L (H, f :: fs, kk, st, sc).1 f.1 f.2.1 (oK k i)))) (nI ((H, f :: fs, kk, st, sc).1.1 + 1) :: st)) := by unfold aStep; dsimp only; rw [h, if_neg (by decide), if_neg (by decide), if_neg (by decide), if_neg (by decide), if_neg (by decide), if_pos rfl] <;> rfl
theorem as_8 (h : r.1 = 8) : aStep T L E j i0 wm cm r (H, f :: fs, kk, st, sc) = aSt (H, f :: fs, kk, st, sc) (-(st.headD 0) :: st.tail) := by unfold aStep; dsimp only; rw [h, if_neg (by decide), if_neg (by decide), if_neg (by decide), if_neg (by decide), if_neg (by decide), if_neg (by decide), if_pos rfl] <;> rfl
theorem as_9 (h : r.1 = 9) : aStep T L E j i0 wm cm r (H, f :: fs, kk, st, sc) = (match two2 r.2.2.1 (st.tail.headD 0) (st.headD 0) with
      | none => aFail (H, f :: fs, kk, st, sc) 2 r.2.1
      | some v => aSt (H, f :: fs, kk, st, sc) (v :: st.tail.tail)) := by unfold aStep; dsimp only; rw [h, if_neg (by decide), if_neg (by decide), if_neg (by decide), if_neg (by decide), if_neg (by decide), if_neg (by decide), if_neg (by decide), if_pos rfl] <;> rfl
theorem as_10 (h : r.1 = 10) : aStep T L E j i0 wm cm r (H, f :: fs, kk, st, sc) = (if st.headD 0 = 0 then aFail (H, f :: fs, kk, st, sc) 1 r.2.1 else aSt (H, f :: fs, kk, st, sc) (((H, f :: fs, kk, st, sc).1.2 (nN (st.headD 0))).2.2 (slotJ E r j) :: st.tail)) := by unfold aStep; dsimp only; rw [h, if_neg (by decide), if_neg (by decide), if_neg (by decide), if_neg (by decide), if_neg (by decide), if_neg (by decide), if_neg (by decide), if_neg (by decide), if_pos rfl] <;> rfl
theorem as_13 (h : r.1 = 13) : aStep T L E j i0 wm cm r (H, f :: fs, kk, st, sc) = aCall T L cm (nN r.2.2.1) (j.2.1.headD (0, 0)).1 r.2.1 (H, f :: fs, kk, st, sc) (f :: fs) := by unfold aStep; dsimp only; rw [h, if_neg (by decide), if_neg (by decide), if_neg (by decide), if_neg (by decide), if_neg (by decide), if_neg (by decide), if_neg (by decide), if_neg (by decide), if_neg (by decide), if_pos rfl] <;> rfl
theorem as_14 (h : r.1 = 14) : aStep T L E j i0 wm cm r (H, f :: fs, kk, st, sc) = (match kdE E r.2.2.1 with
      | none => (H, f :: fs, kk, st, sc)
      | some k => if asO T L (H, f :: fs, kk, st, sc).1 f.1 f.2.1 (st.headD 0) k = true then (H, f :: fs, kk, st, sc) else aFail (H, f :: fs, kk, st, sc) 3 r.2.1) := by unfold aStep; dsimp only; rw [h, if_neg (by decide), if_neg (by decide), if_neg (by decide), if_neg (by decide), if_neg (by decide), if_neg (by decide), if_neg (by decide), if_neg (by decide), if_neg (by decide), if_neg (by decide), if_pos rfl] <;> rfl
theorem as_17 (h : r.1 = 17) : aStep T L E j i0 wm cm r (H, f :: fs, kk, st, sc) = aSt (aFs (H, f :: fs, kk, st, sc) (setV f j.2.2.2.2.2.2.1 (st.headD 0) :: fs)) st.tail := by unfold aStep; dsimp only; rw [h, if_neg (by decide), if_neg (by decide), if_neg (by decide), if_neg (by decide), if_neg (by decide), if_neg (by decide), if_neg (by decide), if_neg (by decide), if_neg (by decide), if_neg (by decide), if_neg (by decide), if_pos rfl] <;> rfl
theorem as_18 (h : r.1 = 18) : aStep T L E j i0 wm cm r (H, f :: fs, kk, st, sc) = (if st.tail.headD 0 = 0 then aFail (H, f :: fs, kk, st, sc) 1 r.2.2.2.1 else aSt (aHp (H, f :: fs, kk, st, sc) (setF (H, f :: fs, kk, st, sc).1 (nN (st.tail.headD 0)) j.2.2.2.2.2.2.1 (st.headD 0))) st.tail.tail) := by unfold aStep; dsimp only; rw [h, if_neg (by decide), if_neg (by decide), if_neg (by decide), if_neg (by decide), if_neg (by decide), if_neg (by decide), if_neg (by decide), if_neg (by decide), if_neg (by decide), if_neg (by decide), if_neg (by decide), if_neg (by decide), if_pos rfl] <;> rfl
theorem as_20 (h : r.1 = 20) : aStep T L E j i0 wm cm r (H, f :: fs, kk, st, sc) = aSt (aFs (H, f :: fs, kk, st, sc) (setV f j.2.2.2.1 (st.headD 0) :: fs)) st.tail := by unfold aStep; dsimp only; rw [h, if_neg (by decide), if_neg (by decide), if_neg (by decide), if_neg (by decide), if_neg (by decide), if_neg (by decide), if_neg (by decide), if_neg (by decide), if_neg (by decide), if_neg (by decide), if_neg (by decide), if_neg (by decide), if_neg (by decide), if_pos rfl] <;> rfl
theorem as_21 (h : r.1 = 21) : aStep T L E j i0 wm cm r (H, f :: fs, kk, st, sc) = aSt (if st.headD 0 = 0 then aKs (H, f :: fs, kk, st, sc) (nN r.2.2.1 - i0) else (H, f :: fs, kk, st, sc)) st.tail := by unfold aStep; dsimp only; rw [h, if_neg (by decide), if_neg (by decide), if_neg (by decide), if_neg (by decide), if_neg (by decide), if_neg (by decide), if_neg (by decide), if_neg (by decide), if_neg (by decide), if_neg (by decide), if_neg (by decide), if_neg (by decide), if_neg (by decide), if_neg (by decide), if_pos rfl] <;> rfl
theorem as_22 (h : r.1 = 22 ∨ r.1 = 23) : aStep T L E j i0 wm cm r (H, f :: fs, kk, st, sc) = aKs (H, f :: fs, kk, st, sc) (nN r.2.2.1 - i0) := by
  unfold aStep
  dsimp only
  rcases h with h | h <;> rw [h, if_neg (by decide), if_neg (by decide), if_neg (by decide), if_neg (by decide), if_neg (by decide), if_neg (by decide), if_neg (by decide), if_neg (by decide), if_neg (by decide), if_neg (by decide), if_neg (by decide), if_neg (by decide), if_neg (by decide), if_neg (by decide), if_neg (by decide), if_pos (by decide)]
theorem as_24 (h : r.1 = 24) : aStep T L E j i0 wm cm r (H, f :: fs, kk, st, sc) = ((H, f :: fs, kk, st, sc).1, (H, f :: fs, kk, st, sc).2.1, (H, f :: fs, kk, st, sc).2.2.1, st.tail, (H, f :: fs, kk, st, sc).2.2.2.2.1, (H, f :: fs, kk, st, sc).2.2.2.2.2.1 + 1, (fun i => if i = (H, f :: fs, kk, st, sc).2.2.2.2.2.1 ∧ i < 200 then st.headD 0 else (H, f :: fs, kk, st, sc).2.2.2.2.2.2.1 i), (H, f :: fs, kk, st, sc).2.2.2.2.2.2.2) := by unfold aStep; dsimp only; rw [h, if_neg (by decide), if_neg (by decide), if_neg (by decide), if_neg (by decide), if_neg (by decide), if_neg (by decide), if_neg (by decide), if_neg (by decide), if_neg (by decide), if_neg (by decide), if_neg (by decide), if_neg (by decide), if_neg (by decide), if_neg (by decide), if_neg (by decide), if_neg (by decide), if_pos rfl] <;> rfl
theorem as_25 (h : r.1 = 25) : aStep T L E j i0 wm cm r (H, f :: fs, kk, st, sc) = aSt (H, f :: fs, kk, st, sc) st.tail := by unfold aStep; dsimp only; rw [h, if_neg (by decide), if_neg (by decide), if_neg (by decide), if_neg (by decide), if_neg (by decide), if_neg (by decide), if_neg (by decide), if_neg (by decide), if_neg (by decide), if_neg (by decide), if_neg (by decide), if_neg (by decide), if_neg (by decide), if_neg (by decide), if_neg (by decide), if_neg (by decide), if_neg (by decide), if_pos rfl] <;> rfl
theorem as_28 (h : r.1 = 28) : aStep T L E j i0 wm cm r (H, f :: fs, kk, st, sc) = (if r.2.2.1 = 1 then aRet (aSt (H, f :: fs, kk, st, sc) st.tail) f fs (st.headD 0) else aRet (H, f :: fs, kk, st, sc) f fs 0) := by unfold aStep; dsimp only; rw [h, if_neg (by decide), if_neg (by decide), if_neg (by decide), if_neg (by decide), if_neg (by decide), if_neg (by decide), if_neg (by decide), if_neg (by decide), if_neg (by decide), if_neg (by decide), if_neg (by decide), if_neg (by decide), if_neg (by decide), if_neg (by decide), if_neg (by decide), if_neg (by decide), if_neg (by decide), if_neg (by decide), if_pos rfl] <;> rfl
theorem as_n (h : r.1 = 2 ∨ r.1 = 11 ∨ r.1 = 12 ∨ r.1 = 15 ∨ r.1 = 16 ∨ r.1 = 19 ∨ r.1 = 26 ∨ r.1 = 27 ∨ r.1 = 30) : aStep T L E j i0 wm cm r (H, f :: fs, kk, st, sc) = (H, f :: fs, kk, st, sc) := by
  unfold aStep
  dsimp only
  rcases h with h | h | h | h | h | h | h | h | h <;> rw [h, if_neg (by decide), if_neg (by decide), if_neg (by decide), if_neg (by decide), if_neg (by decide), if_neg (by decide), if_neg (by decide), if_neg (by decide), if_neg (by decide), if_neg (by decide), if_neg (by decide), if_neg (by decide), if_neg (by decide), if_neg (by decide), if_neg (by decide), if_neg (by decide), if_neg (by decide), if_neg (by decide), if_neg (by decide)]
end MJB30
end
section
/-! ===== a RUN's values keep their TYPES ===== -/
def PRX (T : TT) (N k0 : Nat) (t : PT) (rs : List RcM) (kb : Nat) (z : PB) (tr : Bool) : Prop := PRG T N k0 t rs kb z tr ∧ nMem t.1 ≤ 384 ∧ ∀ m, m ≤ 384 → isMT t.1 m = true → i0T t m + (osM rs z m).length < 5000
section MJB31
variable {T : TT} {N k0 kb wm cm m k : Nat} {L : List CD} {t : PT} {rs : List RcM} {z : PB} {tr : Bool} {H H' : HEAP} {r : Row} {j : JS} {l : List Ins} {f : FRM} {fs : List FRM} {st : List Int32} {sc : SCL}
theorem tk_succ {os : List Row} (h : os[k]? = some r) : os.take (k + 1) = os.take k ++ [r] := by
  rw [List.take_succ, h]
  rfl
theorem PRX.step (P : PRX T N k0 t rs kb z tr) (hm : m ≤ 384) (im : isMT t.1 m = true) (hk : (osM rs z m)[k]? = some r) (ej : jrun (EMx T t tr k0 m) ((osM rs z m).take k) (jmT T t.1 m) = some (j, l)) : ∃ j' l1, jrow (EMx T t tr k0 m) r j = some (j', l1) ∧ jrun (EMx T t tr k0 m) ((osM rs z m).take (k + 1)) (jmT T t.1 m) = some (j', l ++ l1) ∧ okG r (fdG ((osM rs z m).take k) []) ∧ JOK T t.1 (vtX T t rs z tr k0 m) j (fdG ((osM rs z m).take k) []) ∧ JOK T t.1 (vtX T t rs z tr k0 m) j' (fdG ((osM rs z m).take (k + 1)) []) := by
  have kl := (List.getElem?_eq_some_iff.mp hk).1
  obtain ⟨j1, l1, a1, a2, a3, a4, a5⟩ := P.1.pos hm im (show k ≤ _ by omega)
  obtain ⟨j2, l2, b1, b2', b3, b4, b5⟩ := P.1.pos hm im (show k + 1 ≤ (osM rs z m).length by omega)
  have e1 : (j1, l1) = (j, l) := Option.some.inj (a1.symm.trans ej)
  rw [Prod.mk.injEq] at e1
  rw [e1.1] at a2
  have tk := tk_succ hk
  have b1' := b1
  have ej' : jrun (EmT T t.1 tr (ktL k0 t.2.2.1) m) ((osM rs z m).take k) (jmT T t.1 m) = some (j, l) := ej
  rw [tk, jrun_app, ej'] at b1'
  dsimp only at b1'
  rw [jrun_1] at b1'
  have dr : (osM rs z m).drop k = r :: (osM rs z m).drop (k + 1) := by
    rw [List.drop_eq_getElem_cons kl]
    congr 1
    exact (List.getElem?_eq_some_iff.mp hk).2
  rw [dr] at a5
  cases hj : jrow (EmT T t.1 tr (ktL k0 t.2.2.1) m) r j with
  | none =>
    rw [hj] at b1'
    cases b1'
  | some y =>
    rw [hj] at b1'
    dsimp only at b1'
    have e3 : (y.1, l ++ y.2) = (j2, l2) := Option.some.inj b1'
    rw [Prod.mk.injEq] at e3
    rw [← e3.1, ← e3.2] at b1
    rw [← e3.1] at b2'
    exact ⟨y.1, y.2, hj, b1, a5.1, a2, b2'⟩
/-- where nothing waits -/
theorem PRX.at0 (P : PRX T N k0 t rs kb z tr) (hm : m ≤ 384) (im : isMT t.1 m = true) (hk : k ≤ (osM rs z m).length) (h0 : fdG ((osM rs z m).take k) [] = []) : ∃ j l, jrun (EMx T t tr k0 m) ((osM rs z m).take k) (jmT T t.1 m) = some (j, l) ∧ jRS j = [] := by
  obtain ⟨j1, l1, a1, a2, a3, a4, a5⟩ := P.1.pos hm im hk
  have R := a2.1
  rw [h0] at R
  exact ⟨j1, l1, a1, R.2.2⟩
theorem okG_2 {G : GS} (ok : okG r G) (h : r.1 = 2) : G = [] := by
  rcases ok with o | ⟨o, _⟩ | ⟨o, _⟩ | ⟨o, _⟩ | ⟨o, _⟩ | ⟨o, _⟩ | ⟨o, _⟩ | ⟨o, _⟩ | ⟨o, _⟩ | ⟨o, _⟩ | ⟨o, _⟩ | ⟨o, eG⟩
  · rw [h] at o; exact absurd o (by decide)
  · rw [h] at o; exact absurd o (by decide)
  · rw [h] at o; exact absurd o (by decide)
  · rw [h] at o; exact absurd o (by decide)
  · rw [h] at o; exact absurd o (by decide)
  · rw [h] at o; exact absurd o (by decide)
  · rw [h] at o; exact absurd o (by decide)
  · rw [h] at o; exact absurd o (by decide)
  · rw [h] at o; exact absurd o (by decide)
  · rw [h] at o; exact absurd o (by decide)
  · rcases o with o | o | o | o | o
    · rw [h] at o; exact absurd o (by decide)
    · rw [h] at o; exact absurd o (by decide)
    · rw [h] at o; exact absurd o (by decide)
    · rw [h] at o; exact absurd o (by decide)
    · have := o.1; rw [h] at this; exact absurd this (by decide)
  · exact eG
/-- where a jump goes -/
theorem PRX.jump (P : PRX T N k0 t rs kb z tr) (hm : m ≤ 384) (im : isMT t.1 m = true) (hk : (osM rs z m)[k]? = some r) (hr : r.1 = 21 ∨ r.1 = 22 ∨ r.1 = 23) : ∃ x, x ≤ (osM rs z m).length ∧ r.2.2.1 = nI (i0T t m + x) ∧ nN r.2.2.1 - i0T t m = x ∧ (∃ jx lx, jrun (EMx T t tr k0 m) ((osM rs z m).take x) (jmT T t.1 m) = some (jx, lx) ∧ jRS jx = []) ∧ ((¬ r.1 = 23 ∧ k < x) ∨ (r.1 = 23 ∧ x ≤ k ∧ ∃ r', (osM rs z m)[x]? = some r' ∧ r'.1 = 2)) := by
  obtain ⟨⟨g1, g2, g3⟩, _⟩ := P.1.2.2 m hm im
  have i5 := P.2.2 m hm im
  obtain ⟨q1, q2⟩ := g3 k r hk
  have fin : ∀ x, x ≤ (osM rs z m).length → r.2.2.1 = nI (i0T t m + x) → nN r.2.2.1 - i0T t m = x := by
    intro x h1 h2
    rw [h2, nN_nI (by omega)]
    omega
  by_cases h23 : r.1 = 23
  · obtain ⟨x, r', x1, x2, x3, x4⟩ := q2 h23
    have xl := (List.getElem?_eq_some_iff.mp x2).1
    have G0 : fdG ((osM rs z m).take x) [] = [] := by
      have s := g1
      rw [(List.take_append_drop x (osM rs z m)).symm, sdG_app] at s
      have dr : (osM rs z m).drop x = r' :: (osM rs z m).drop (x + 1) := by
        rw [List.drop_eq_getElem_cons xl]
        congr 1
        exact (List.getElem?_eq_some_iff.mp x2).2
      rw [dr] at s
      exact okG_2 s.2.1 x3
    exact ⟨x, by omega, x4, fin x (by omega) x4, P.at0 hm im (by omega) G0, Or.inr ⟨h23, by omega, r', x2, x3⟩⟩
  · obtain ⟨x, x1, x2, x3, x4⟩ := q1 (by rcases hr with h | h | h; exact Or.inl h; exact Or.inr h; exact absurd h h23)
    exact ⟨x, x2, x3, fin x x2 x3, P.at0 hm im x2 x4, Or.inl ⟨h23, by omega⟩⟩
theorem AOK.fail (h1 : HOK T t.1 H) (h2 : bsH T t.1 H H.1 ≤ wm) {n p : Int32} : AOK T t rs z tr k0 wm cm (aFail (H, f :: fs, k, st, sc) n p) := ⟨h1, h2, Nat.zero_le _, fun h => by have : (3 : Nat) = 1 := h; omega, fun _ => rfl⟩
/-- one order further -/
theorem RUNOK.adv {f' : FRM} {seg' rest : List Int32} {j' : JS} {l' : List Ins} (hk : k ≤ (osM rs z f.1).length) (ej : jrun (EMx T t tr k0 f.1) ((osM rs z f.1).take k) (jmT T t.1 f.1) = some (j', l')) (F : FOK T t rs z tr k0 H' f') (e1 : f'.1 = f.1) (e2 : f'.2.2.2.2 = f.2.2.2.2) (ty : TYS T t.1 H' seg' (jRS j')) (x : HX H H') (S : SUS T t rs z tr k0 H fs f.1 f.2.2.2.2 rest) : RUNOK T t rs z tr k0 (H', f' :: fs, k, seg' ++ rest, sc) := by
  refine ⟨f', fs, rfl, F, ?_, j', l', seg', rest, ?_, ty, rfl, ?_⟩
  · rw [e1]; exact hk
  · rw [e1]; exact ej
  · rw [e1, e2]; exact SUS.ext x _ _ _ _ S
/-- return -/
theorem AOK.ret (hH : HOK T t.1 H) (hb : bsH T t.1 H H.1 ≤ wm) (hl : (f :: fs).length ≤ cm) (ph : sc.2.2.2.2.1 = 1) {rest : List Int32} {v : Int32} (S : SUS T t rs z tr k0 H fs f.1 f.2.2.2.2 rest) (hv : f.1 < nMem t.1 → vOK T t.1 H (tyM T t.1 f.1) v) : AOK T t rs z tr k0 wm cm (aRet (H, f :: fs, k, rest, sc) f fs v) := by
  cases fs with
  | nil => exact ⟨hH, hb, Nat.zero_le _, fun h => by have : (2 : Nat) = 1 := h; omega, fun _ => rfl⟩
  | cons g gs =>
    obtain ⟨s0, s1, s2, j2, l2, x, xs, seg2, rest2, s3, s4, s5, s6, s7, s8⟩ := S
    refine ⟨hH, hb, ?_, fun _ => ⟨g, gs, rfl, s1, s2, j2, l2, v :: seg2, rest2, s3, ?_, ?_, s8⟩, fun h => absurd ph h⟩
    · have : (g :: gs).length + 1 ≤ cm := hl
      show (g :: gs).length ≤ cm
      omega
    · rw [s4]
      exact ⟨(hv s0).cls s5.symm, s6⟩
    · show v :: rest = (v :: seg2) ++ rest2
      rw [s7]
      rfl
end MJB31
end
section
/-! ===== a RUN's values keep their TYPES: every order ===== -/
section MJB32
variable {T : TT} {N k0 kb wm cm m k : Nat} {t : PT} {rs : List RcM} {z : PB} {tr : Bool} {H : HEAP} {r : Row} {j : JS} {l : List Ins} {f : FRM} {fs : List FRM} {st : List Int32} {sc : SCL}
theorem EMx_1 : (EMx T t tr k0 m).1 = T ∧ (EMx T t tr k0 m).2.1 = t.1 := EmT_1
theorem EMx_m (h : ¬ m = 384) : (EMx T t tr k0 m).2.2.2.2.1 = some (hmM t.1 m) ∧ (EMx T t tr k0 m).2.2.2.2.2.1 = tyM T t.1 m := by
  unfold EMx EmT
  rw [if_neg h]
  exact ⟨rfl, rfl⟩
theorem EMx_main (h : m = 384) : (EMx T t tr k0 m).2.2.2.2.1 = none ∧ (EMx T t tr k0 m).2.2.2.2.2.1 = 0 := by
  unfold EMx EmT
  rw [if_pos h]
  exact ⟨rfl, rfl⟩
/-- an OBJECT of a KIND's CLASS has that CLASS's MEMBERS -/
theorem mem_vw {L : List CD} (Ac : ACY T N L) {c kk d : Nat} {w : Int64} {isM : Bool} (hc : c < L.length) (hk : kk < L.length) (v : (vwT (nmL L) (abT T L) c kk).isSome = true) (h : memT T L kk w isM = some d) : (vwT (nmL L) (abT T L) c (hmM L d)).isSome = true := by
  obtain ⟨_, _, _, _, v2⟩ := mem_in Ac hk h
  obtain ⟨i, hi⟩ := (vw_iff Ac hc).mp v
  obtain ⟨i2, hi2⟩ := (vw_iff Ac hk).mp v2
  refine (vw_iff Ac hc).mpr ⟨i + i2, ?_⟩
  rw [upI_add, hi]
  exact hi2
theorem bs_ge (T : TT) (L : List CD) (H : HEAP) : ∀ o, 2 * o ≤ bsH T L H o
  | 0 => Nat.le_refl _
  | o + 1 => by
    have := bs_ge T L H o
    show 2 * (o + 1) ≤ bsH T L H o + (2 + nmL L (H.2 (o + 1)).1 + fldT T L (H.2 (o + 1)).1)
    omega
theorem aCall_eq {L : List CD} {n d' kk : Nat} {p : Int32} {gs : List FRM} : aCall T L cm n d' p (H, gs, kk, st, sc) fs = if st[n]?.getD 0 = 0 then aFail (H, gs, kk, st, sc) 1 p else if fs.length = cm then aFail (H, gs, kk, st, sc) 5 p else match memT T L (H.2 (nN (st[n]?.getD 0))).1 (nkM T L d') true with
    | none => (H, gs, kk, st, sc)
    | some d => (H, (d, nN (st[n]?.getD 0), -1, (fun i => if i < n then st[n - 1 - i]?.getD 0 else 0), kk) :: fs, 0, st.drop (n + 1), (if sc.1 < fs.length + 1 then fs.length + 1 else sc.1), sc.2) := rfl
theorem snd_step (P : PRX T N k0 t rs kb z tr) (hw : wm ≤ 4000) (hA : AOK T t rs z tr k0 wm cm (H, f :: fs, k, st, sc)) (ph : sc.2.2.2.2.1 = 1) (ej : jrun (EMx T t tr k0 f.1) ((osM rs z f.1).take k) (jmT T t.1 f.1) = some (j, l)) (hr : r = ((osM rs z f.1)[k]?).getD oOver) : AOK T t rs z tr k0 wm cm (aStep T t.1 (EMx T t tr k0 f.1) j (i0T t f.1) wm cm r (H, f :: fs, k + 1, st, sc)) := by
  have Ac := P.1.1
  have PM := P.1.2.1
  have m384 := P.2.1
  obtain ⟨hH0, hb0, hl0, hrun, _⟩ := hA
  have hH : HOK T t.1 H := hH0
  have hb : bsH T t.1 H H.1 ≤ wm := hb0
  have hl : (f :: fs).length ≤ cm := hl0
  have hc : ∀ o, 1 ≤ o → o ≤ H.1 → (H.2 o).1 < t.1.length := fun o o1 o2 => (hH o o1 o2).1
  have n2 : H.1 ≤ 2000 := by
    have := bs_ge T t.1 H H.1
    have hb' : bsH T t.1 H H.1 ≤ wm := hb
    omega
  obtain ⟨f0, fs0, e0, F0, hk0, j0, l0, seg, rest, ej0, ty00, est, S0⟩ := hrun ph
  have F : FOK T t rs z tr k0 H f0 := F0
  have hk : k ≤ (osM rs z f0.1).length := hk0
  have ty : TYS T t.1 H seg (jRS j0) := ty00
  have S : SUS T t rs z tr k0 H fs0 f0.1 f0.2.2.2.2 rest := S0
  have ef : f = f0 := (List.cons.inj e0).1
  have efs : fs = fs0 := (List.cons.inj e0).2
  rw [← ef] at F hk ej0 S
  rw [← efs] at S
  have est' : st = seg ++ rest := est
  have ejj : j0 = j := (Prod.mk.inj (Option.some.inj (ej0.symm.trans ej))).1
  rw [ejj] at ty
  obtain ⟨fm, im⟩ := F.mt m384
  have hk' : k ≤ (osM rs z f.1).length := hk
  cases hkr : (osM rs z f.1)[k]? with
  | none =>
    have kl : (osM rs z f.1).length ≤ k := List.getElem?_eq_none_iff.mp hkr
    have er : r = oOver := by rw [hr, hkr]; rfl
    have e28 : r.1 = 28 := by rw [er]; rfl
    obtain ⟨jx, lx, x1, x2⟩ := P.at0 fm im (k := k) hk' (by
      rw [List.take_of_length_le kl]
      exact (P.1.2.2 f.1 fm im).1.2.1)
    have ex : jx = j := (Prod.mk.inj (Option.some.inj (x1.symm.trans ej))).1
    rw [← ex, x2] at ty
    rw [as_28 e28, if_neg (by rw [er]; decide)]
    rw [TYS.nil ty, List.nil_append] at est'
    rw [est']
    exact AOK.ret hH hb hl ph S (fun _ => vOK.zero)
  | some r0 =>
    have er : r0 = r := by rw [hr, hkr]; rfl
    rw [er] at hkr
    obtain ⟨j', l1, hj, ej', ok, J, J'⟩ := P.step fm im hkr ej
    have kl := (List.getElem?_eq_some_iff.mp hkr).1
    obtain ⟨E, hE⟩ : ∃ E, E = EMx T t tr k0 f.1 := ⟨_, rfl⟩
    have E1 : E.1 = T := by rw [hE]; exact EMx_1.1
    have E2 : E.2.1 = t.1 := by rw [hE]; exact EMx_1.2
    rw [← hE] at hj
    rw [← hE]
    obtain ⟨G, hG⟩ : ∃ G, G = fdG ((osM rs z f.1).take k) [] := ⟨_, rfl⟩
    rw [← hG] at ok J
    obtain ⟨R, K, V⟩ := J
    have fin : ∀ (H' : HEAP) (f' : FRM) (seg' : List Int32) (sc' : SCL), sc'.2.2.2.2.1 = 1 → HOK T t.1 H' → bsH T t.1 H' H'.1 ≤ wm → FOK T t rs z tr k0 H' f' → f'.1 = f.1 → f'.2.2.2.2 = f.2.2.2.2 → TYS T t.1 H' seg' (jRS j') → HX H H' → AOK T t rs z tr k0 wm cm (H', f' :: fs, k + 1, seg' ++ rest, sc') := by
      intro H' f' seg' sc' q0 q1 q2 q3 q4 q5 q6 q7
      exact ⟨q1, q2, hl, fun _ => RUNOK.adv (f := f) (H := H) (by omega) ej' q3 q4 q5 q6 q7 S, fun h => absurd q0 h⟩
    have same : jRS j' = jRS j → aStep T t.1 E j (i0T t f.1) wm cm r (H, f :: fs, k + 1, st, sc) = (H, f :: fs, k + 1, st, sc) → AOK T t rs z tr k0 wm cm (aStep T t.1 E j (i0T t f.1) wm cm r (H, f :: fs, k + 1, st, sc)) := by
      intro e1 e2
      rw [e2, est']
      exact fin H f seg sc ph hH hb F rfl rfl (by rw [e1]; exact ty) HX.rf
    have push : ∀ (x : Nat) (v : Int32), jRS j' = x :: jRS j → vOK T t.1 H x v → AOK T t rs z tr k0 wm cm (aSt (H, f :: fs, k + 1, st, sc) (v :: st)) := by
      intro x v e1 e2
      show AOK T t rs z tr k0 wm cm (H, f :: fs, k + 1, v :: st, sc)
      rw [est']
      exact fin H f (v :: seg) sc ph hH hb F rfl rfl (by rw [e1]; exact ⟨e2, ty⟩) HX.rf
    have goto : ∀ x, x ≤ (osM rs z f.1).length → (∃ jx lx, jrun (EMx T t tr k0 f.1) ((osM rs z f.1).take x) (jmT T t.1 f.1) = some (jx, lx) ∧ jRS jx = []) → AOK T t rs z tr k0 wm cm (H, f :: fs, x, rest, sc) := by
      intro x hx ⟨jx, lx, x1, x2⟩
      refine ⟨hH, hb, hl, fun _ => ?_, fun h => absurd ph h⟩
      have := RUNOK.adv (f := f) (f' := f) (fs := fs) (H := H) (H' := H) (seg' := []) (rest := rest) (sc := sc) hx x1 F rfl rfl (by rw [x2]; trivial) HX.rf S
      exact this
    rcases ok with o | ⟨o, G', eG⟩ | ⟨o, G', eG⟩ | ⟨o, n, G', n6, ob, eG⟩ | ⟨o, n, i, w, G', eG, hi, n6, oa⟩ | ⟨o, n, G', n6, oa, eG⟩ | ⟨o, eG⟩ | ⟨o, eG⟩ | ⟨o, eG⟩ | ⟨o, eG⟩ | ⟨o, eG⟩ | ⟨o, eG⟩
    · rcases o with o | o | o | o | o
      · rw [as_3 o]
        rw [jr_3 o] at hj
        exact push 0 _ (by rw [← (Prod.mk.inj (Option.some.inj hj)).1]; rfl) trivial
      · rw [as_4 o]
        rw [jr_4 o] at hj
        exact push 1 _ (by rw [← (Prod.mk.inj (Option.some.inj hj)).1]; rfl) rfl
      · rw [as_5 o]
        rw [jr_5 o] at hj
        rcases F.1 with ⟨f1, _⟩ | ⟨f1, f2, f3, f4, f5⟩
        · have hn : E.2.2.2.2.1 = none := by rw [hE]; exact (EMx_main f1).1
          rw [hn] at hj
          cases hj
        · have n384 : ¬ f.1 = 384 := by omega
          have hn : E.2.2.2.2.1 = some (hmM t.1 f.1) := by rw [hE]; exact (EMx_m n384).1
          rw [hn] at hj
          dsimp only at hj
          refine push (own (nmL E.2.1) (hmM t.1 f.1) + 2) _ (by rw [← (Prod.mk.inj (Option.some.inj hj)).1]; rfl) (Or.inr ⟨f.2.1, f3, f4, rfl, ?_⟩)
          rw [E2, own_ck Ac.1 (PM f.1 f1).2.2]
          exact f5
      · rw [as_6 o]
        rw [jr_6 o] at hj
        cases hv : vsK j.2.2.1 r.2.2.2.2 with
        | none => rw [hv] at hj; cases hj
        | some e =>
          rw [hv] at hj
          dsimp only at hj
          obtain ⟨v1, v2, v3⟩ := V.1 e (List.mem_of_find?_eq_some hv)
          have ev : varJ r j = e.2.2.1 := by unfold varJ; rw [hv]
          refine push e.2.1 _ (by rw [← (Prod.mk.inj (Option.some.inj hj)).1]; rfl) ?_
          rw [ev, ← v1]
          exact F.2 _ v2
      · rw [as_7 o]
        rw [jr_7 o] at hj
        cases hv : kdE E r.2.2.1 with
        | none => rw [hv] at hj; cases hj
        | some kd =>
          rw [hv] at hj
          dsimp only at hj ⊢
          have hh : ∀ c, E.2.2.2.2.1 = some c → c < E.2.1.length := by
            intro c hc'
            by_cases n384 : f.1 = 384
            · rw [hE, (EMx_main n384).1] at hc'; cases hc'
            · rw [hE, (EMx_m n384).1] at hc'
              have : hmM t.1 f.1 = c := Option.some.inj hc'
              rw [E2, ← this]
              exact (PM f.1 (isMT_lt im n384).1).2.2
          have vk := kdE_c (N := N) (by rw [E1, E2]; exact Ac.1) hh hv
          rw [E2] at vk
          have ck := vk.cl Ac.1
          by_cases g : wm < bsH T t.1 H H.1 + szO T t.1 (cK kd)
          · rw [if_pos g]; exact AOK.fail hH hb
          · rw [if_neg g]
            have self : f.2.1 ≤ H.1 := by
              rcases F.1 with ⟨_, f1⟩ | ⟨_, _, _, f4, _⟩
              · omega
              · exact f4
            show AOK T t rs z tr k0 wm cm (addO H (cK kd) (fun i => hereO T t.1 H f.1 f.2.1 (oK kd i)), f :: fs, k + 1, nI (H.1 + 1) :: st, sc)
            rw [est']
            refine fin _ f (nI (H.1 + 1) :: seg) sc ph (hH.add ck (fun i => here_lt hH self)) ?_ (F.ext HX.add) rfl rfl ?_ HX.add
            · show bsH T t.1 (addO H (cK kd) (fun i => hereO T t.1 H f.1 f.2.1 (oK kd i))) H.1 + szO T t.1 (if H.1 + 1 = H.1 + 1 then (cK kd, (fun i => hereO T t.1 H f.1 f.2.1 (oK kd i)), fun _ => 0) else H.2 (H.1 + 1)).1 ≤ wm
              rw [if_pos rfl, bs_same (H := H) (fun o o1 o2 => HX.add.2 o o1 o2) H.1 (Nat.le_refl _)]
              show bsH T t.1 H H.1 + szO T t.1 (cK kd) ≤ wm
              omega
            · rw [← (Prod.mk.inj (Option.some.inj hj)).1]
              refine ⟨Or.inr ⟨H.1 + 1, by omega, Nat.le_refl _, rfl, ?_⟩, TYS.ext HX.add _ _ ty⟩
              show (vwT (nmL t.1) (abT T t.1) (if H.1 + 1 = H.1 + 1 then (cK kd, (fun i => hereO T t.1 H f.1 f.2.1 (oK kd i)), fun _ => 0) else H.2 (H.1 + 1)).1 (cK kd)).isSome = true
              rw [if_pos rfl]
              exact (vw_iff Ac ck).mpr ⟨0, rfl⟩
    · subst eG
      obtain ⟨t2, st1, rs1, q1, q2, t1, st2, rs2, q3, q4, R2⟩ := R
      rw [q2, q4] at ty
      obtain ⟨b, seg1, s1, y1, ty1⟩ := TYS.cons ty
      obtain ⟨a, seg2, s2, y2, ty2⟩ := TYS.cons ty1
      rw [jr_9 o, q1, q3] at hj
      dsimp only at hj
      rw [as_9 o, est', s1, s2]
      by_cases g : (if r.2.2.1 = 257 ∨ r.2.2.1 = 258 then (t1.1 = 0 ↔ t2.1 = 0) else (t1.1 = 0 ∧ t2.1 = 0))
      · rw [if_pos g] at hj
        have ers : jRS j' = 0 :: rs2 := by
          rw [← (Prod.mk.inj (Option.some.inj hj)).1]
          show 0 :: (jRS j).drop 2 = 0 :: rs2
          rw [q2, q4]
          rfl
        show AOK T t rs z tr k0 wm cm (match two2 r.2.2.1 a b with
          | none => aFail (H, f :: fs, k + 1, (b :: a :: seg2) ++ rest, sc) 2 r.2.1
          | some v => aSt (H, f :: fs, k + 1, (b :: a :: seg2) ++ rest, sc) (v :: (seg2 ++ rest)))
        cases two2 r.2.2.1 a b with
        | none => exact AOK.fail hH hb
        | some v => exact fin H f (v :: seg2) sc ph hH hb F rfl rfl (by rw [ers]; exact ⟨trivial, ty2⟩) HX.rf
      · rw [if_neg g] at hj; cases hj
    · subst eG
      obtain ⟨t1, st1, rs1, q1, q2, R1⟩ := R
      have tk : tOK t.1 t1.1 := K t1.1 (by rw [q2]; exact List.mem_cons_self)
      have ty0 := ty
      rw [q2] at ty
      obtain ⟨v, seg1, s1, y1, ty1⟩ := TYS.cons ty
      rcases o with o | o | o | o
      · rw [jr_8 o, q1] at hj
        dsimp only at hj
        by_cases g : t1.1 = 0
        · rw [if_pos g] at hj
          rw [as_8 o, est', s1]
          show AOK T t rs z tr k0 wm cm (H, f :: fs, k + 1, (-v :: seg1) ++ rest, sc)
          refine fin H f (-v :: seg1) sc ph hH hb F rfl rfl ?_ HX.rf
          rw [← (Prod.mk.inj (Option.some.inj hj)).1, q2, g]
          exact ⟨trivial, ty1⟩
        · rw [if_neg g] at hj; cases hj
      · rw [jr_10 o, q1] at hj
        dsimp only at hj
        cases hp : prtE E t1 r.2.2.2.2 false with
        | none => rw [hp] at hj; cases hj
        | some p =>
          rw [hp] at hj
          dsimp only at hj
          obtain ⟨kk, k1, k2, k3⟩ := prt_c hp (by rw [E2]; exact tk)
          rw [E2] at k2
          rw [E1, E2] at k3
          have esl : slotJ E r j = numM T t.1 p.1 := by
            unfold slotJ
            rw [q1]
            dsimp only
            rw [hp]
            dsimp only
            rw [E1, E2]
          obtain ⟨p1, p2, p3, p4, _⟩ := mem_in Ac k2 k3
          rw [as_10 o, est', s1, esl]
          show AOK T t rs z tr k0 wm cm (if v = 0 then aFail (H, f :: fs, k + 1, (v :: seg1) ++ rest, sc) 1 r.2.1 else (H, f :: fs, k + 1, ((H.2 (nN v)).2.2 (numM T t.1 p.1) :: seg1) ++ rest, sc))
          by_cases v0 : v = 0
          · rw [if_pos v0]; exact AOK.fail hH hb
          · rw [if_neg v0]
            rw [k1] at y1
            rcases y1 with y | ⟨o1, w1, w2, w3, w4⟩
            · exact absurd y v0
            · refine fin H f _ sc ph hH hb F rfl rfl ?_ HX.rf
              rw [← (Prod.mk.inj (Option.some.inj hj)).1]
              show TYS T t.1 H _ (sty (nmL E.2.1) (tyM E.1 E.2.1 p.1) p.2 :: (jRS j).drop 1)
              rw [q2, E1, E2]
              refine ⟨vOK.cls (x := tyM T t.1 p.1) ?_ (ct_sty Ac.1 (tyM_v Ac.1 p2)).symm, ty1⟩
              rw [w3, nN_nI (by omega)]
              exact (hH o1 w1 w2).2.2 p.1 p1 p4 (mem_vw Ac (hc o1 w1 w2) k2 w4 k3)
      · rw [jr_14 o, q1] at hj
        dsimp only at hj
        cases hv : kdE E r.2.2.1 with
        | none => rw [hv] at hj; cases hj
        | some kd =>
          rw [hv] at hj
          dsimp only at hj
          by_cases g0 : t1.1 = 0
          · rw [if_pos g0] at hj; cases hj
          · rw [if_neg g0] at hj
            rw [as_14 o, hv, est', s1]
            show AOK T t rs z tr k0 wm cm (if asO T t.1 H f.1 f.2.1 v kd = true then (H, f :: fs, k + 1, (v :: seg1) ++ rest, sc) else aFail (H, f :: fs, k + 1, (v :: seg1) ++ rest, sc) 3 r.2.1)
            by_cases ga : asO T t.1 H f.1 f.2.1 v kd = true
            · rw [if_pos ga]
              refine fin H f (v :: seg1) sc ph hH hb F rfl rfl ?_ HX.rf
              rw [← (Prod.mk.inj (Option.some.inj hj)).1]
              show TYS T t.1 H _ ((kd + 2) :: (jRS j).drop 1)
              rw [q2]
              refine ⟨?_, ty1⟩
              by_cases v0 : v = 0
              · exact Or.inl v0
              · have ob : ∃ o1, 1 ≤ o1 ∧ o1 ≤ H.1 ∧ v = nI o1 := by
                  obtain ⟨x1, al⟩ := t1
                  match x1, y1, g0 with
                  | 0, _, g0 => exact absurd rfl g0
                  | 1, y1, _ => exact absurd y1 v0
                  | kk + 2, y1, _ =>
                    rcases y1 with y | ⟨o1, w1, w2, w3, _⟩
                    · exact absurd y v0
                    · exact ⟨o1, w1, w2, w3⟩
                obtain ⟨o1, w1, w2, w3⟩ := ob
                refine Or.inr ⟨o1, w1, w2, w3, ?_⟩
                unfold asO at ga
                rw [decide_eq_false v0, Bool.false_or, Bool.and_eq_true] at ga
                have g1 := ga.1
                rw [w3, nN_nI (by omega)] at g1
                exact g1
            · rw [if_neg ga]; exact AOK.fail hH hb
      · rw [jr_30 o, q1] at hj
        exact same (by rw [← (Prod.mk.inj (Option.some.inj hj)).1]; rfl) (as_n (by rw [o]; decide))
    · subst eG
      obtain ⟨t1, st1, rs1, q1, q2, R1⟩ := R
      rw [jr_11 o, q1] at hj
      dsimp only at hj
      cases hp : prtE E t1 r.2.2.2.2 true with
      | none => rw [hp] at hj; cases hj
      | some p =>
        rw [hp] at hj
        dsimp only at hj
        by_cases g : nI (psM E.2.1 p.1).length = r.2.2.2.1
        · rw [if_pos g] at hj
          exact same (by rw [← (Prod.mk.inj (Option.some.inj hj)).1]; rfl) (as_n (by rw [o]; decide))
        · rw [if_neg g] at hj; cases hj
    · subst eG
      obtain ⟨t1, st1, rs1, q1, q2, p, pd1, as, x, rs2, q3, q4, _, R2⟩ := R
      rw [jr_12 o, q1, q3] at hj
      dsimp only at hj
      by_cases g : fitT E.1 E.2.1 t1.1 (sty (nmL E.2.1) (pyT E.1 E.2.1 p.1 r.2.2.1.toNatClampNeg) p.2) = true
      · rw [if_pos g] at hj
        exact same (by rw [← (Prod.mk.inj (Option.some.inj hj)).1]; rfl) (as_n (by rw [o]; decide))
      · rw [if_neg g] at hj; cases hj
    · subst eG
      obtain ⟨p, pd1, as, x, rs1, q3, q4, ⟨kx, c1, c2, c3, c4, c5⟩, R1⟩ := R
      have ty0 := ty
      rw [q4] at ty
      obtain ⟨us, ws, s1, tyu, tyw⟩ := TYS.app ty
      obtain ⟨ov, ws', s2, yo, tyw'⟩ := TYS.cons tyw
      have ul : us.length = n := (TYS.len _ _ tyu).trans c4
      have xk : tOK t.1 x := K x (by rw [q4]; exact List.mem_append_right _ List.mem_cons_self)
      rw [c1] at xk yo
      have kxl := tOK.k xk
      obtain ⟨p1, p2, p3, p4, _⟩ := mem_in Ac kxl c2
      rw [jr_13 o, q3] at hj
      dsimp only at hj
      have ers : jRS j' = sty (nmL t.1) (tyM T t.1 p.1) p.2 :: rs1 := by
        rw [← (Prod.mk.inj (Option.some.inj hj)).1]
        show sty (nmL E.2.1) (tyM E.1 E.2.1 p.1) p.2 :: (jRS j).drop ((psM E.2.1 p.1).length + 1) = _
        have ed : (jRS j).drop ((psM E.2.1 p.1).length + 1) = rs1 := by
          rw [E2, q4, c3, ← c4, ← List.drop_drop, List.drop_left']
          · rfl
          · rfl
        rw [ed, E1, E2]
      have st' : st = us ++ (ov :: (ws' ++ rest)) := by rw [est', s1, s2, List.append_assoc]; rfl
      have hs : st[n]?.getD 0 = ov := by
        rw [st', List.getElem?_append_right (by omega), ul, Nat.sub_self]
        rfl
      have hd : st.drop (n + 1) = ws' ++ rest := by
        rw [st', ← List.drop_drop, List.drop_left' ul]
        rfl
      have en : nN r.2.2.1 = n := by rw [oa, nN_nI (by omega)]
      have ep : (j.2.1.headD (0, 0)).1 = p.1 := by rw [q3]; rfl
      rw [as_13 o, en, ep, aCall_eq, hs]
      by_cases o0 : ov = 0
      · rw [if_pos o0]; exact AOK.fail hH hb
      rw [if_neg o0]
      by_cases lc : (f :: fs).length = cm
      · rw [if_pos lc]; exact AOK.fail hH hb
      rw [if_neg lc]
      rcases yo with y | ⟨o1, w1, w2, w3, w4⟩
      · exact absurd y o0
      have on : nN ov = o1 := by rw [w3, nN_nI (by omega)]
      obtain ⟨i, hi⟩ := (vw_iff Ac (hc o1 w1 w2)).mp w4
      obtain ⟨d, d1, sm1, sm2, sm3⟩ := dyn_m Ac (fun m hm => (PM m hm).1) i _ (hc o1 w1 w2) hi c2
      obtain ⟨g1, g2, g3, g4, g5⟩ := mem_in Ac (hc o1 w1 w2) d1
      rw [on, p3, d1]
      dsimp only
      have d384 : ¬ d = 384 := by omega
      refine ⟨hH, hb, ?_, fun _ => ⟨_, f :: fs, rfl, ⟨Or.inr ⟨g1, g4, w1, w2, g5⟩, fun v hv => ?_⟩, Nat.zero_le _, jmT T t.1 d, [], [], st.drop (n + 1), rfl, trivial, rfl, ?_⟩, fun h => absurd ph h⟩
      · have hl' : (f :: fs).length ≤ cm := hl
        show (f :: fs).length + 1 ≤ cm
        omega
      · show vOK T t.1 H (vtM T t.1 (EMx T t tr k0 d) (osM rs z d) d v) (if v < n then st[n - 1 - v]?.getD 0 else 0)
        by_cases vn : v < n
        · rw [if_pos vn]
          obtain ⟨y, zz, y1, y2, y3⟩ := c5 v vn
          obtain ⟨uv, u1, u2⟩ := TYS.at tyu y1
          have yk : tOK t.1 y := K y (by rw [q4]; exact List.mem_append_left _ (List.mem_of_getElem? y1))
          have es : st[n - 1 - v]?.getD 0 = uv := by
            rw [st', List.getElem?_append_left (by omega), u1]
            rfl
          rw [es]
          have np : npT t.1 d = n := by
            unfold npT
            rw [if_neg d384, sm2, c3]
          unfold vtM
          rw [if_pos (by omega)]
          exact ((u2.fit Ac hc yk y2).cls y3).cls (sm3 v (by omega)).symm
        · rw [if_neg vn]; exact vOK.zero
      · refine ⟨g1, F, (by show k + 1 ≤ _; omega), j', l ++ l1, _, rs1, ws', rest, ej', ers, ?_, tyw', hd, S⟩
        rw [ct_sty Ac.1 (tyM_v Ac.1 p2)]
        exact sm1.symm
    · rw [jr_15 o] at hj
      cases hv : vsK j.2.2.1 r.2.2.2.2 with
      | none => rw [hv] at hj; cases hj
      | some e =>
        rw [hv] at hj
        exact same (by rw [← (Prod.mk.inj (Option.some.inj hj)).1]; rfl) (as_n (by rw [o]; decide))
    · subst eG
      obtain ⟨t1, st1, rs1, q1, q2, _⟩ := R
      rw [jr_16 o, q1] at hj
      dsimp only at hj
      cases hp : prtE E t1 r.2.2.2.2 false with
      | none => rw [hp] at hj; cases hj
      | some p =>
        rw [hp] at hj
        exact same (by rw [← (Prod.mk.inj (Option.some.inj hj)).1]; rfl) (as_n (by rw [o]; decide))
    · subst eG
      obtain ⟨t2, st1, rs1, q1, q2, t1, st2, q3, ⟨vl, lf16⟩, r1, r2, r3⟩ := R
      have tk : tOK t.1 t2.1 := K t2.1 (by rw [q2]; exact List.mem_cons_self)
      rw [q2, r3] at ty
      obtain ⟨v, seg1, s1, y1, ty1⟩ := TYS.cons ty
      rw [jr_17 o, q1, q3] at hj
      dsimp only at hj
      by_cases g : fitT E.1 E.2.1 t2.1 t1.1 = true
      · rw [if_pos g] at hj
        have ers : jRS j' = [] := by
          rw [← (Prod.mk.inj (Option.some.inj hj)).1]
          show (jRS j).drop 1 = []
          rw [q2, r3]
          rfl
        rw [E1, E2] at g
        rw [as_17 o, est', s1, TYS.nil ty1]
        show AOK T t rs z tr k0 wm cm (H, setV f j.2.2.2.2.2.2.1 v :: fs, k + 1, [] ++ rest, sc)
        refine fin H _ [] sc ph hH hb ⟨F.1, fun u hu => ?_⟩ rfl rfl (by rw [ers]; trivial) HX.rf
        show vOK T t.1 H (vtX T t rs z tr k0 f.1 u) (if u = j.2.2.2.2.2.2.1 then v else f.2.2.2.1 u)
        by_cases e : u = j.2.2.2.2.2.2.1
        · rw [if_pos e, e, vl]; exact y1.fit Ac hc tk g
        · rw [if_neg e]; exact F.2 u hu
      · rw [if_neg g] at hj; cases hj
    · subst eG
      obtain ⟨t2, st1, rs1, q1, q2, t1, st2, x, rs2, q3, q4, ⟨kx, fm2, w, c1, c2, c3, c4⟩, r1, r2, r3⟩ := R
      have tk : tOK t.1 t2.1 := K t2.1 (by rw [q2]; exact List.mem_cons_self)
      have xk : tOK t.1 x := K x (by rw [q2, q4]; exact List.mem_cons_of_mem _ List.mem_cons_self)
      rw [q2, q4, r3] at ty
      obtain ⟨v, seg1, s1, y1, ty1⟩ := TYS.cons ty
      obtain ⟨ov, seg2, s2, y2, ty2⟩ := TYS.cons ty1
      rw [c1] at xk y2
      have kxl := tOK.k xk
      obtain ⟨p1, p2, p3, p4, _⟩ := mem_in Ac kxl c2
      rw [jr_18 o, q1, q3] at hj
      dsimp only at hj
      by_cases g : fitT E.1 E.2.1 t2.1 t1.1 = true
      · rw [if_pos g] at hj
        have ers : jRS j' = [] := by
          rw [← (Prod.mk.inj (Option.some.inj hj)).1]
          show (jRS j).drop 2 = []
          rw [q2, q4, r3]
          rfl
        rw [E1, E2] at g
        rw [as_18 o, est', s1, s2, TYS.nil ty2]
        show AOK T t rs z tr k0 wm cm (if ov = 0 then aFail (H, f :: fs, k + 1, [v, ov] ++ rest, sc) 1 r.2.2.2.1 else (setF H (nN ov) j.2.2.2.2.2.2.1 v, f :: fs, k + 1, [] ++ rest, sc))
        by_cases o0 : ov = 0
        · rw [if_pos o0]; exact AOK.fail hH hb
        · rw [if_neg o0]
          rcases y2 with y | ⟨o1, w1, w2, w3, w4⟩
          · exact absurd y o0
          · rw [w3, nN_nI (by omega), c3]
            refine fin _ f [] sc ph (hH.set Ac (fun m hm => (PM m hm).2.2) w1 w2 p1 p4 (mem_vw Ac (hc o1 w1 w2) kxl w4 c2) ((y1.fit Ac hc tk g).cls c4)) ?_ (F.ext HX.set) rfl rfl (by rw [ers]; trivial) HX.set
            have : bsH T t.1 (setF H o1 (numM T t.1 fm2) v) H.1 = bsH T t.1 H H.1 := bs_same (H := H) (fun o o1 o2 => HX.set.2 o o1 o2) H.1 (Nat.le_refl _)
            show bsH T t.1 (setF H o1 (numM T t.1 fm2) v) H.1 ≤ wm
            rw [this]
            exact hb
      · rw [if_neg g] at hj; cases hj
    · subst eG
      obtain ⟨t1, st1, rs1, q1, q2, r1, r2, r3⟩ := R
      have tk : tOK t.1 t1.1 := K t1.1 (by rw [q2]; exact List.mem_cons_self)
      rw [q2, r3] at ty
      obtain ⟨v, seg1, s1, y1, ty1⟩ := TYS.cons ty
      have est2 : st = v :: rest := by rw [est', s1, TYS.nil ty1]; rfl
      have ed : (jRS j).drop 1 = [] := by rw [q2, r3]; rfl
      rcases o with o | o | o | o | o
      · rw [jr_20 o, q1] at hj
        dsimp only at hj
        by_cases g : fitT E.1 E.2.1 t1.1 j.2.2.2.2.2.1.2 = true
        · rw [if_pos g] at hj
          have ejp := (Prod.mk.inj (Option.some.inj hj)).1
          have ers : jRS j' = [] := by rw [← ejp]; exact ed
          have vv := J'.2.2.1 (j.2.2.2.2.2.1.1, j.2.2.2.2.2.1.2, j.2.2.2.1, j.2.2.2.2.1) (by rw [← ejp]; exact List.mem_append_right _ (List.mem_singleton.mpr rfl))
          rw [E1, E2] at g
          rw [as_20 o, est2]
          show AOK T t rs z tr k0 wm cm (H, setV f j.2.2.2.1 v :: fs, k + 1, [] ++ rest, sc)
          refine fin H _ [] sc ph hH hb ⟨F.1, fun u hu => ?_⟩ rfl rfl (by rw [ers]; trivial) HX.rf
          show vOK T t.1 H (vtX T t rs z tr k0 f.1 u) (if u = j.2.2.2.1 then v else f.2.2.2.1 u)
          by_cases e : u = j.2.2.2.1
          · rw [if_pos e, e, show vtX T t rs z tr k0 f.1 j.2.2.2.1 = j.2.2.2.2.2.1.2 from vv.1]; exact y1.fit Ac hc tk g
          · rw [if_neg e]; exact F.2 u hu
        · rw [if_neg g] at hj; cases hj
      · rw [jr_21 o, q1] at hj
        dsimp only at hj
        by_cases g : t1.1 = 0
        · rw [if_pos g] at hj
          have ers : jRS j' = [] := by rw [← (Prod.mk.inj (Option.some.inj hj)).1]; exact ed
          obtain ⟨x, x1, x2, x3, x4, _⟩ := P.jump fm im hkr (Or.inl o)
          rw [as_21 o, est2]
          show AOK T t rs z tr k0 wm cm (aSt (if v = 0 then aKs (H, f :: fs, k + 1, v :: rest, sc) (nN r.2.2.1 - i0T t f.1) else (H, f :: fs, k + 1, v :: rest, sc)) rest)
          by_cases v0 : v = 0
          · rw [if_pos v0, x3]
            exact goto x x1 x4
          · rw [if_neg v0]
            exact fin H f [] sc ph hH hb F rfl rfl (by rw [ers]; trivial) HX.rf
        · rw [if_neg g] at hj; cases hj
      · rw [jr_24 o, q1] at hj
        dsimp only at hj
        by_cases g : t1.1 = 0
        · rw [if_pos g] at hj
          have ers : jRS j' = [] := by rw [← (Prod.mk.inj (Option.some.inj hj)).1]; exact ed
          rw [as_24 o, est2]
          exact fin H f [] _ ph hH hb F rfl rfl (by rw [ers]; trivial) HX.rf
        · rw [if_neg g] at hj; cases hj
      · rw [jr_25 o, q1] at hj
        have ers : jRS j' = [] := by rw [← (Prod.mk.inj (Option.some.inj hj)).1]; exact ed
        rw [as_25 o, est2]
        exact fin H f [] sc ph hH hb F rfl rfl (by rw [ers]; trivial) HX.rf
      · rw [jr_28 o.1, q1] at hj
        dsimp only at hj
        by_cases g : fitT E.1 E.2.1 t1.1 E.2.2.2.2.2.1 = true
        · rw [if_pos g] at hj
          rw [E1, E2] at g
          rw [as_28 o.1, if_pos o.2, est2]
          refine AOK.ret (rest := rest) hH hb hl ph S (fun hm => ?_)
          have n384 : ¬ f.1 = 384 := by omega
          have er2 : E.2.2.2.2.2.1 = tyM T t.1 f.1 := by rw [hE]; exact (EMx_m n384).2
          rw [er2] at g
          exact y1.fit Ac hc tk g
        · rw [if_neg g] at hj; cases hj
    · subst eG
      rcases o with o | o | o | o | o | o | o
      · rw [jr_1 o] at hj
        have ers : jRS j' = jRS j := by rw [← (Prod.mk.inj (Option.some.inj hj)).1]
        rw [as_1 o, est']
        exact fin H _ seg sc ph hH hb ⟨F.1, F.2⟩ rfl rfl (by rw [ers]; exact ty) HX.rf
      · rw [jr_2 o] at hj
        exact same (by rw [← (Prod.mk.inj (Option.some.inj hj)).1]) (as_n (by rw [o]; decide))
      · rw [jr_19 o] at hj
        cases ht : tyE E r.2.2.1 with
        | none => rw [ht] at hj; cases hj
        | some x =>
          rw [ht] at hj
          dsimp only at hj
          by_cases g : vsK j.2.2.1 r.2.2.2.2 = none
          · rw [if_pos g] at hj
            exact same (by rw [← (Prod.mk.inj (Option.some.inj hj)).1]; rfl) (as_n (by rw [o]; decide))
          · rw [if_neg g] at hj; cases hj
      · obtain ⟨x, x1, x2, x3, x4, _⟩ := P.jump fm im hkr (Or.inr (Or.inl o))
        obtain ⟨r1, r2, r3⟩ := R
        rw [r3] at ty
        rw [as_22 (Or.inl o), est', TYS.nil ty, x3]
        exact goto x x1 x4
      · obtain ⟨x, x1, x2, x3, x4, _⟩ := P.jump fm im hkr (Or.inr (Or.inr o))
        obtain ⟨r1, r2, r3⟩ := R
        rw [r3] at ty
        rw [as_22 (Or.inr o), est', TYS.nil ty, x3]
        exact goto x x1 x4
      · rw [jr_26 o] at hj
        exact same (by rw [← (Prod.mk.inj (Option.some.inj hj)).1]; rfl) (as_n (by rw [o]; decide))
      · rw [jr_27 o] at hj
        exact same (by rw [← (Prod.mk.inj (Option.some.inj hj)).1]; rfl) (as_n (by rw [o]; decide))
end MJB32
end
section
/-! ===== the reference's RUN: its rows against the pure one ===== -/
/-- the CALLS; the values -/
def FRr (b : Nat) (t : PT) (s : mjSt3) : List FRM → Prop
  | [] => True
  | f :: fs => (s.1 171 fs.length = mR b (moM f.1) ∧ s.1 172 fs.length = nI f.2.1 ∧ s.1 173 fs.length = f.2.2.1 ∧ (∀ v, v < 16 → s.1 175 (16 * fs.length + v) = f.2.2.2.1 v) ∧ ∀ g gs, fs = g :: gs → s.1 174 fs.length = nI (i0T t g.1 + f.2.2.2.2)) ∧ FRr b t s fs
def STr (s : mjSt3) : List Int32 → Prop
  | [] => True
  | v :: st => s.1 176 st.length = v ∧ STr s st
/-- where OBJECT o's OWNERS begin -/
def frO (T : TT) (L : List CD) (H : HEAP) (o : Nat) : Nat := bsH T L H (o - 1) - 2 * (o - 1)
def HPr (T : TT) (L : List CD) (b : Nat) (H : HEAP) (s : mjSt3) : Prop := ∀ o, 1 ≤ o → o ≤ H.1 → s.1 169 o = nI (16 * b + (H.2 o).1) ∧ s.1 170 o = nI (frO T L H o) ∧ (∀ i, i < nmL L (H.2 o).1 → s.1 168 (frO T L H o + i) = nI ((H.2 o).2.1 i)) ∧ ∀ i, i < fldT T L (H.2 o).1 → s.1 168 (frO T L H o + nmL L (H.2 o).1 + i) = (H.2 o).2.2 i
def SCr (T : TT) (L : List CD) (wm cm : Nat) (A : AMS) (s : mjSt3) : Prop := (s.1 97 96 = nI A.2.2.2.2.2.2.2.2.1 ∧ s.1 97 97 = A.2.2.2.2.2.2.2.2.2.1 ∧ s.1 97 98 = A.2.2.2.2.2.2.2.2.2.2.1 ∧ s.1 97 99 = A.2.2.2.2.2.2.2.2.2.2.2) ∧ (s.1 97 100 = nI A.2.2.2.2.2.2.2.1 ∧ s.1 97 105 = nI A.2.2.2.2.1 ∧ s.1 97 106 = nI A.2.2.2.2.2.1) ∧ (s.1 97 102 = nI (bsH T L A.1 A.1.1) ∧ s.1 97 103 = nI A.1.1 ∧ s.1 97 116 = nI A.2.1.length) ∧ (s.1 97 101 = nI wm ∧ s.1 97 104 = nI cm) ∧ ∀ i, i < 200 → i < A.2.2.2.2.2.1 → s.1 167 i = A.2.2.2.2.2.2.1 i
def MRn (T : TT) (t : PT) (b wm cm : Nat) (A : AMS) (s : mjSt3) : Prop := SCr T t.1 wm cm A s ∧ HPr T t.1 b A.1 s ∧ FRr b t s A.2.1 ∧ ∀ f fs, A.2.1 = f :: fs → s.1 97 119 = nI (i0T t f.1 + A.2.2.1) ∧ s.1 97 118 = nI A.2.2.2.1.length ∧ STr s A.2.2.2.1
/-- all that a RUN changes -/
def chRn (h j : Nat) : Prop := (h = 97 ∧ (j = 95 ∨ (96 ≤ j ∧ j ≤ 106) ∨ j = 116 ∨ j = 118 ∨ j = 119)) ∨ h = 165 ∨ h = 166 ∨ (167 ≤ h ∧ h ≤ 176) ∨ h = 185
def oRn : mjSt3 → mjSt3 → Prop := offG chRn (fun _ _ => False)
section MJB33
variable {T : TT} {N b wm cm k n d : Nat} {L : List CD} {t : PT} {H : HEAP} {f : FRM} {fs : List FRM} {st : List Int32} {sc : SCL} {s s' : mjSt3} {A : AMS} {v : Int32}
theorem FRr.keep (e : ∀ h, 171 ≤ h ∧ h ≤ 175 → s'.1 h = s.1 h) : ∀ (fs : List FRM), FRr b t s fs → FRr b t s' fs
  | [], _ => trivial
  | f :: fs, ⟨⟨a1, a2, a3, a4, a5⟩, a6⟩ => ⟨⟨by rw [e 171 (by omega)]; exact a1, by rw [e 172 (by omega)]; exact a2, by rw [e 173 (by omega)]; exact a3, fun v hv => by rw [e 175 (by omega)]; exact a4 v hv, fun g gs h => by rw [e 174 (by omega)]; exact a5 g gs h⟩, FRr.keep e fs a6⟩
/-- the CALLS below a number -/
theorem FRr.low (e : ∀ h j, 171 ≤ h ∧ h ≤ 174 → j < n → s'.1 h j = s.1 h j) (e5 : ∀ j, j < 16 * n → s'.1 175 j = s.1 175 j) : ∀ (fs : List FRM), fs.length ≤ n → FRr b t s fs → FRr b t s' fs
  | [], _, _ => trivial
  | f :: fs, hl, ⟨⟨a1, a2, a3, a4, a5⟩, a6⟩ => by
    have hl' : fs.length + 1 ≤ n := hl
    exact ⟨⟨by rw [e 171 _ (by omega) (by omega)]; exact a1, by rw [e 172 _ (by omega) (by omega)]; exact a2, by rw [e 173 _ (by omega) (by omega)]; exact a3, fun v hv => by rw [e5 _ (by omega)]; exact a4 v hv, fun g gs h => by rw [e 174 _ (by omega) (by omega)]; exact a5 g gs h⟩, FRr.low e e5 fs (by omega) a6⟩
theorem STr.low : ∀ (st : List Int32), (∀ j, j < st.length → s'.1 176 j = s.1 176 j) → STr s st → STr s' st
  | [], _, _ => trivial
  | v :: st, e, h => ⟨by rw [e _ (Nat.lt_succ_self _)]; exact h.1, STr.low st (fun j hj => e j (Nat.lt_succ_of_lt hj)) h.2⟩
theorem STr.at : ∀ (st : List Int32) (i : Nat), STr s st → i < st.length → s.1 176 (st.length - 1 - i) = st[i]?.getD 0
  | [], i, _, h => by cases h
  | v :: st, 0, h, _ => by
    show s.1 176 (st.length + 1 - 1 - 0) = v
    rw [show st.length + 1 - 1 - 0 = st.length by omega]
    exact h.1
  | v :: st, i + 1, h, hi => by
    have hi' : i < st.length := Nat.lt_of_succ_lt_succ hi
    have := STr.at st i h.2 hi'
    show s.1 176 (st.length + 1 - 1 - (i + 1)) = st[i]?.getD 0
    rw [show st.length + 1 - 1 - (i + 1) = st.length - 1 - i by omega]
    exact this
theorem STr.drop : ∀ (st : List Int32) (i : Nat), STr s st → STr s (st.drop i)
  | st, 0, h => h
  | [], i + 1, h => h
  | v :: st, i + 1, h => STr.drop st i h.2
theorem HPr.keep (h : HPr T L b H s) (e : ∀ x, 168 ≤ x ∧ x ≤ 170 → s'.1 x = s.1 x) : HPr T L b H s' := by
  intro o o1 o2
  obtain ⟨a1, a2, a3, a4⟩ := h o o1 o2
  exact ⟨by rw [e 169 (by omega)]; exact a1, by rw [e 170 (by omega)]; exact a2, fun i hi => by rw [e 168 (by omega)]; exact a3 i hi, fun i hi => by rw [e 168 (by omega)]; exact a4 i hi⟩
/-- the values changed, nothing else -/
theorem MRn.vals (M : MRn T t b wm cm (H, f :: fs, k, st, sc) s) (e97 : ∀ j, ¬ (j = 118 ∨ j = 95) → s'.1 97 j = s.1 97 j) (er : ∀ h, 167 ≤ h ∧ h ≤ 175 → s'.1 h = s.1 h) {st' : List Int32} (h8 : s'.1 97 118 = nI st'.length) (hS : STr s' st') : MRn T t b wm cm (H, f :: fs, k, st', sc) s' := by
  obtain ⟨⟨⟨a1, a2, a3, a4⟩, ⟨a5, a6, a7⟩, ⟨a8, a9, a10⟩, ⟨a11, a12⟩, a13⟩, hH, hF, hT⟩ := M
  refine ⟨⟨⟨by rw [e97 96 (by omega)]; exact a1, by rw [e97 97 (by omega)]; exact a2, by rw [e97 98 (by omega)]; exact a3, by rw [e97 99 (by omega)]; exact a4⟩, ⟨by rw [e97 100 (by omega)]; exact a5, by rw [e97 105 (by omega)]; exact a6, by rw [e97 106 (by omega)]; exact a7⟩, ⟨by rw [e97 102 (by omega)]; exact a8, by rw [e97 103 (by omega)]; exact a9, by rw [e97 116 (by omega)]; exact a10⟩, ⟨by rw [e97 101 (by omega)]; exact a11, by rw [e97 104 (by omega)]; exact a12⟩, fun i h1 h2 => by rw [er 167 (by omega)]; exact a13 i h1 h2⟩, hH.keep (fun x hx => er x (by omega)), FRr.keep (fun x hx => er x (by omega)) _ hF, fun g gs hg => ⟨?_, h8, hS⟩⟩
  rw [e97 119 (by omega)]
  exact (hT g gs hg).1
/-- push -/
theorem x_232 (M : MRn T t b wm cm (H, f :: fs, k, st, sc) s) (hl : st.length < 8000) (v : Int32) : ∃ s', mjF (d + 1) 232 [.ref 97, .int v] (mjW0 s) = some (none, mjW0 s') ∧ oRn s s' ∧ MRn T t b wm cm (H, f :: fs, k, v :: st, sc) s' := by
  obtain ⟨h9, h8, hS⟩ := M.2.2.2 f fs rfl
  have h8' : s.1 97 118 = nI st.length := h8
  obtain ⟨z1, g1⟩ : ∃ y, y = uI s 176 (upd (s.1 176) st.length v) := ⟨_, rfl⟩
  obtain ⟨z2, g2⟩ : ∃ y, y = uI z1 97 (upd (z1.1 97) 118 (nI (st.length + 1))) := ⟨_, rfl⟩
  have r1 : ∀ h, ¬ h = 176 → z1.1 h = s.1 h := fun h e => by rw [g1]; exact uI_ne _ _ _ _ e
  have r2 : ∀ h, ¬ h = 97 → z2.1 h = z1.1 h := fun h e => by rw [g2]; exact uI_ne _ _ _ _ e
  have v97 : ∀ j, z2.1 97 j = if j = 118 then nI (st.length + 1) else s.1 97 j := fun j => by rw [g2, uI_same, upd_g, r1 97 (by decide)]
  have v176 : ∀ j, z2.1 176 j = if j = st.length then v else s.1 176 j := fun j => by rw [r2 176 (by decide), g1, uI_same, upd_g]
  refine ⟨z2, ?_, offG.tr (b := z1) (by rw [g1]; exact offG.w (by unfold chRn; omega)) (by rw [g2]; exact offG.w (by unfold chRn; omega)), M.vals (fun j hj => by rw [v97, if_neg (by omega)]) (fun h hh => by rw [r2 h (by omega), r1 h (by omega)]) (by rw [v97, if_pos rfl]; rfl) ⟨by rw [v176, if_pos rfl], STr.low st (fun j hj => by rw [v176, if_neg (by omega)]) hS⟩⟩
  rw [e_232]
  unfold f_232 b_232_0
  rw [xg_97_117, xg_97_118, h8', ws_176 hl, ← g1, xg_97_118, r1 97 (by decide), h8', xp_97_118, nI_1, ← g2]
/-- pop -/
theorem x_238 (M : MRn T t b wm cm (H, f :: fs, k, v :: st, sc) s) (hl : st.length < 8000) : ∃ s', mjF (d + 1) 238 [.ref 97] (mjW0 s) = some (some (.int v), mjW0 s') ∧ oRn s s' ∧ MRn T t b wm cm (H, f :: fs, k, st, sc) s' := by
  obtain ⟨h9, h8, hS⟩ := M.2.2.2 f fs rfl
  have h8' : s.1 97 118 = nI (st.length + 1) := h8
  have hS' : s.1 176 st.length = v ∧ STr s st := hS
  obtain ⟨z1, g1⟩ : ∃ y, y = uI s 97 (upd (s.1 97) 118 (nI st.length)) := ⟨_, rfl⟩
  have r1 : ∀ h, ¬ h = 97 → z1.1 h = s.1 h := fun h e => by rw [g1]; exact uI_ne _ _ _ _ e
  have v97 : ∀ j, z1.1 97 j = if j = 118 then nI st.length else s.1 97 j := fun j => by rw [g1, uI_same, upd_g]
  refine ⟨z1, ?_, by rw [g1]; exact offG.w (by unfold chRn; omega), M.vals (fun j hj => by rw [v97, if_neg (by omega)]) (fun h hh => by rw [r1 h (by omega)]) (by rw [v97, if_pos rfl]) (STr.low st (fun j hj => by rw [r1 176 (by decide)]) hS'.2)⟩
  rw [e_238]
  unfold f_238 b_238_0
  rw [xg_97_118, h8', show nI (st.length + 1) - 1 = nI st.length from nI_pred st.length, xp_97_118, ← g1, xg_97_117, xg_97_118, v97, if_pos rfl, wa_176 hl, r1 176 (by decide), hS'.1]
/-- a TROUBLE ends the RUN -/
theorem x_234 (M : MRn T t b wm cm (H, f :: fs, k, st, sc) s) (x p : Int32) : ∃ s', mjF (d + 1) 234 [.ref 97, .int x, .int p] (mjW0 s) = some (none, mjW0 s') ∧ oRn s s' ∧ MRn T t b wm cm (aFail (H, f :: fs, k, st, sc) x p) s' := by
  obtain ⟨z1, g1⟩ : ∃ y, y = uI s 97 (upd (s.1 97) 96 3) := ⟨_, rfl⟩
  obtain ⟨z2, g2⟩ : ∃ y, y = uI z1 97 (upd (z1.1 97) 98 x) := ⟨_, rfl⟩
  obtain ⟨z3, g3⟩ : ∃ y, y = uI z2 97 (upd (z2.1 97) 99 p) := ⟨_, rfl⟩
  obtain ⟨z4, g4⟩ : ∃ y, y = uI z3 97 (upd (z3.1 97) 116 0) := ⟨_, rfl⟩
  have rr : ∀ h, ¬ h = 97 → z4.1 h = s.1 h := fun h e => by rw [g4, uI_ne _ _ _ _ e, g3, uI_ne _ _ _ _ e, g2, uI_ne _ _ _ _ e, g1, uI_ne _ _ _ _ e]
  have v97 : ∀ j, z4.1 97 j = if j = 116 then 0 else if j = 99 then p else if j = 98 then x else if j = 96 then 3 else s.1 97 j := fun j => by rw [g4, uI_same, upd_g, g3, uI_same, upd_g, g2, uI_same, upd_g, g1, uI_same, upd_g]
  obtain ⟨⟨⟨a1, a2, a3, a4⟩, ⟨a5, a6, a7⟩, ⟨a8, a9, a10⟩, ⟨a11, a12⟩, a13⟩, hH, hF, hT⟩ := M
  have n : ∀ j, ¬ (j = 116 ∨ j = 99 ∨ j = 98 ∨ j = 96) → z4.1 97 j = s.1 97 j := fun j hj => by rw [v97, if_neg (by omega), if_neg (by omega), if_neg (by omega), if_neg (by omega)]
  refine ⟨z4, ?_, offG.tr (b := z1) (by rw [g1]; exact offG.w (by unfold chRn; omega)) (offG.tr (b := z2) (by rw [g2]; exact offG.w (by unfold chRn; omega)) (offG.tr (b := z3) (by rw [g3]; exact offG.w (by unfold chRn; omega)) (by rw [g4]; exact offG.w (by unfold chRn; omega)))), ⟨⟨by rw [v97, if_neg (by decide), if_neg (by decide), if_neg (by decide), if_pos rfl]; rfl, by rw [n 97 (by omega)]; exact a2, by rw [v97, if_neg (by decide), if_neg (by decide), if_pos rfl]; rfl, by rw [v97, if_neg (by decide), if_pos rfl]; rfl⟩, ⟨by rw [n 100 (by omega)]; exact a5, by rw [n 105 (by omega)]; exact a6, by rw [n 106 (by omega)]; exact a7⟩, ⟨by rw [n 102 (by omega)]; exact a8, by rw [n 103 (by omega)]; exact a9, by rw [v97, if_pos rfl]; rfl⟩, ⟨by rw [n 101 (by omega)]; exact a11, by rw [n 104 (by omega)]; exact a12⟩, fun i h1 h2 => by rw [rr 167 (by decide)]; exact a13 i h1 h2⟩, hH.keep (fun y hy => rr y (by omega)), trivial, fun g gs hg => by cases hg⟩
  rw [e_234]
  unfold f_234 b_234_0
  rw [xp_97_96, ← g1, xp_97_98, ← g2, xp_97_99, ← g3, xp_97_116, ← g4]
end MJB33
end
section
/-! ===== the reference's act: orders that make no OBJECT and call none ===== -/
def gAct (T : TT) (t : PT) (b wm cm : Nat) (A : AMS) (s : mjSt3) (u : mjU) : Prop := ∃ s', u = some (none, mjW0 s') ∧ oRn s s' ∧ MRn T t b wm cm A s'
/-- an order as it was judged -/
def RwJ (E : EV) (b i : Nat) (r : Row) (j : JS) (s : mjSt3) : Prop := Rw s (5000 * b + i) (r.1, r.2.1, nA E r j, r.2.2.2.1, r.2.2.2.2) ∧ i < 5000 ∧ b ≤ 1
section MJB34
variable {T : TT} {N b wm cm k n d i i0 : Nat} {L : List CD} {t : PT} {E : EV} {r : Row} {j : JS} {H : HEAP} {f : FRM} {fs : List FRM} {st : List Int32} {sc : SCL} {s s' : mjSt3} {v w : Int32}
theorem MRn.c16 (M : MRn T t b wm cm (H, f :: fs, k, st, sc) s) : s.1 97 116 = nI (fs.length + 1) := M.1.2.2.1.2.2
/-- the last CALL's STATEMENT or VARIABLES changed -/
theorem MRn.top (M : MRn T t b wm cm (H, f :: fs, k, st, sc) s) {f' : FRM} (e1 : f'.1 = f.1) (e2 : f'.2.1 = f.2.1) (e3 : f'.2.2.2.2 = f.2.2.2.2) (q : ∀ h, ¬ h = 173 → ¬ h = 175 → s'.1 h = s.1 h) (q3 : ∀ x, ¬ x = fs.length → s'.1 173 x = s.1 173 x) (q5 : ∀ x, x < 16 * fs.length → s'.1 175 x = s.1 175 x) (h3 : s'.1 173 fs.length = f'.2.2.1) (h5 : ∀ x, x < 16 → s'.1 175 (16 * fs.length + x) = f'.2.2.2.1 x) : MRn T t b wm cm (H, f' :: fs, k, st, sc) s' := by
  obtain ⟨⟨a1, a2, a3, a4, a5⟩, hH, ⟨⟨b1, b2', b3, b4, b5⟩, b6⟩, hT⟩ := M
  have e97 := q 97 (by decide) (by decide)
  obtain ⟨c1, c2, c3⟩ := hT f fs rfl
  refine ⟨⟨by rw [e97]; exact a1, by rw [e97]; exact a2, by rw [e97]; exact a3, by rw [e97]; exact a4, fun x h1 h2 => by rw [q 167 (by decide) (by decide)]; exact a5 x h1 h2⟩, hH.keep (fun x hx => q x (by omega) (by omega)), ⟨⟨by rw [q 171 (by decide) (by decide), e1]; exact b1, by rw [q 172 (by decide) (by decide), e2]; exact b2', h3, h5, fun g gs hg => by rw [q 174 (by decide) (by decide), e3]; exact b5 g gs hg⟩, FRr.low (n := fs.length) (fun h x h1 h2 => ?_) q5 fs (Nat.le_refl _) b6⟩, fun g gs hg => ?_⟩
  · by_cases e : h = 173
    · rw [e]; exact q3 x (by omega)
    · rw [q h e (by omega)]
  · have hg' : f' = g := (List.cons.inj hg).1
    rw [e97, ← hg', e1]
    exact ⟨c1, c2, STr.low st (fun x _ => by rw [q 176 (by decide) (by decide)]) c3⟩
theorem oRn.wr {h x : Nat} {y : Int32} (e : chRn h x) : oRn s (uI s h (upd (s.1 h) x y)) := offG.w e
theorem ac_2 (M : MRn T t b wm cm (H, f :: fs, k, st, sc) s) (W : RwJ E b i r j s) (o : r.1 = 2) : gAct T t b wm cm (aStep T t.1 E j i0 wm cm r (H, f :: fs, k, st, sc)) s (mjF (d + 2) 231 [.ref 97, .int (nI (5000 * b + i))] (mjW0 s)) := by
  have hi := W.2.1
  have hb := W.2.2
  refine ⟨s, ?_, offG.rf, by rw [as_n (by rw [o]; decide)]; exact M⟩
  rw [e_231]
  unfold f_231 b_231_0
  rw [xg_97_116, M.c16, xg_97_54, wa_143 (by omega), W.1.1, o, if_neg (by decide), if_pos rfl]
theorem ac_11 (M : MRn T t b wm cm (H, f :: fs, k, st, sc) s) (W : RwJ E b i r j s) (o : r.1 = 11) : gAct T t b wm cm (aStep T t.1 E j i0 wm cm r (H, f :: fs, k, st, sc)) s (mjF (d + 2) 231 [.ref 97, .int (nI (5000 * b + i))] (mjW0 s)) := by
  have hi := W.2.1
  have hb := W.2.2
  refine ⟨s, ?_, offG.rf, by rw [as_n (by rw [o]; decide)]; exact M⟩
  rw [e_231]
  unfold f_231 b_231_0
  rw [xg_97_116, M.c16, xg_97_54, wa_143 (by omega), W.1.1, o, if_neg (by decide), if_neg (by decide), if_neg (by decide), if_neg (by decide), if_neg (by decide), if_neg (by decide), if_neg (by decide), if_neg (by decide), if_neg (by decide), if_neg (by decide), if_pos rfl]
theorem ac_12 (M : MRn T t b wm cm (H, f :: fs, k, st, sc) s) (W : RwJ E b i r j s) (o : r.1 = 12) : gAct T t b wm cm (aStep T t.1 E j i0 wm cm r (H, f :: fs, k, st, sc)) s (mjF (d + 2) 231 [.ref 97, .int (nI (5000 * b + i))] (mjW0 s)) := by
  have hi := W.2.1
  have hb := W.2.2
  refine ⟨s, ?_, offG.rf, by rw [as_n (by rw [o]; decide)]; exact M⟩
  rw [e_231]
  unfold f_231 b_231_0
  rw [xg_97_116, M.c16, xg_97_54, wa_143 (by omega), W.1.1, o, if_neg (by decide), if_neg (by decide), if_neg (by decide), if_neg (by decide), if_neg (by decide), if_neg (by decide), if_neg (by decide), if_neg (by decide), if_neg (by decide), if_neg (by decide), if_neg (by decide), if_pos rfl]
theorem ac_15 (M : MRn T t b wm cm (H, f :: fs, k, st, sc) s) (W : RwJ E b i r j s) (o : r.1 = 15) : gAct T t b wm cm (aStep T t.1 E j i0 wm cm r (H, f :: fs, k, st, sc)) s (mjF (d + 2) 231 [.ref 97, .int (nI (5000 * b + i))] (mjW0 s)) := by
  have hi := W.2.1
  have hb := W.2.2
  refine ⟨s, ?_, offG.rf, by rw [as_n (by rw [o]; decide)]; exact M⟩
  rw [e_231]
  unfold f_231 b_231_0
  rw [xg_97_116, M.c16, xg_97_54, wa_143 (by omega), W.1.1, o, if_neg (by decide), if_neg (by decide), if_neg (by decide), if_neg (by decide), if_neg (by decide), if_neg (by decide), if_neg (by decide), if_neg (by decide), if_neg (by decide), if_neg (by decide), if_neg (by decide), if_neg (by decide), if_neg (by decide), if_neg (by decide), if_pos rfl]
theorem ac_16 (M : MRn T t b wm cm (H, f :: fs, k, st, sc) s) (W : RwJ E b i r j s) (o : r.1 = 16) : gAct T t b wm cm (aStep T t.1 E j i0 wm cm r (H, f :: fs, k, st, sc)) s (mjF (d + 2) 231 [.ref 97, .int (nI (5000 * b + i))] (mjW0 s)) := by
  have hi := W.2.1
  have hb := W.2.2
  refine ⟨s, ?_, offG.rf, by rw [as_n (by rw [o]; decide)]; exact M⟩
  rw [e_231]
  unfold f_231 b_231_0
  rw [xg_97_116, M.c16, xg_97_54, wa_143 (by omega), W.1.1, o, if_neg (by decide), if_neg (by decide), if_neg (by decide), if_neg (by decide), if_neg (by decide), if_neg (by decide), if_neg (by decide), if_neg (by decide), if_neg (by decide), if_neg (by decide), if_neg (by decide), if_neg (by decide), if_neg (by decide), if_neg (by decide), if_neg (by decide), if_pos rfl]
theorem ac_19 (M : MRn T t b wm cm (H, f :: fs, k, st, sc) s) (W : RwJ E b i r j s) (o : r.1 = 19) : gAct T t b wm cm (aStep T t.1 E j i0 wm cm r (H, f :: fs, k, st, sc)) s (mjF (d + 2) 231 [.ref 97, .int (nI (5000 * b + i))] (mjW0 s)) := by
  have hi := W.2.1
  have hb := W.2.2
  refine ⟨s, ?_, offG.rf, by rw [as_n (by rw [o]; decide)]; exact M⟩
  rw [e_231]
  unfold f_231 b_231_0
  rw [xg_97_116, M.c16, xg_97_54, wa_143 (by omega), W.1.1, o, if_neg (by decide), if_neg (by decide), if_neg (by decide), if_neg (by decide), if_neg (by decide), if_neg (by decide), if_neg (by decide), if_neg (by decide), if_neg (by decide), if_neg (by decide), if_neg (by decide), if_neg (by decide), if_neg (by decide), if_neg (by decide), if_neg (by decide), if_neg (by decide), if_neg (by decide), if_neg (by decide), if_pos rfl]
theorem ac_26 (M : MRn T t b wm cm (H, f :: fs, k, st, sc) s) (W : RwJ E b i r j s) (o : r.1 = 26) : gAct T t b wm cm (aStep T t.1 E j i0 wm cm r (H, f :: fs, k, st, sc)) s (mjF (d + 2) 231 [.ref 97, .int (nI (5000 * b + i))] (mjW0 s)) := by
  have hi := W.2.1
  have hb := W.2.2
  refine ⟨s, ?_, offG.rf, by rw [as_n (by rw [o]; decide)]; exact M⟩
  rw [e_231]
  unfold f_231 b_231_0
  rw [xg_97_116, M.c16, xg_97_54, wa_143 (by omega), W.1.1, o, if_neg (by decide), if_neg (by decide), if_neg (by decide), if_neg (by decide), if_neg (by decide), if_neg (by decide), if_neg (by decide), if_neg (by decide), if_neg (by decide), if_neg (by decide), if_neg (by decide), if_neg (by decide), if_neg (by decide), if_neg (by decide), if_neg (by decide), if_neg (by decide), if_neg (by decide), if_neg (by decide), if_neg (by decide), if_neg (by decide), if_neg (by decide), if_neg (by decide), if_neg (by decide), if_neg (by decide), if_neg (by decide), if_pos rfl]
theorem ac_27 (M : MRn T t b wm cm (H, f :: fs, k, st, sc) s) (W : RwJ E b i r j s) (o : r.1 = 27) : gAct T t b wm cm (aStep T t.1 E j i0 wm cm r (H, f :: fs, k, st, sc)) s (mjF (d + 2) 231 [.ref 97, .int (nI (5000 * b + i))] (mjW0 s)) := by
  have hi := W.2.1
  have hb := W.2.2
  refine ⟨s, ?_, offG.rf, by rw [as_n (by rw [o]; decide)]; exact M⟩
  rw [e_231]
  unfold f_231 b_231_0
  rw [xg_97_116, M.c16, xg_97_54, wa_143 (by omega), W.1.1, o, if_neg (by decide), if_neg (by decide), if_neg (by decide), if_neg (by decide), if_neg (by decide), if_neg (by decide), if_neg (by decide), if_neg (by decide), if_neg (by decide), if_neg (by decide), if_neg (by decide), if_neg (by decide), if_neg (by decide), if_neg (by decide), if_neg (by decide), if_neg (by decide), if_neg (by decide), if_neg (by decide), if_neg (by decide), if_neg (by decide), if_neg (by decide), if_neg (by decide), if_neg (by decide), if_neg (by decide), if_neg (by decide), if_neg (by decide), if_pos rfl]
theorem ac_30 (M : MRn T t b wm cm (H, f :: fs, k, st, sc) s) (W : RwJ E b i r j s) (o : r.1 = 30) : gAct T t b wm cm (aStep T t.1 E j i0 wm cm r (H, f :: fs, k, st, sc)) s (mjF (d + 2) 231 [.ref 97, .int (nI (5000 * b + i))] (mjW0 s)) := by
  have hi := W.2.1
  have hb := W.2.2
  refine ⟨s, ?_, offG.rf, by rw [as_n (by rw [o]; decide)]; exact M⟩
  rw [e_231]
  unfold f_231 b_231_0
  rw [xg_97_116, M.c16, xg_97_54, wa_143 (by omega), W.1.1, o, if_neg (by decide), if_neg (by decide), if_neg (by decide), if_neg (by decide), if_neg (by decide), if_neg (by decide), if_neg (by decide), if_neg (by decide), if_neg (by decide), if_neg (by decide), if_neg (by decide), if_neg (by decide), if_neg (by decide), if_neg (by decide), if_neg (by decide), if_neg (by decide), if_neg (by decide), if_neg (by decide), if_neg (by decide), if_neg (by decide), if_neg (by decide), if_neg (by decide), if_neg (by decide), if_neg (by decide), if_neg (by decide), if_neg (by decide), if_neg (by decide), if_neg (by decide)]
theorem ac_3 (M : MRn T t b wm cm (H, f :: fs, k, st, sc) s) (W : RwJ E b i r j s) (o : r.1 = 3) (hl : st.length < 8000) : gAct T t b wm cm (aStep T t.1 E j i0 wm cm r (H, f :: fs, k, st, sc)) s (mjF (d + 2) 231 [.ref 97, .int (nI (5000 * b + i))] (mjW0 s)) := by
  have hi := W.2.1
  have hb := W.2.2
  obtain ⟨s', a1, a2, a3⟩ := x_232 (d := d) M hl (r.2.2.1)
  refine ⟨s', ?_, a2, by rw [as_3 o]; exact a3⟩
  have w3 : s.1 145 (5000 * b + i) = r.2.2.1 := by
    have := W.1.2.2.1
    rw [this]
    show nA E r j = _
    unfold nA
    rw [o, if_neg (by decide), if_neg (by decide), if_neg (by decide)]
  rw [e_231]
  unfold f_231 b_231_0
  rw [xg_97_116, M.c16, xg_97_54, wa_143 (by omega), W.1.1, o, if_neg (by decide), if_neg (by decide), if_pos rfl, xg_97_56, wa_145 (by omega), w3, xV_97, a1, bN_s]
theorem ac_4 (M : MRn T t b wm cm (H, f :: fs, k, st, sc) s) (W : RwJ E b i r j s) (o : r.1 = 4) (hl : st.length < 8000) : gAct T t b wm cm (aStep T t.1 E j i0 wm cm r (H, f :: fs, k, st, sc)) s (mjF (d + 2) 231 [.ref 97, .int (nI (5000 * b + i))] (mjW0 s)) := by
  have hi := W.2.1
  have hb := W.2.2
  obtain ⟨s', a1, a2, a3⟩ := x_232 (d := d) M hl (0)
  refine ⟨s', ?_, a2, by rw [as_4 o]; exact a3⟩
  rw [e_231]
  unfold f_231 b_231_0
  rw [xg_97_116, M.c16, xg_97_54, wa_143 (by omega), W.1.1, o, if_neg (by decide), if_neg (by decide), if_neg (by decide), if_pos rfl, xV_97, a1, bN_s]
theorem ac_5 (M : MRn T t b wm cm (H, f :: fs, k, st, sc) s) (W : RwJ E b i r j s) (o : r.1 = 5) (hl : st.length < 8000) (hf : fs.length < 40) : gAct T t b wm cm (aStep T t.1 E j i0 wm cm r (H, f :: fs, k, st, sc)) s (mjF (d + 2) 231 [.ref 97, .int (nI (5000 * b + i))] (mjW0 s)) := by
  have hi := W.2.1
  have hb := W.2.2
  obtain ⟨s', a1, a2, a3⟩ := x_232 (d := d) M hl (nI f.2.1)
  refine ⟨s', ?_, a2, by rw [as_5 o]; exact a3⟩
  rw [e_231]
  unfold f_231 b_231_0
  rw [xg_97_116, M.c16, xg_97_54, wa_143 (by omega), W.1.1, o, if_neg (by decide), if_neg (by decide), if_neg (by decide), if_neg (by decide), if_pos rfl, xg_97_112, nI_pred, wa_172 (by omega), M.2.2.1.1.2.1, xV_97, a1, bN_s]
theorem ac_6 (M : MRn T t b wm cm (H, f :: fs, k, st, sc) s) (W : RwJ E b i r j s) (o : r.1 = 6) (hl : st.length < 8000) (hf : fs.length < 40) {e : VE} (hv : vsK j.2.2.1 r.2.2.2.2 = some e) (h16 : e.2.2.1 < 16) : gAct T t b wm cm (aStep T t.1 E j i0 wm cm r (H, f :: fs, k, st, sc)) s (mjF (d + 2) 231 [.ref 97, .int (nI (5000 * b + i))] (mjW0 s)) := by
  have hi := W.2.1
  have hb := W.2.2
  obtain ⟨s', a1, a2, a3⟩ := x_232 (d := d) M hl (f.2.2.2.1 (varJ r j))
  refine ⟨s', ?_, a2, by rw [as_6 o]; exact a3⟩
  have w3 : s.1 145 (5000 * b + i) = nI (varJ r j) := by
    have := W.1.2.2.1
    rw [this]
    show nA E r j = _
    unfold nA varJ
    rw [o, if_pos (by decide), hv]
    rfl
  have v1 : varJ r j = e.2.2.1 := by unfold varJ; rw [hv]
  rw [e_231]
  unfold f_231 b_231_0
  rw [xg_97_116, M.c16, xg_97_54, wa_143 (by omega), W.1.1, o, if_neg (by decide), if_neg (by decide), if_neg (by decide), if_neg (by decide), if_neg (by decide), if_pos rfl, nI_pred, xg_97_115, xg_97_56, wa_145 (by omega), w3, show (16 : Int32) * nI fs.length + nI (varJ r j) = nI (16 * fs.length + varJ r j) by rw [show (16 : Int32) = nI 16 from rfl, nI_mul, nI_add], wa_175 (by omega), M.2.2.1.1.2.2.2.1 _ (by omega), xV_97, a1, bN_s]
theorem ac_1 (M : MRn T t b wm cm (H, f :: fs, k, st, sc) s) (W : RwJ E b i r j s) (o : r.1 = 1) (hf : fs.length < 40) : gAct T t b wm cm (aStep T t.1 E j i0 wm cm r (H, f :: fs, k, st, sc)) s (mjF (d + 2) 231 [.ref 97, .int (nI (5000 * b + i))] (mjW0 s)) := by
  have hi := W.2.1
  have hb := W.2.2
  obtain ⟨z1, g1⟩ : ∃ y, y = uI s 173 (upd (s.1 173) fs.length r.2.1) := ⟨_, rfl⟩
  have r1 : ∀ h, ¬ h = 173 → z1.1 h = s.1 h := fun h e => by rw [g1]; exact uI_ne _ _ _ _ e
  have v1 : ∀ x, z1.1 173 x = if x = fs.length then r.2.1 else s.1 173 x := fun x => by rw [g1, uI_same, upd_g]
  refine ⟨z1, ?_, by rw [g1]; exact oRn.wr (by unfold chRn; omega), by
    rw [as_1 o]
    exact M.top (f' := (f.1, f.2.1, r.2.1, f.2.2.2)) rfl rfl rfl (fun h e _ => r1 h e) (fun x hx => by rw [v1, if_neg hx]) (fun x _ => by rw [r1 175 (by decide)]) (by rw [v1, if_pos rfl]) (fun x hx => by rw [r1 175 (by decide)]; exact M.2.2.1.1.2.2.2.1 x hx)⟩
  rw [e_231]
  unfold f_231 b_231_0
  rw [xg_97_116, M.c16, xg_97_54, wa_143 (by omega), W.1.1, o, if_pos rfl, xg_97_113, xg_97_55, wa_144 (by omega), W.1.2.1, nI_pred, ws_173 hf, ← g1]
theorem ac_8 (M : MRn T t b wm cm (H, f :: fs, k, v :: st, sc) s) (W : RwJ E b i r j s) (o : r.1 = 8) (hl : st.length < 8000) : gAct T t b wm cm (aStep T t.1 E j i0 wm cm r (H, f :: fs, k, v :: st, sc)) s (mjF (d + 2) 231 [.ref 97, .int (nI (5000 * b + i))] (mjW0 s)) := by
  have hi := W.2.1
  have hb := W.2.2
  obtain ⟨s1, a1, a2, a3⟩ := x_238 (d := d) M hl
  obtain ⟨s2, c1, c2, c3⟩ := x_232 (d := d) a3 hl (-v)
  refine ⟨s2, ?_, offG.tr a2 c2, by rw [as_8 o]; exact c3⟩
  rw [e_231]
  unfold f_231 b_231_0
  rw [xg_97_116, M.c16, xg_97_54, wa_143 (by omega), W.1.1, o, if_neg (by decide), if_neg (by decide), if_neg (by decide), if_neg (by decide), if_neg (by decide), if_neg (by decide), if_neg (by decide), if_pos rfl, xV_97, a1, bI_s, xV_97, c1, bN_s]
theorem ac_25 (M : MRn T t b wm cm (H, f :: fs, k, v :: st, sc) s) (W : RwJ E b i r j s) (o : r.1 = 25) : gAct T t b wm cm (aStep T t.1 E j i0 wm cm r (H, f :: fs, k, v :: st, sc)) s (mjF (d + 2) 231 [.ref 97, .int (nI (5000 * b + i))] (mjW0 s)) := by
  have hi := W.2.1
  have hb := W.2.2
  obtain ⟨h9, h8, hS⟩ := M.2.2.2 f fs rfl
  have h8' : s.1 97 118 = nI (st.length + 1) := h8
  have hS' : s.1 176 st.length = v ∧ STr s st := hS
  obtain ⟨z1, g1⟩ : ∃ y, y = uI s 97 (upd (s.1 97) 118 (nI st.length)) := ⟨_, rfl⟩
  have r1 : ∀ h, ¬ h = 97 → z1.1 h = s.1 h := fun h e => by rw [g1]; exact uI_ne _ _ _ _ e
  have v97 : ∀ x, z1.1 97 x = if x = 118 then nI st.length else s.1 97 x := fun x => by rw [g1, uI_same, upd_g]
  refine ⟨z1, ?_, by rw [g1]; exact oRn.wr (by unfold chRn; omega), by
    rw [as_25 o]
    exact M.vals (fun x hx => by rw [v97, if_neg (by omega)]) (fun h hh => by rw [r1 h (by omega)]) (by rw [v97, if_pos rfl]; rfl) (STr.low st (fun x hx => by rw [r1 176 (by decide)]) hS'.2)⟩
  rw [e_231]
  unfold f_231 b_231_0
  rw [xg_97_116, M.c16, xg_97_54, wa_143 (by omega), W.1.1, o, if_neg (by decide), if_neg (by decide), if_neg (by decide), if_neg (by decide), if_neg (by decide), if_neg (by decide), if_neg (by decide), if_neg (by decide), if_neg (by decide), if_neg (by decide), if_neg (by decide), if_neg (by decide), if_neg (by decide), if_neg (by decide), if_neg (by decide), if_neg (by decide), if_neg (by decide), if_neg (by decide), if_neg (by decide), if_neg (by decide), if_neg (by decide), if_neg (by decide), if_neg (by decide), if_neg (by decide), if_pos rfl, xg_97_118, h8', nI_pred, xp_97_118, ← g1]
theorem ac_17 (M : MRn T t b wm cm (H, f :: fs, k, v :: st, sc) s) (W : RwJ E b i r j s) (o : r.1 = 17) (hl : st.length < 8000) (hf : fs.length < 40) (h16 : j.2.2.2.2.2.2.1 < 16) : gAct T t b wm cm (aStep T t.1 E j i0 wm cm r (H, f :: fs, k, v :: st, sc)) s (mjF (d + 2) 231 [.ref 97, .int (nI (5000 * b + i))] (mjW0 s)) := by
  have hi := W.2.1
  have hb := W.2.2
  have w3 : s.1 145 (5000 * b + i) = nI j.2.2.2.2.2.2.1 := by
    rw [W.1.2.2.1]
    show nA E r j = _
    unfold nA
    rw [o, if_neg (by decide), if_neg (by decide), if_pos (by decide)]
  obtain ⟨s1, a1, a2, a3⟩ := x_238 (d := d) M hl
  obtain ⟨z1, g1⟩ : ∃ y, y = uI s1 175 (upd (s1.1 175) (16 * fs.length + j.2.2.2.2.2.2.1) v) := ⟨_, rfl⟩
  have r1 : ∀ h, ¬ h = 175 → z1.1 h = s1.1 h := fun h e => by rw [g1]; exact uI_ne _ _ _ _ e
  have v1 : ∀ x, z1.1 175 x = if x = 16 * fs.length + j.2.2.2.2.2.2.1 then v else s1.1 175 x := fun x => by rw [g1, uI_same, upd_g]
  refine ⟨z1, ?_, offG.tr a2 (by rw [g1]; exact oRn.wr (by unfold chRn; omega)), by
    rw [as_17 o]
    refine a3.top (f' := setV f j.2.2.2.2.2.2.1 v) rfl rfl rfl (fun h _ e => r1 h e) (fun x hx => by rw [r1 173 (by decide)]) (fun x hx => by rw [v1, if_neg (by omega)]) (by rw [r1 173 (by decide)]; exact a3.2.2.1.1.2.2.1) (fun x hx => ?_)
    rw [v1]
    show _ = if x = j.2.2.2.2.2.2.1 then v else f.2.2.2.1 x
    by_cases e : x = j.2.2.2.2.2.2.1
    · rw [if_pos e, if_pos (by omega)]
    · rw [if_neg e, if_neg (by omega)]; exact a3.2.2.1.1.2.2.2.1 x hx⟩
  rw [e_231]
  unfold f_231 b_231_0
  rw [xg_97_116, M.c16, xg_97_54, wa_143 (by omega), W.1.1, o, if_neg (by decide), if_neg (by decide), if_neg (by decide), if_neg (by decide), if_neg (by decide), if_neg (by decide), if_neg (by decide), if_neg (by decide), if_neg (by decide), if_neg (by decide), if_neg (by decide), if_neg (by decide), if_neg (by decide), if_neg (by decide), if_neg (by decide), if_neg (by decide), if_pos rfl]
  unfold b_231_346
  rw [xg_97_115, xg_97_56, wa_145 (by omega), w3, xV_97, a1, bI_s, nI_pred, show (16 : Int32) * nI fs.length + nI j.2.2.2.2.2.2.1 = nI (16 * fs.length + j.2.2.2.2.2.2.1) by rw [show (16 : Int32) = nI 16 from rfl, nI_mul, nI_add], ws_175 (by omega), ← g1]
theorem ac_20 (M : MRn T t b wm cm (H, f :: fs, k, v :: st, sc) s) (W : RwJ E b i r j s) (o : r.1 = 20) (hl : st.length < 8000) (hf : fs.length < 40) (h16 : j.2.2.2.1 < 16) (h20 : r.2.2.1 = nI j.2.2.2.1) : gAct T t b wm cm (aStep T t.1 E j i0 wm cm r (H, f :: fs, k, v :: st, sc)) s (mjF (d + 2) 231 [.ref 97, .int (nI (5000 * b + i))] (mjW0 s)) := by
  have hi := W.2.1
  have hb := W.2.2
  have w3 : s.1 145 (5000 * b + i) = nI j.2.2.2.1 := by
    rw [W.1.2.2.1]
    show nA E r j = _
    unfold nA
    rw [o, if_neg (by decide), if_neg (by decide), if_neg (by decide), h20]
  obtain ⟨s1, a1, a2, a3⟩ := x_238 (d := d) M hl
  obtain ⟨z1, g1⟩ : ∃ y, y = uI s1 175 (upd (s1.1 175) (16 * fs.length + j.2.2.2.1) v) := ⟨_, rfl⟩
  have r1 : ∀ h, ¬ h = 175 → z1.1 h = s1.1 h := fun h e => by rw [g1]; exact uI_ne _ _ _ _ e
  have v1 : ∀ x, z1.1 175 x = if x = 16 * fs.length + j.2.2.2.1 then v else s1.1 175 x := fun x => by rw [g1, uI_same, upd_g]
  refine ⟨z1, ?_, offG.tr a2 (by rw [g1]; exact oRn.wr (by unfold chRn; omega)), by
    rw [as_20 o]
    refine a3.top (f' := setV f j.2.2.2.1 v) rfl rfl rfl (fun h _ e => r1 h e) (fun x hx => by rw [r1 173 (by decide)]) (fun x hx => by rw [v1, if_neg (by omega)]) (by rw [r1 173 (by decide)]; exact a3.2.2.1.1.2.2.1) (fun x hx => ?_)
    rw [v1]
    show _ = if x = j.2.2.2.1 then v else f.2.2.2.1 x
    by_cases e : x = j.2.2.2.1
    · rw [if_pos e, if_pos (by omega)]
    · rw [if_neg e, if_neg (by omega)]; exact a3.2.2.1.1.2.2.2.1 x hx⟩
  rw [e_231]
  unfold f_231 b_231_0
  rw [xg_97_116, M.c16, xg_97_54, wa_143 (by omega), W.1.1, o, if_neg (by decide), if_neg (by decide), if_neg (by decide), if_neg (by decide), if_neg (by decide), if_neg (by decide), if_neg (by decide), if_neg (by decide), if_neg (by decide), if_neg (by decide), if_neg (by decide), if_neg (by decide), if_neg (by decide), if_neg (by decide), if_neg (by decide), if_neg (by decide), if_neg (by decide), if_neg (by decide), if_neg (by decide), if_pos rfl]
  unfold b_231_346
  rw [xg_97_115, xg_97_56, wa_145 (by omega), w3, xV_97, a1, bI_s, nI_pred, show (16 : Int32) * nI fs.length + nI j.2.2.2.1 = nI (16 * fs.length + j.2.2.2.1) by rw [show (16 : Int32) = nI 16 from rfl, nI_mul, nI_add], ws_175 (by omega), ← g1]
end MJB34
end
section
/-! ===== the reference's act: signs, jumps, say, return, FIELDS ===== -/
section MJB35
variable {T : TT} {N b wm cm k n d i i0 : Nat} {L : List CD} {t : PT} {E : EV} {r : Row} {j : JS} {H : HEAP} {f : FRM} {fs : List FRM} {st st' : List Int32} {sc : SCL} {s s' : mjSt3} {v w x y : Int32}
theorem MRn.fl (M : MRn T t b wm cm (aFail (H, f :: fs, k, st, sc) x y) s) : MRn T t b wm cm (aFail (H, f :: fs, k, st', sc) x y) s := ⟨M.1, M.2.1, M.2.2.1, fun g gs hg => by cases hg⟩
theorem nA_9 (o : r.1 = 9 ∨ r.1 = 13 ∨ r.1 = 7 ∨ r.1 = 14 ∨ r.1 = 21 ∨ r.1 = 22 ∨ r.1 = 23 ∨ r.1 = 28) : nA E r j = r.2.2.1 := by
  unfold nA
  rcases o with o | o | o | o | o | o | o | o <;> rw [o, if_neg (by decide), if_neg (by decide), if_neg (by decide)]
/-- two values and a sign -/
theorem x_239 (M : MRn T t b wm cm (H, f :: fs, k, w :: v :: st, sc) s) (W : RwJ E b i r j s) (o : r.1 = 9) (hl : st.length + 1 < 8000) : gAct T t b wm cm (match two2 r.2.2.1 v w with
    | none => aFail (H, f :: fs, k, w :: v :: st, sc) 2 r.2.1
    | some x => (H, f :: fs, k, x :: st, sc)) s (mjF (d + 2) 239 [.ref 97, .int (nI (5000 * b + i))] (mjW0 s)) := by
  have hi := W.2.1
  have hb := W.2.2
  obtain ⟨s1, a1, a2, a3⟩ := x_238 (d := d) M hl
  obtain ⟨s2, c1, c2, c3⟩ := x_238 (d := d) a3 (by omega)
  have o2 : oRn s s2 := offG.tr a2 c2
  have e145 : s2.1 145 (5000 * b + i) = r.2.2.1 := by
    rw [o2.1 145 _ (by unfold chRn; omega), W.1.2.2.1]
    exact nA_9 (Or.inl o)
  have e144 : s2.1 144 (5000 * b + i) = r.2.1 := by rw [o2.1 144 _ (by unfold chRn; omega)]; exact W.1.2.1
  have psh : ∀ x : Int32, ∃ s', mjF (d + 1) 232 [.ref 97, .int x] (mjW0 s2) = some (none, mjW0 s') ∧ oRn s s' ∧ MRn T t b wm cm (H, f :: fs, k, x :: st, sc) s' := fun x => by
    obtain ⟨s3, p1, p2, p3⟩ := x_232 (d := d) c3 (by omega) x
    exact ⟨s3, p1, offG.tr o2 p2, p3⟩
  have U : mjF (d + 2) 239 [.ref 97, .int (nI (5000 * b + i))] (mjW0 s) = f_239 (mjF (d + 1)) 97 (nI (5000 * b + i)) (mjW0 s) := rfl
  rw [U]
  unfold f_239 b_239_0
  rw [xV_97, a1, bI_s, xV_97, c1, bI_s, xg_97_56, wa_145 (by omega), e145]
  have dv : ∀ q : Int32, ¬ w = 0 → gAct T t b wm cm (H, f :: fs, k, q :: st, sc) s (rV (mjW0 s2) 97 12 (bN (mjF (d + 1) 232 [.ref 97, .int q] (mjW0 s2)) (fun hp1 => some (none, hp1)))) := fun q _ => by
    obtain ⟨s3, p1, p2, p3⟩ := psh q
    exact ⟨s3, by rw [xV_97, p1, bN_s], p2, p3⟩
  have pu : ∀ q : Int32, gAct T t b wm cm (H, f :: fs, k, q :: st, sc) s (rV (mjW0 s2) 97 12 (bN (mjF (d + 1) 232 [.ref 97, .int q] (mjW0 s2)) (fun hp1 => some (none, hp1)))) := fun q => by
    obtain ⟨s3, p1, p2, p3⟩ := psh q
    exact ⟨s3, by rw [xV_97, p1, bN_s], p2, p3⟩
  have fl : gAct T t b wm cm (aFail (H, f :: fs, k, w :: v :: st, sc) 2 r.2.1) s (rV (mjW0 s2) 97 12 (bN (mjF (d + 1) 234 [.ref 97, .int 2, .int r.2.1] (mjW0 s2)) (fun hp5 => some (none, hp5)))) := by
    obtain ⟨s3, p1, p2, p3⟩ := x_234 (d := d) c3 2 r.2.1
    exact ⟨s3, by rw [xV_97, p1, bN_s], offG.tr o2 p2, p3.fl⟩
  by_cases q37 : r.2.2.1 = 37
  · have t2 : two2 r.2.2.1 v w = if w = 0 then none else some (v - v / w * w) := by unfold two2; rw [q37, if_neg (by decide), if_neg (by decide), if_neg (by decide), if_neg (by decide), if_pos rfl]
    rw [t2, q37, if_pos rfl]
    unfold b_239_114
    by_cases w0 : w = 0
    · rw [if_pos w0, if_pos w0, xg_97_55, wa_144 (by omega), e144]; exact fl
    · rw [if_neg w0, if_neg w0, xg_97_56, wa_145 (by omega), e145, q37, if_neg (by decide), if_neg w0]; exact pu _
  by_cases q42 : r.2.2.1 = 42
  · have t2 : two2 r.2.2.1 v w = some (v * w) := by unfold two2; rw [q42, if_neg (by decide), if_neg (by decide), if_pos rfl]
    rw [t2, q42, if_neg (by decide), if_pos rfl]; exact pu _
  by_cases q43 : r.2.2.1 = 43
  · have t2 : two2 r.2.2.1 v w = some (v + w) := by unfold two2; rw [q43, if_pos rfl]
    rw [t2, q43, if_neg (by decide), if_neg (by decide), if_pos rfl]; exact pu _
  by_cases q45 : r.2.2.1 = 45
  · have t2 : two2 r.2.2.1 v w = some (v - w) := by unfold two2; rw [q45, if_neg (by decide), if_pos rfl]
    rw [t2, q45, if_neg (by decide), if_neg (by decide), if_neg (by decide), if_pos rfl]; exact pu _
  by_cases q47 : r.2.2.1 = 47
  · by_cases w0 : w = 0
    · have t2 : two2 r.2.2.1 v w = none := by unfold two2; rw [q47, if_neg (by decide), if_neg (by decide), if_neg (by decide), if_pos rfl, if_pos w0]
      rw [t2, q47, if_neg (by decide), if_neg (by decide), if_neg (by decide), if_neg (by decide), if_pos rfl]
      unfold b_239_114
      rw [if_pos w0, xg_97_55, wa_144 (by omega), e144]; exact fl
    · have t2 : two2 r.2.2.1 v w = some (v / w) := by unfold two2; rw [q47, if_neg (by decide), if_neg (by decide), if_neg (by decide), if_pos rfl, if_neg w0]
      rw [t2, q47, if_neg (by decide), if_neg (by decide), if_neg (by decide), if_neg (by decide), if_pos rfl]
      unfold b_239_114
      rw [if_neg w0, xg_97_56, wa_145 (by omega), e145, q47, if_pos rfl, if_neg w0]; exact pu _
  unfold two2
  rw [if_neg q37, if_neg q42, if_neg q43, if_neg q45, if_neg q47, if_neg q43, if_neg q45, if_neg q42, if_neg q47, if_neg q37]
  by_cases q60 : r.2.2.1 = 60
  · rw [if_pos q60, if_pos q60]
    by_cases g : w ≤ v
    · rw [if_pos g, if_pos g]; exact pu _
    · rw [if_neg g, if_neg g]; exact pu _
  rw [if_neg q60, if_neg q60]
  by_cases q257 : r.2.2.1 = 257
  · rw [if_pos q257, if_pos q257]
    by_cases g : v = w
    · rw [if_pos g, if_pos g]; exact pu _
    · rw [if_neg g, if_neg g]; exact pu _
  rw [if_neg q257, if_neg q257]
  by_cases g : v = w
  · rw [if_pos g, if_pos g]; exact pu _
  · rw [if_neg g, if_neg g]; exact pu _
theorem MRn.jmp (M : MRn T t b wm cm (H, f :: fs, k, st, sc) s) (x : Nat) : ∃ s', (pI (mjW0 s) 97 12 119 (nI (i0T t f.1 + x)) (fun hp3 => some (none, hp3)) : mjU) = some (none, mjW0 s') ∧ oRn s s' ∧ MRn T t b wm cm (H, f :: fs, x, st, sc) s' := by
  obtain ⟨z1, g1⟩ : ∃ y, y = uI s 97 (upd (s.1 97) 119 (nI (i0T t f.1 + x))) := ⟨_, rfl⟩
  have r1 : ∀ h, ¬ h = 97 → z1.1 h = s.1 h := fun h e => by rw [g1]; exact uI_ne _ _ _ _ e
  have v97 : ∀ y, z1.1 97 y = if y = 119 then nI (i0T t f.1 + x) else s.1 97 y := fun y => by rw [g1, uI_same, upd_g]
  have n : ∀ y, ¬ y = 119 → z1.1 97 y = s.1 97 y := fun y hy => by rw [v97, if_neg hy]
  obtain ⟨⟨⟨a1, a2, a3, a4⟩, ⟨a5, a6, a7⟩, ⟨a8, a9, a10⟩, ⟨a11, a12⟩, a13⟩, hH, hF, hT⟩ := M
  obtain ⟨c1, c2, c3⟩ := hT f fs rfl
  refine ⟨z1, by rw [xp_97_119, ← g1], by rw [g1]; exact oRn.wr (by unfold chRn; omega), ⟨⟨by rw [n 96 (by decide)]; exact a1, by rw [n 97 (by decide)]; exact a2, by rw [n 98 (by decide)]; exact a3, by rw [n 99 (by decide)]; exact a4⟩, ⟨by rw [n 100 (by decide)]; exact a5, by rw [n 105 (by decide)]; exact a6, by rw [n 106 (by decide)]; exact a7⟩, ⟨by rw [n 102 (by decide)]; exact a8, by rw [n 103 (by decide)]; exact a9, by rw [n 116 (by decide)]; exact a10⟩, ⟨by rw [n 101 (by decide)]; exact a11, by rw [n 104 (by decide)]; exact a12⟩, fun y h1 h2 => by rw [r1 167 (by decide)]; exact a13 y h1 h2⟩, hH.keep (fun y hy => r1 y (by omega)), FRr.keep (fun y hy => r1 y (by omega)) _ hF, fun g gs hg => ⟨?_, by rw [n 118 (by decide)]; exact c2, STr.low st (fun y _ => by rw [r1 176 (by decide)]) c3⟩⟩
  have hg' : f = g := (List.cons.inj hg).1
  rw [v97, if_pos rfl, ← hg']
theorem ac_9 (M : MRn T t b wm cm (H, f :: fs, k, w :: v :: st, sc) s) (W : RwJ E b i r j s) (o : r.1 = 9) (hl : st.length + 1 < 8000) : gAct T t b wm cm (aStep T t.1 E j i0 wm cm r (H, f :: fs, k, w :: v :: st, sc)) s (mjF (d + 3) 231 [.ref 97, .int (nI (5000 * b + i))] (mjW0 s)) := by
  have hi := W.2.1
  have hb := W.2.2
  obtain ⟨s1, a1, a2, a3⟩ := x_239 (d := d) M W o hl
  refine ⟨s1, ?_, a2, ?_⟩
  · rw [e_231]
    unfold f_231 b_231_0
    rw [xg_97_116, M.c16, xg_97_54, wa_143 (by omega), W.1.1, o, if_neg (by decide), if_neg (by decide), if_neg (by decide), if_neg (by decide), if_neg (by decide), if_neg (by decide), if_neg (by decide), if_neg (by decide), if_pos rfl, xV_97, a1, bN_s]
  · rw [as_9 o]
    exact a3
theorem ac_22 (M : MRn T t b wm cm (H, f :: fs, k, st, sc) s) (W : RwJ E b i r j s) (o : r.1 = 22) {x : Nat} (hx : r.2.2.1 = nI (i0T t f.1 + x)) (hn : nN r.2.2.1 - i0 = x) : gAct T t b wm cm (aStep T t.1 E j i0 wm cm r (H, f :: fs, k, st, sc)) s (mjF (d + 2) 231 [.ref 97, .int (nI (5000 * b + i))] (mjW0 s)) := by
  have hi := W.2.1
  have hb := W.2.2
  have e145 : s.1 145 (5000 * b + i) = nI (i0T t f.1 + x) := by
    rw [W.1.2.2.1, ← hx]
    exact nA_9 (by rw [o]; decide)
  obtain ⟨s1, a1, a2, a3⟩ := M.jmp x
  refine ⟨s1, ?_, a2, ?_⟩
  · rw [e_231]
    unfold f_231 b_231_0
    rw [xg_97_116, M.c16, xg_97_54, wa_143 (by omega), W.1.1, o, if_neg (by decide), if_neg (by decide), if_neg (by decide), if_neg (by decide), if_neg (by decide), if_neg (by decide), if_neg (by decide), if_neg (by decide), if_neg (by decide), if_neg (by decide), if_neg (by decide), if_neg (by decide), if_neg (by decide), if_neg (by decide), if_neg (by decide), if_neg (by decide), if_neg (by decide), if_neg (by decide), if_neg (by decide), if_neg (by decide), if_neg (by decide), if_pos rfl]
    unfold b_231_455
    rw [xg_97_56, wa_145 (by omega), e145, a1]
  · rw [as_22 (Or.inl o), hn]
    exact a3
theorem ac_23 (M : MRn T t b wm cm (H, f :: fs, k, st, sc) s) (W : RwJ E b i r j s) (o : r.1 = 23) {x : Nat} (hx : r.2.2.1 = nI (i0T t f.1 + x)) (hn : nN r.2.2.1 - i0 = x) : gAct T t b wm cm (aStep T t.1 E j i0 wm cm r (H, f :: fs, k, st, sc)) s (mjF (d + 2) 231 [.ref 97, .int (nI (5000 * b + i))] (mjW0 s)) := by
  have hi := W.2.1
  have hb := W.2.2
  have e145 : s.1 145 (5000 * b + i) = nI (i0T t f.1 + x) := by
    rw [W.1.2.2.1, ← hx]
    exact nA_9 (by rw [o]; decide)
  obtain ⟨s1, a1, a2, a3⟩ := M.jmp x
  refine ⟨s1, ?_, a2, ?_⟩
  · rw [e_231]
    unfold f_231 b_231_0
    rw [xg_97_116, M.c16, xg_97_54, wa_143 (by omega), W.1.1, o, if_neg (by decide), if_neg (by decide), if_neg (by decide), if_neg (by decide), if_neg (by decide), if_neg (by decide), if_neg (by decide), if_neg (by decide), if_neg (by decide), if_neg (by decide), if_neg (by decide), if_neg (by decide), if_neg (by decide), if_neg (by decide), if_neg (by decide), if_neg (by decide), if_neg (by decide), if_neg (by decide), if_neg (by decide), if_neg (by decide), if_neg (by decide), if_neg (by decide), if_pos rfl]
    unfold b_231_455
    rw [xg_97_56, wa_145 (by omega), e145, a1]
  · rw [as_22 (Or.inr o), hn]
    exact a3
theorem ac_21 (M : MRn T t b wm cm (H, f :: fs, k, v :: st, sc) s) (W : RwJ E b i r j s) (o : r.1 = 21) (hl : st.length < 8000) {x : Nat} (hx : r.2.2.1 = nI (i0T t f.1 + x)) (hn : nN r.2.2.1 - i0 = x) : gAct T t b wm cm (aStep T t.1 E j i0 wm cm r (H, f :: fs, k, v :: st, sc)) s (mjF (d + 2) 231 [.ref 97, .int (nI (5000 * b + i))] (mjW0 s)) := by
  have hi := W.2.1
  have hb := W.2.2
  obtain ⟨s1, a1, a2, a3⟩ := x_238 (d := d) M hl
  have e145 : s1.1 145 (5000 * b + i) = nI (i0T t f.1 + x) := by
    rw [a2.1 145 _ (by unfold chRn; omega), W.1.2.2.1, ← hx]
    exact nA_9 (by rw [o]; decide)
  have pre : mjF (d + 2) 231 [.ref 97, .int (nI (5000 * b + i))] (mjW0 s) = (if v = 0 then gR (mjW0 s1) 97 12 56 (fun v92 => aI (mjW0 s1) v92 (nI (5000 * b + i)) (fun v93 => pI (mjW0 s1) 97 12 119 v93 (fun hp94 => some (none, hp94)))) else some (none, mjW0 s1)) := by
    rw [e_231]
    unfold f_231 b_231_0
    rw [xg_97_116, M.c16, xg_97_54, wa_143 (by omega), W.1.1, o, if_neg (by decide), if_neg (by decide), if_neg (by decide), if_neg (by decide), if_neg (by decide), if_neg (by decide), if_neg (by decide), if_neg (by decide), if_neg (by decide), if_neg (by decide), if_neg (by decide), if_neg (by decide), if_neg (by decide), if_neg (by decide), if_neg (by decide), if_neg (by decide), if_neg (by decide), if_neg (by decide), if_neg (by decide), if_neg (by decide), if_pos rfl, xV_97, a1, bI_s]
  rw [as_21 o, pre]
  show gAct T t b wm cm (aSt (if v = 0 then aKs (H, f :: fs, k, v :: st, sc) (nN r.2.2.1 - i0) else (H, f :: fs, k, v :: st, sc)) st) s _
  by_cases v0 : v = 0
  · rw [if_pos v0, if_pos v0, hn]
    obtain ⟨s2, c1, c2, c3⟩ := a3.jmp x
    exact ⟨s2, by rw [xg_97_56, wa_145 (by omega), e145, c1], offG.tr a2 c2, c3⟩
  · rw [if_neg v0, if_neg v0]
    exact ⟨s1, rfl, a2, a3⟩
end MJB35
end
