/-! ===== the reference's judge: MEMBERS; where their TYPES stand ===== -/
/-- the TYPES' numbers and places -/
def ORD (T : TT) (b : Nat) (ks : List Nat) (L : List CD) : Prop := (∀ m, m < nMem L → TyI T b ks (mdM L m).1 (mdM L m).2.2.2.2.2.2.2 ∧ ∀ (i : Nat) (p : Nat × Nat × Int32), (psM L m)[i]? = some p → TyI T b ks p.1 p.2.2 ∧ (mdM L m).1 < p.1 ∧ ∀ (j : Nat) (p' : Nat × Nat × Int32), j < i → (psM L m)[j]? = some p' → p'.1 < p.1) ∧ (∀ m' m, m' < m → m < nMem L → (mdM L m').1 < (mdM L m).1 ∧ ∀ (i : Nat) (p : Nat × Nat × Int32), (psM L m')[i]? = some p → p.1 < (mdM L m).1) ∧ ∀ c, c < L.length → ¬ (hC L c).2.2.1 = 0 → (∀ m, m < nMem L → ¬ (mdM L m).1 = (hC L c).2.2.1 ∧ ∀ (i : Nat) (p : Nat × Nat × Int32), (psM L m)[i]? = some p → ¬ p.1 = (hC L c).2.2.1) ∧ ∀ c', c' < L.length → ¬ (hC L c').2.2.1 = 0 → ¬ c = c' → ¬ (hC L c).2.2.1 = (hC L c').2.2.1
/-- the TYPES of MEMBER m were judged -/
def TMr (T : TT) (L : List CD) (b : Nat) (s : mjSt3) (m : Nat) : Prop := TKr L b s (s.1 126 (400 * b + m)) (tyM T L m) ∧ ∀ i, i < (psM L m).length → TKr L b s (s.1 133 (6 * (400 * b + m) + i)) (pyT T L m i)
section MJA76
variable {T : TT} {d N b k t c n kk m k0 kb : Nat} {ks : List Nat} {L : List CD} {s s' : mjSt3} {ti ti' : Int32} {pt : PT} {rs : List RcM} {z : PB}
theorem TyI.ne {t' : Nat} (h : TyI T b ks t ti) (h' : TyI T b ks t' ti') (hks : ks.length ≤ 750) (hb : b ≤ 1) (ne : ¬ t = t') : ∀ k, k < 1600 → ti' = nI k → ¬ (ti = nI k ∧ k < 1600) := by
  intro k k1 k2 ⟨k3, _⟩
  rcases h with ⟨_, e⟩ | ⟨_, i, i1, i2⟩
  · rw [k3] at e
    exact nI_m1 (by omega) e
  · rcases h' with ⟨_, e⟩ | ⟨_, j, j1, j2⟩
    · rw [k2] at e
      exact nI_m1 (by omega) e
    · have hi := (List.getElem?_eq_some_iff.mp i1).1
      have hj := (List.getElem?_eq_some_iff.mp j1).1
      have e : nI (800 * b + i) = nI (800 * b + j) := by rw [← i2, ← j2, k2, k3]
      have := (nI_eq (by omega) (by omega)).mp e
      have e2 : i = j := by omega
      subst e2
      rw [i1] at j1
      cases j1
      exact ne rfl
/-- the KINDS of a bank -/
def bkP (b x : Nat) : Prop := 800 * b ≤ x ∧ x < 800 * b + 800
theorem TyI.bk (h : TyI T b ks t ti) (hks : ks.length ≤ 750) (hb : b ≤ 1) : ∀ x, (ti = nI x ∧ x < 1600) → bkP b x := by
  intro x ⟨h1, h2⟩
  rcases h with ⟨_, e⟩ | ⟨_, i, i1, i2⟩
  · rw [h1] at e
    exact absurd e (nI_m1 (by omega))
  · have hi := (List.getElem?_eq_some_iff.mp i1).1
    rw [h1] at i2
    have := (nI_eq (by omega) (by omega)).mp i2
    unfold bkP
    omega
theorem keepT {t' ty : Nat} (J : RJ T N b ks L s) (h : TyI T b ks t ti) (h' : TyI T b ks t' ti') (ne : ¬ t = t') (o : oTy (fun x => ti = nI x ∧ x < 1600) s s') (K : TKr L b s ti' ty) : TKr L b s' ti' ty := K.keep J.2.2.2.2.2.1 o (TyI.ne h h' J.2.2.2.1 J.b1 ne)
theorem keepA (J : RJ T N b ks L s) (h : TyI T b ks t ti) (hc : c < L.length) (ne : ¬ (hC L c).2.2.1 = 0 → ¬ t = (hC L c).2.2.1) (o : oTy (fun x => ti = nI x ∧ x < 1600) s s') (A : ABr T L b s c) : ABr T L b s' c := by
  have hn := J.2.2.2.2.2.1
  have r := fun x (h1 : ¬ x = 97) (h2 : ¬ x = 139) (h3 : ¬ x = 142) => o.r h1 h2 h3
  unfold ABr at A ⊢
  cases ha : abT T L c with
  | none => rw [ha] at A; dsimp only at A ⊢; rw [r 105 (by decide) (by decide) (by decide)]; exact A
  | some kk =>
    rw [ha] at A
    obtain ⟨v, k, k1, k2, k3, k4⟩ := A
    have z : ¬ (hC L c).2.2.1 = 0 := fun e => by unfold abT at ha; rw [if_pos e] at ha; cases ha
    refine ⟨v, k, k1, by rw [r 105 (by decide) (by decide) (by decide)]; exact k2, by rw [r 138 (by decide) (by decide) (by decide)]; exact k3, k4.keep (vK.n5 hn (vK.cl hn v)).2 o ?_⟩
    obtain ⟨_, i, i1, i2⟩ := (J.hd hc).2.2.2.2.1 z
    intro ⟨q1, _⟩
    have hi := (List.getElem?_eq_some_iff.mp i1).1
    have l750 := J.2.2.2.1
    have hb := J.b1
    rcases h with ⟨_, e⟩ | ⟨_, j, j1, j2⟩
    · rw [q1] at e
      exact nI_m1 (by omega) e
    · have hj := (List.getElem?_eq_some_iff.mp j1).1
      have e : nI (800 * b + i) = nI (800 * b + j) := by rw [← i2, ← j2, k2, q1]
      have := (nI_eq (by omega) (by omega)).mp e
      have e2 : i = j := by omega
      subst e2
      rw [i1] at j1
      cases j1
      exact ne z rfl
/-- MEMBER m's rows -/
theorem RJ.mem (J : RJ T N b ks L s) (hm : m < nMem L) : RM T s (400 * b + m) (16 * b + hmM L m) (mdM L m) ∧ hmM L m < L.length := by
  obtain ⟨c, D, k, h1, h2, h3, h4⟩ := FL_ex hm
  have := (J.2.1.2.2 c D h1).2.2 k _ h2
  rw [← h3] at this
  rw [h4]
  exact ⟨this, (List.getElem?_eq_some_iff.mp h1).1⟩
theorem RJ.n384 (J : RJ T N b ks L s) : nMem L ≤ 384 := by
  have a := nMem_le L J.2.2.2.2.1
  have b := J.len
  omega
/-- ORD out of what was read -/
theorem ORD_of (R : TRc T N k0 pt rs kb z) (X : TRx pt rs) (hk : k0 = 800 * b) (hb : b ≤ 1) (hN : N ≤ 3000) : ORD T b pt.2.2.1 pt.1 := by
  have hk0 : k0 ≤ 1000 := by omega
  have r4 := R.2.2.2.1
  have OE := OT_ex (0, 0, 0, 0, 0) pt.2.2.2.1
  have AE := AGf_ex pt.2.2.2.2.1 R.2.2.1 (fun _ => 0)
  have KE := R.kex hN hk0
  have ktd : ∀ d : Nat, KT (fun a => (pt.2.2.1[nN a - k0]?).getD d) k0 pt.2.2.1 := fun d i u hi => by
    have hi' := (List.getElem?_eq_some_iff.mp hi).1
    dsimp only
    rw [nN_nI (by omega), show k0 + i - k0 = i by omega, hi]
    rfl
  have two : ∀ (x t : Nat), (pt.2.2.1[x]?).getD 0 = t → (pt.2.2.1[x]?).getD 1 = t → pt.2.2.1[x]? = some t := by
    intro x t h0 h1
    cases hx : pt.2.2.1[x]? with
    | some u => rw [hx] at h0; exact congrArg some h0
    | none =>
      rw [hx] at h0 h1
      rw [← h0] at h1
      cases h1
  have ty : ∀ (t kq : Nat), k0 ≤ kq → kq < 10000 → (∀ d : Nat, KT (fun a => (pt.2.2.1[nN a - k0]?).getD d) kq (tyL T t)) → TyI T b pt.2.2.1 t (tyK T t kq) := by
    intro t kq h0 h1 h2
    unfold tyK
    by_cases g : (T t).1 = 10
    · rw [if_pos g]; exact Or.inl ⟨g, rfl⟩
    · rw [if_neg g]
      have e : tyL T t = [t] := if_neg g
      have A : ∀ d : Nat, (pt.2.2.1[kq - k0]?).getD d = t := by
        intro d
        have := h2 d 0 t (by rw [e]; rfl)
        dsimp only at this
        rw [nN_nI (by omega), show kq + 0 - k0 = kq - k0 by omega] at this
        exact this
      exact Or.inr ⟨g, kq - k0, two _ _ (A 0) (A 1), by rw [show 800 * b + (kq - k0) = kq by omega]⟩
  have mok : ∀ (m : Nat) (r : RcM), rs[m]? = some r → ∀ d : Nat, MOK T (N + 1) (fun a => (pt.2.2.1[nN a - k0]?).getD d) (otL (0, 0, 0, 0, 0) pt.2.2.2.1) (rAg pt.2.2.2.2.1 (fun _ => 0)) k0 r.1 r.2.1 r.2.2.1 r.2.2.2.1 r.2.2.2.2 ∧ r.2.1 < pt.2.1.1 := fun m r hr d => R.mok (ktd d) OE AE hr
  have tN := R.2.2.2.2.2.2.1
  have P1 : ∀ m, m < nMem pt.1 → ∃ r : RcM, rs[m]? = some r ∧ r.1 = mdM pt.1 m ∧ (mdM pt.1 m).1 < r.2.1 ∧ TyI T b pt.2.2.1 (mdM pt.1 m).1 (mdM pt.1 m).2.2.2.2.2.2.2 ∧ ∀ (i : Nat) (p : Nat × Nat × Int32), (psM pt.1 m)[i]? = some p → TyI T b pt.2.2.1 p.1 p.2.2 ∧ (mdM pt.1 m).1 < p.1 ∧ p.1 < r.2.1 ∧ ∀ (j : Nat) (p' : Nat × Nat × Int32), j < i → (psM pt.1 m)[j]? = some p' → p'.1 < p.1 := by
    intro m hm
    obtain ⟨r, hr, er⟩ := R.at hm
    obtain ⟨⟨m1, m2, m3, m4, m5, m6, m7, m8⟩, en⟩ := mok m r hr 0
    refine ⟨r, hr, er, by rw [← er]; omega, ?_, ?_⟩
    · rw [← er, m3]
      exact ty _ _ m7.1 (by omega) (fun d => (mok m r hr d).1.2.2.2.1)
    · intro i p hp
      unfold psM at hp
      rw [← er] at hp ⊢
      have get : ∀ d : Nat, ∃ en kq', PLok T (fun a => (pt.2.2.1[nN a - k0]?).getD d) (r.1.2.1 + 2) kq' r.1.2.2.2.1 r.2.2.2.1.2.2 en ∧ en < r.2.1 + 1 ∧ k0 ≤ kq' ∧ kq' + r.2.2.2.1.2.2.length < 9000 := by
        intro d
        obtain ⟨⟨q1, q2, q3, q4, q5, q6, q7, q8⟩, _⟩ := mok m r hr d
        rcases q8 with ⟨_, e, _⟩ | ⟨_, _, _, e, e3, e4, e5, e6, e7, e8, _, _, _, _, _, e14⟩
        · rw [e] at hp; cases hp
        · rcases e4 with ⟨_, e4⟩ | e4
          · rw [e, e4] at hp; cases hp
          · have hz := (prS_ln 30 0 1 _ _ _ _ _ (by omega) e7).1
            refine ⟨r.2.2.2.1.1, _, by rw [e]; exact e4, by omega, by omega, by omega⟩
      obtain ⟨en0, kq0, L0, l1, l2, l3⟩ := get 0
      obtain ⟨en1, kq1, L1, l4, l5, l6⟩ := get 1
      obtain ⟨a1, a2, a3, a4, a5, kk0, b1, b2, b3, b4⟩ := L0.2.2.2.2 i p hp
      obtain ⟨_, _, _, _, _, kk1, c1, c2, c3, c4⟩ := L1.2.2.2.2 i p hp
      have mono : ∀ (j : Nat) (p' : Nat × Nat × Int32), r.1.2.2.2.1[j]? = some p' → r.1.2.1 + 2 ≤ p'.1 ∧ ∀ (x : Nat) (px : Nat × Nat × Int32), x < j → r.1.2.2.2.1[x]? = some px → px.1 < p'.1 := by
        intro j
        induction j with
        | zero =>
          intro p' hp'
          obtain ⟨_, _, w3, _⟩ := L0.2.2.2.2 0 p' hp'
          exact ⟨by rw [w3]; exact Nat.le_refl _, fun x px hx => by omega⟩
        | succ j ih =>
          intro p' hp'
          obtain ⟨_, _, w3, _⟩ := L0.2.2.2.2 (j + 1) p' hp'
          have hj : j < r.1.2.2.2.1.length := by have := (List.getElem?_eq_some_iff.mp hp').1; omega
          obtain ⟨pj, hpj⟩ : ∃ pj, r.1.2.2.2.1[j]? = some pj := ⟨_, List.getElem?_eq_getElem hj⟩
          obtain ⟨_, _, _, v4, _⟩ := L0.2.2.2.2 j pj hpj
          have w4 : p'.1 = pj.2.1 + 2 := by
            rw [w3]
            show (match r.1.2.2.2.1[j]? with
              | some p => p.2.1 + 2
              | none => 0) = _
            rw [hpj]
          obtain ⟨i1, i2⟩ := ih pj hpj
          refine ⟨by omega, fun x px hx hpx => ?_⟩
          by_cases e : x = j
          · subst e
            rw [hpj] at hpx
            cases hpx
            omega
          · have := i2 x px (by omega) hpx
            omega
      obtain ⟨mn1, mn2⟩ := mono i p hp
      refine ⟨?_, by omega, by omega, fun j p' hj hp' => ?_⟩
      · by_cases g : (T p.1).1 = 10
        · exact Or.inl ⟨g, by rw [b3]; exact if_pos g⟩
        · have e0 : p.2.2 = nI kk0 := by rw [b3]; exact if_neg g
          have e1 : p.2.2 = nI kk1 := by rw [c3]; exact if_neg g
          have ek : kk0 = kk1 := (nI_eq (by omega) (by omega)).mp (e0.symm.trans e1)
          subst ek
          have e : tyL T p.1 = [p.1] := if_neg g
          have A0 := b4 0 p.1 (by rw [e]; rfl)
          have A1 := c4 0 p.1 (by rw [e]; rfl)
          dsimp only at A0 A1
          rw [nN_nI (by omega), show kk0 + 0 - k0 = kk0 - k0 by omega] at A0 A1
          exact Or.inr ⟨g, kk0 - k0, two _ _ A0 A1, by rw [e0, show 800 * b + (kk0 - k0) = kk0 by omega]⟩
      · unfold psM at hp'
        rw [← er] at hp'
        exact mn2 j p' hj hp'
  refine ⟨fun m hm => ?_, fun m' m h1 h2 => ?_, fun c hc zc => ⟨fun m hm => ?_, fun c' hc' zc' ne => X.hh hc hc' ne zc zc'⟩⟩
  · obtain ⟨r, _, _, _, a, b⟩ := P1 m hm
    exact ⟨a, fun i p hp => ⟨(b i p hp).1, (b i p hp).2.1, (b i p hp).2.2.2⟩⟩
  · obtain ⟨r, hr, er, e1, _, b⟩ := P1 m' (by omega)
    obtain ⟨r', hr', er', _⟩ := P1 m h2
    have lt := (R.2.2.2.2.2.2.2.2.2.2 _ _ _ KE OE AE).1.lt h1 hr hr'
    rw [er'] at lt
    exact ⟨by omega, fun i p hp => by have := (b i p hp).2.2.1; omega⟩
  · obtain ⟨r, hr, er, e1, _, b⟩ := P1 m hm
    have hx := X.hr hc zc hr
    rw [er] at hx
    unfold abK at hx
    exact ⟨fun e => hx ⟨by omega, by omega⟩, fun i p hp e => hx ⟨by have := (b i p hp).2.1; omega, by have := (b i p hp).2.2.1; omega⟩⟩
end MJA76
