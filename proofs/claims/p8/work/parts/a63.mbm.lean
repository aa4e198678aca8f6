/-! ===== what the Coder asks of the METHODS ===== -/
def isMT (L : List CD) (m : Nat) : Bool := decide (m = 384) || (decide (m < nMem L) && mSM L m)
def EmT (T : TT) (L : List CD) (tr : Bool) (kt : Int32 → Nat) (m : Nat) : EV := if m = 384 then (T, L, tr, kt, none, 0, fun _ => 0) else (T, L, tr, kt, some (hmM L m), tyM T L m, fun _ => 0)
def btT (t : PT) (m : Nat) : Nat := if m = 384 then t.2.1.1 else (mdM t.1 m).2.2.2.2.1
def i0T (t : PT) (m : Nat) : Nat := if m = 384 then t.2.2.2.2.2 else (mdM t.1 m).2.2.2.2.2.2.1
def vnT (t : PT) (m : Nat) : Nat := if m = 384 then t.2.1.2 else (mdM t.1 m).2.2.2.2.2.1
def npT (L : List CD) (m : Nat) : Nat := if m = 384 then 0 else (psM L m).length
def jmT (T : TT) (L : List CD) (m : Nat) : JS := ([], [], (if m = 384 then [] else pvs T L m (psM L m).length), npT L m, 0, (0, 0), 0, [])
def enR (rs : List RcM) (m : Nat) : Nat := match rs[m]? with
  | some r => r.2.1
  | none => 0
/-- a METHOD's first KIND in its BLOCK; its BLOCK -/
def kqT (T : TT) (rs : List RcM) (kb m : Nat) : Nat := if m = 384 then kb else match rs[m]? with
  | some r => r.2.2.1 + (tyL T r.1.1).length + r.2.2.2.1.2.2.length
  | none => 0
def zT (rs : List RcM) (z : PB) (m : Nat) : PB := if m = 384 then z else match rs[m]? with
  | some r => r.2.2.2.2
  | none => z
def SBk (k0 : Nat) (ks : List Nat) (kq : Nat) (l : List Nat) : Prop := k0 ≤ kq ∧ ∀ (j t : Nat), l[j]? = some t → ks[kq - k0 + j]? = some t
def SBo (os : List Row) (i : Nat) (l : List Row) : Prop := ∀ (j : Nat) (r : Row), l[j]? = some r → os[i + j]? = some r
/-- a METHOD's BLOCK, as it was read -/
def MBk (T : TT) (N k0 : Nat) (t : PT) (rs : List RcM) (m kq : Nat) (z : PB) : Prop := (∃ o, o ≤ 1 ∧ prS T (N + 1) 30 0 o (btT t m) (npT t.1 m) kq (i0T t m) = .inr z) ∧ z.2.1 = vnT t m ∧ SBk k0 t.2.2.1 kq z.2.2.1 ∧ SBo t.2.2.2.1 (i0T t m) (z.2.2.2.1 ++ [oOver]) ∧ (∀ ag, AGf ag t.2.2.2.2.1 → AGf ag z.2.2.2.2) ∧ (btT t m < z.1 ∧ z.1 ≤ N) ∧ kq + z.2.2.1.length ≤ 10000 ∧ i0T t m + z.2.2.2.1.length ≤ 20000 ∧ (¬ m = 384 → z.1 = enR rs m ∧ (mdM t.1 m).1 < btT t m)
section MJA63
variable {T : TT} {N k0 q kb m D : Nat} {t : PT} {rs : List RcM} {z : PB} {s s' : mjSt3} {tr : Bool}
theorem isMT_384 (L : List CD) : isMT L 384 = true := rfl
theorem isMT_lt {L : List CD} (h : isMT L m = true) (hm : ¬ m = 384) : m < nMem L ∧ mSM L m = true := by
  unfold isMT at h
  rw [decide_eq_false hm, Bool.false_or, Bool.and_eq_true] at h
  exact ⟨of_decide_eq_true h.1, h.2⟩
theorem sbk_of {ks l : List Nat} {kq : Nat} (hb : k0 + ks.length ≤ 100000) (h0 : k0 ≤ kq) (hl : kq + l.length ≤ 100000) (h : ∀ kt, KT kt k0 ks → KT kt kq l) : SBk k0 ks kq l := by
  refine ⟨h0, fun j t hj => ?_⟩
  have hj' := (List.getElem?_eq_some_iff.mp hj).1
  have A : ∀ d : Nat, (ks[kq - k0 + j]?).getD d = t := by
    intro d
    have := h (fun a => (ks[nN a - k0]?).getD d) (fun i u hi => by
      have hi' := (List.getElem?_eq_some_iff.mp hi).1
      dsimp only
      rw [nN_nI (by omega), show k0 + i - k0 = i by omega, hi]
      rfl) j t hj
    dsimp only at this
    rw [nN_nI (by omega), show kq + j - k0 = kq - k0 + j by omega] at this
    exact this
  cases hx : ks[kq - k0 + j]? with
  | some u =>
    have := A 0
    rw [hx] at this
    exact congrArg some this
  | none =>
    have a0 := A 0
    have a1 := A 1
    rw [hx] at a0 a1
    rw [← a0] at a1
    cases a1
theorem sbo_of {os l : List Row} {i : Nat} (h : ∀ ot, OT ot 0 os → OT ot i l) : SBo os i l := by
  intro j r hj
  have A : ∀ d : Row, (os[i + j]?).getD d = r := fun d => h (otL d os) (OT_ex d os) j r hj
  cases hx : os[i + j]? with
  | some u =>
    have := A (0, 0, 0, 0, 0)
    rw [hx] at this
    exact congrArg some this
  | none =>
    have a0 := A (0, 0, 0, 0, 0)
    have a1 := A (1, 0, 0, 0, 0)
    rw [hx] at a0 a1
    have e : ((0, 0, 0, 0, 0) : Row) = (1, 0, 0, 0, 0) := a0.trans a1.symm
    exact absurd (congrArg Prod.fst e) (show ¬ ((0 : Int32) = 1) by decide)
theorem SBk.kt {ks l : List Nat} {kq : Nat} (hb : k0 + ks.length ≤ 100000) (h : SBk k0 ks kq l) : KT (ktL k0 ks) kq l := by
  intro j t hj
  have := h.2 j t hj
  have hj' := (List.getElem?_eq_some_iff.mp this).1
  have h0 := h.1
  unfold ktL
  rw [nN_nI (by omega), show kq + j - k0 = kq - k0 + j by omega, this]
  rfl
theorem MBk_ex (R : TRc T N k0 t rs kb z) (hk0 : k0 ≤ 1000) (hN : N ≤ 3000) : ∀ m, m ≤ 384 → isMT t.1 m = true → MBk T N k0 t rs m (kqT T rs kb m) (zT rs z m) := by
  intro m hm im
  have r4 := R.2.2.2.1
  have r7 := R.2.2.2.2.2.2.1
  have KE := R.kex hN hk0
  have OE := OT_ex (0, 0, 0, 0, 0) t.2.2.2.1
  have AE := AGf_ex t.2.2.2.2.1 R.2.2.1 (fun _ => 0)
  by_cases e : m = 384
  · obtain ⟨c1, m1, m2, m3, m4, m5, m6⟩ := R.2.2.2.2.2.2.2.2.2.2 _ _ _ KE OE AE
    obtain ⟨l1, l2, l3, l4⟩ := prS_ln 30 0 0 _ _ _ _ z (by omega) m1
    have r8 := R.2.2.2.2.2.2.2.1
    have r9 := R.2.2.2.2.2.2.2.2.1
    have r10 := R.2.2.2.2.2.2.2.2.2.1
    have e1 : btT t m = t.2.1.1 := if_pos e
    have e2 : i0T t m = t.2.2.2.2.2 := if_pos e
    have e3 : vnT t m = t.2.1.2 := if_pos e
    have e4 : npT t.1 m = 0 := if_pos e
    have e5 : kqT T rs kb m = kb := if_pos e
    have e6 : zT rs z m = z := if_pos e
    unfold MBk
    rw [e1, e2, e3, e4, e5, e6]
    refine ⟨⟨0, by omega, m1⟩, m2, sbk_of (by omega) r10 (by omega) (fun kt hk => (R.2.2.2.2.2.2.2.2.2.2 kt _ _ hk OE AE).2.2.2.2.1), sbo_of (fun ot ho => (R.2.2.2.2.2.2.2.2.2.2 _ ot _ KE ho AE).2.2.2.2.2.1), (fun ag ha => (R.2.2.2.2.2.2.2.2.2.2 _ _ ag KE OE ha).2.2.2.2.2.2), ⟨l1, m3⟩, by omega, by omega, fun h => absurd e h⟩
  · obtain ⟨g1, g2⟩ := isMT_lt im e
    obtain ⟨r, hr, er⟩ := R.at g1
    obtain ⟨⟨m1, m2, m3, m4, m5, m6, m7, m8⟩, en⟩ := R.mok KE OE AE hr
    have ag : ∀ kt ot ag, KT kt k0 t.2.2.1 → OT ot 0 t.2.2.2.1 → AGf ag t.2.2.2.2.1 → KT kt (r.2.2.1 + (tyL T r.1.1).length + r.2.2.2.1.2.2.length) r.2.2.2.2.2.2.1 ∧ OT ot r.1.2.2.2.2.2.2.1 (r.2.2.2.2.2.2.2.1 ++ [oOver]) ∧ AGf ag r.2.2.2.2.2.2.2.2 := by
      intro kt ot ag k1 k2 k3
      obtain ⟨⟨_, _, _, _, _, _, _, w⟩, _⟩ := R.mok k1 k2 k3 hr
      rcases w with ⟨b, _⟩ | ⟨_, _, _, _, _, _, _, _, _, _, _, w1, w2, w3, _, _⟩
      · rw [er] at b
        unfold mSM at g2
        rw [b] at g2
        cases g2
      · exact ⟨w1, w2, w3⟩
    rcases m8 with ⟨b, _⟩ | ⟨b, b0, b1, b2, b3, b4, b5, b6, b7, b8, b9, b10, b11, b12, b13, b14⟩
    · rw [er] at b
      unfold mSM at g2
      rw [b] at g2
      cases g2
    · obtain ⟨l1, l2, l3, l4⟩ := prS_ln 30 0 1 _ _ _ _ _ (by omega) b7
      have e1 : btT t m = r.2.2.2.1.1 := by
        show (if m = 384 then t.2.1.1 else (mdM t.1 m).2.2.2.2.1) = _
        rw [if_neg e, ← er]
        exact b3
      have e2 : i0T t m = r.1.2.2.2.2.2.2.1 := by
        show (if m = 384 then t.2.2.2.2.2 else (mdM t.1 m).2.2.2.2.2.2.1) = _
        rw [if_neg e, ← er]
      have e3 : vnT t m = r.1.2.2.2.2.2.1 := by
        show (if m = 384 then t.2.1.2 else (mdM t.1 m).2.2.2.2.2.1) = _
        rw [if_neg e, ← er]
      have e4 : npT t.1 m = r.2.2.2.1.2.1.length := by
        show (if m = 384 then 0 else (psM t.1 m).length) = _
        rw [if_neg e]
        unfold psM
        rw [← er, b2]
      have e5 : enR rs m = r.2.1 := by unfold enR; rw [hr]
      have e6 : kqT T rs kb m = r.2.2.1 + (tyL T r.1.1).length + r.2.2.2.1.2.2.length := by
        unfold kqT
        rw [if_neg e, hr]
      have e7 : zT rs z m = r.2.2.2.2 := by
        unfold zT
        rw [if_neg e, hr]
      unfold MBk
      rw [e1, e2, e3, e4, e5, e6, e7]
      refine ⟨⟨1, by omega, b7⟩, b9, sbk_of (by omega) (by omega) (by omega) (fun kt hk => (ag kt _ _ hk OE AE).1), sbo_of (fun ot ho => (ag _ ot _ KE ho AE).2.1), (fun ag' ha => (ag _ _ ag' KE OE ha).2.2), ⟨l1, by omega⟩, by omega, by omega, fun _ => ⟨b8, by rw [← er]; omega⟩⟩
theorem j_goA (hT : TH T N s) {c : Nat} (f : fne s c) (hc : c ≤ N) (v : Int32) {d : Nat} : ∃ s' c', mjF (d + 1) 179 [.ref 58, .int v] (mjW0 s) = some (none, mjW0 s') ∧ o58 s s' ∧ fne s' c' ∧ c' ≤ N := by
  have hN := hT.2.1
  by_cases h1 : v < 0
  · refine ⟨s, c, ?_, offG.rf, f, hc⟩
    rw [e_179]
    unfold f_179 b_179_0
    rw [xg_58_7, f.2, if_pos rfl, if_pos h1]
  · by_cases h2 : nI (N + 1) ≤ v
    · refine ⟨s, c, ?_, offG.rf, f, hc⟩
      rw [e_179]
      unfold f_179 b_179_0
      rw [xg_58_7, f.2, if_pos rfl, if_neg h1, xg_58_5, hT.1, if_pos h2]
    · obtain ⟨t, ht, hv⟩ : ∃ t, t ≤ N ∧ v = nI t := by
        have a1 : 0 ≤ v.toInt := by
          have := Int32.not_lt.mp h1
          exact Int32.le_iff_toInt_le.mp this
        have a2 : v.toInt < (nI (N + 1)).toInt := Int32.lt_iff_toInt_lt.mp (Int32.not_le.mp h2)
        rw [nI_toInt (by omega)] at a2
        refine ⟨v.toInt.toNat, by omega, ?_⟩
        apply Int32.toInt_inj.mp
        rw [nI_toInt (by omega)]
        omega
      rw [hv]
      exact ⟨_, t, j_go hT f hc ht, o58.go _ _, f.go _, ht⟩
/-- main has no PARAMS, whatever stands at its NAME -/
theorem x_5n {L : List CD} (C : CB T N q L tr s) {c d : Nat} (f : fne s c) (hc : c ≤ N) (h20 : s.1 (q + 20) 384 = 0) : ∃ s' c', mjF (d + 3) 5 [.ref 75, .int (nI 384)] (mjW0 s) = some (none, mjW0 s') ∧ VSr T N L [] 0 s' ∧ oSt q s s' ∧ fne s' c' ∧ c' ≤ N ∧ (∀ h, ¬ h = 58 → ¬ h = 75 → s'.1 h = s.1 h) := by
  have hq' : q = 2 ∨ q = 30 := C.pq
  obtain ⟨s1, a1, a2, a3, a4, a5⟩ := z_75 (T := T) (N := N) (L := L) (q := q) s
  have C1 := C.oC a3.C
  have f1 : fne s1 c := ⟨by rw [a4 58 (by decide)]; exact f.1, by rw [a4 58 (by decide)]; exact f.2⟩
  obtain ⟨s2, c2, b1, xg, b3, b4⟩ := j_goA (d := d + 1) C1.1.1.1 f1 hc (s1.1 69 384 + 2)
  have C2 := C1.oC xg.C
  refine ⟨s2, c2, ?_, a2.oE C.pq xg.oe, a3.tr xg.S, b3, b4, fun h h1 h2 => by rw [xg.r h1, a4 h h2]⟩
  have e20 : s2.1 (q + 20) 384 = 0 := by rw [xg.r (by omega), a4 _ (by omega)]; exact h20
  rw [e_5]
  unfold f_5 b_5_0
  rw [a1, xg_75_0, xg_75_1, xg_64_7, wa_69 (by omega), xV_58, b1, bN_s, show mjN = 99999999 + 1 from rfl, L5_S]
  unfold b_5_30
  rw [xg_75_4, C2.2.2.2.2.2.2.1, ymg_6 C.pq, wya_20 C.pq (by omega), e20, if_pos (Int32.le_refl _)]
theorem VD_T {L : List CD} : ∀ (n : Nat) (e : VE), e ∈ pvs T L m n → e.2.2.2 = 0
  | 0, e, h => by cases h
  | n + 1, e, h => by
    rcases List.mem_append.mp h with k | k
    · exact VD_T n e k
    · have : e = (kyT T (pnT L m n), pyT T L m n, n, 0) := by simpa using k
      rw [this]
/-- MBm out of what was read and judged -/
theorem MBm_of (R : TRc T N k0 t rs kb z) (hD : 2 ≤ D) (hk0 : k0 ≤ 1000) (hN : N ≤ 3000) (ha : AGf (s.1 63) t.2.2.2.2.1) (hn : HN T N t.1) (h18 : ∀ m, m ≤ 384 → s.1 (q + 18) m = b2 (isMT t.1 m)) (h16 : ∀ m, m < nMem t.1 → s.1 (q + 16) m = nI (hmM t.1 m) ∧ hmM t.1 m < t.1.length) (h16m : s.1 (q + 16) 384 = -1) (h17 : ∀ m, m < nMem t.1 → s.1 (q + 17) m = tyI (tyM T t.1 m)) (h17m : s.1 (q + 17) 384 = -1) (h70 : ∀ m, m < nMem t.1 → mSM t.1 m = true → s.1 70 m = nI (btT t m)) (h70m : s.1 70 384 = nI t.2.1.1) (h20 : s.1 (q + 20) 384 = 0) : MBm N q D (isMT t.1) (EmT T t.1 tr (ktL k0 t.2.2.1)) (btT t) (kqT T rs kb) (i0T t) (zT rs z) (jmT T t.1) s := by
  have hF := MBk_ex R hk0 hN
  refine fun m hm => ⟨h18 m hm, fun im => ?_⟩
  obtain ⟨⟨o, ho, k1⟩, k2, k3, k4, k5, ⟨k6, k6'⟩, k7, k8, k9⟩ := hF m hm im
  have E0 : ∀ x, (EmT T t.1 tr (ktL k0 t.2.2.1) x).1 = T ∧ (EmT T t.1 tr (ktL k0 t.2.2.1) x).2.1 = t.1 ∧ (EmT T t.1 tr (ktL k0 t.2.2.1) x).2.2.1 = tr ∧ (EmT T t.1 tr (ktL k0 t.2.2.1) x).2.2.2.1 = ktL k0 t.2.2.1 := by
    intro x
    unfold EmT
    by_cases e : x = 384
    · rw [if_pos e]; exact ⟨rfl, rfl, rfl, rfl⟩
    · rw [if_neg e]; exact ⟨rfl, rfl, rfl, rfl⟩
  obtain ⟨E1, E2, E3, E4⟩ := E0 m
  obtain ⟨G1, G2, G3, G4⟩ := E0 384
  have bN : btT t m ≤ N := by omega
  refine ⟨by rw [E1, G1], by rw [E2, G2], by rw [E3, G3], ?_, ?_, ?_, ?_, ?_, bN, ?_, ⟨30, o, by omega, by rw [E1]; exact k1⟩, by rw [E4]; exact k3.kt (by have := R.2.2.2.1; omega), k5 _ ha, by omega, by omega, ?_, k6', ?_⟩
  · by_cases e : m = 384
    · subst e; exact h16m
    · obtain ⟨g1, g2⟩ := isMT_lt im e
      rw [show (EmT T t.1 tr (ktL k0 t.2.2.1) m).2.2.2.2.1 = some (hmM t.1 m) by unfold EmT; rw [if_neg e]]
      exact (h16 m g1).1
  · intro c hc
    rw [E2]
    by_cases e : m = 384
    · subst e; cases hc
    · obtain ⟨g1, g2⟩ := isMT_lt im e
      rw [show (EmT T t.1 tr (ktL k0 t.2.2.1) m).2.2.2.2.1 = some (hmM t.1 m) by unfold EmT; rw [if_neg e]] at hc
      cases hc
      exact (h16 m g1).2
  · by_cases e : m = 384
    · subst e; exact h17m
    · obtain ⟨g1, g2⟩ := isMT_lt im e
      rw [show (EmT T t.1 tr (ktL k0 t.2.2.1) m).2.2.2.2.2.1 = tyM T t.1 m by unfold EmT; rw [if_neg e]]
      exact h17 m g1
  · rw [E2]
    by_cases e : m = 384
    · subst e; exact Or.inl rfl
    · obtain ⟨g1, g2⟩ := isMT_lt im e
      rw [show (EmT T t.1 tr (ktL k0 t.2.2.1) m).2.2.2.2.2.1 = tyM T t.1 m by unfold EmT; rw [if_neg e]]
      exact ty_v hn (fun c hc => by cases hc; exact (h16 m g1).2)
  · by_cases e : m = 384
    · subst e; exact h70m
    · obtain ⟨g1, g2⟩ := isMT_lt im e
      exact h70 m g1 g2
  · intro e he
    show e.2.2.2 ≤ 0
    have he' : e ∈ (if m = 384 then [] else pvs T t.1 m (psM t.1 m).length) := he
    by_cases g : m = 384
    · rw [if_pos g] at he'; cases he'
    · rw [if_neg g] at he'
      rw [VD_T _ e he']
      exact Nat.le_refl _
  · intro m' h1 h2 im'
    have e : ¬ m = 384 := by omega
    obtain ⟨g1, g2⟩ := isMT_lt im e
    obtain ⟨r, hr, er⟩ := R.at g1
    have e5 : enR rs m = r.2.1 := by unfold enR; rw [hr]
    rw [(k9 e).1, e5]
    by_cases e' : m' = 384
    · subst e'
      have := (R.mok (R.kex hN hk0) (OT_ex (0, 0, 0, 0, 0) _) ha hr).2
      show r.2.1 ≤ t.2.1.1
      omega
    · obtain ⟨g1', g2'⟩ := isMT_lt im' e'
      obtain ⟨r', hr', er'⟩ := R.at g1'
      have := (R.2.2.2.2.2.2.2.2.2.2 _ _ (s.1 63) (R.kex hN hk0) (OT_ex (0, 0, 0, 0, 0) _) ha).1.lt h1 hr hr'
      rw [er'] at this
      have := ((hF m' h2 im').2.2.2.2.2.2.2.2 e').2
      omega
  · intro s2 c C o2 f hc
    rw [G1, G2, G3] at C
    rw [G1, G2]
    have hq' : q = 2 ∨ q = 30 := C.pq
    by_cases e : m = 384
    · subst e
      obtain ⟨d, rfl⟩ : ∃ d, D = d + 2 := ⟨D - 2, by omega⟩
      obtain ⟨s5, c5, x1, x2, x3, x4, x5, x6⟩ := x_5n (d := d) C f hc (by rw [o2.r (by omega)]; exact h20)
      exact ⟨s5, c5, x1, x2, x3, x4, x5, fun h a1 a2 _ _ => x6 h a1 a2⟩
    · obtain ⟨g1, g2⟩ := isMT_lt im e
      obtain ⟨d, rfl⟩ : ∃ d, D = d + 2 := ⟨D - 2, by omega⟩
      obtain ⟨s5, x1, x2, x3, x4, x5, x6⟩ := x_5 (d := d) g1 C f hc
      refine ⟨s5, _, x1, ?_, x3, x4, x5, x6⟩
      show VSr T N t.1 (if m = 384 then [] else pvs T t.1 m (psM t.1 m).length) (npT t.1 m) s5
      rw [if_neg e, show npT t.1 m = (psM t.1 m).length from if_neg e]
      exact x2
end MJA63
