/-! ===== the reference's judge of BLOCKS: VARIABLES; the MEMBER that is asked for ===== -/
/-- VARIABLES that are known, told, the one that is told; no TYPE of theirs is one of the KINDS X to Xe -/
def VB (L : List CD) (b : Nat) (s : mjSt3) (vs : List VE) (td : Nat) (pn : Bool) (nw : Int64 × Nat) (dp X Xe : Nat) : Prop :=
  (∀ e, e ∈ vs → e.2.2.1 < td ∧ s.2.1 158 e.2.2.1 = e.1 ∧ TKr L b s (s.1 159 e.2.2.1) e.2.1 ∧ s.1 160 e.2.2.1 = nI e.2.2.2 ∧ s.1 161 e.2.2.1 = 1 ∧ e.2.2.2 ≤ 30000) ∧
  (∀ v, v < td → s.1 161 v = 0 ∨ ∃ e, e ∈ vs ∧ e.2.2.1 = v) ∧
  vs.Pairwise (fun a c => a.2.2.1 < c.2.2.1) ∧
  (∀ v, v < td + (if pn = true then 1 else 0) → ∀ k, X ≤ k → k < Xe → ¬ s.1 159 v = nI k) ∧
  s.1 97 87 = nI (td + (if pn = true then 1 else 0)) ∧ td + (if pn = true then 1 else 0) ≤ 16 ∧
  (pn = true → s.2.1 158 td = nw.1 ∧ TKr L b s (s.1 159 td) nw.2 ∧ s.1 160 td = nI dp ∧ s.1 161 td = 0)
def vN (o : Option VE) : Int32 := match o with
  | some e => nI e.2.2.1
  | none => -1
section MJA96
variable {T : TT} {d N b k t c n m v : Nat} {ks : List Nat} {L : List CD} {s s' : mjSt3} {vs : List VE} {td dp X Xe : Nat} {pn : Bool} {nw : Int64 × Nat} {key : Int64}
theorem vsK_min : ∀ (vs : List VE) (e : VE), vs.Pairwise (fun a c => a.2.2.1 < c.2.2.1) → e ∈ vs → e.1 = key → (∀ e', e' ∈ vs → e'.1 = key → e.2.2.1 ≤ e'.2.2.1) → vsK vs key = some e
  | [], e, _, h, _, _ => by cases h
  | x :: l, e, hp, h, hk, hm => by
    unfold vsK
    rw [List.find?_cons]
    rw [List.pairwise_cons] at hp
    by_cases q : x.1 = key
    · rw [decide_eq_true q]
      have le := hm x (List.mem_cons_self) q
      rcases List.mem_cons.mp h with e1 | e1
      · rw [e1]
      · have := hp.1 e e1
        omega
    · rw [decide_eq_false q]
      have hl : e ∈ l := (List.mem_cons.mp h).elim (fun e1 => absurd (by rw [← e1]; exact hk) q) id
      exact vsK_min l e hp.2 hl hk (fun e' h' hk' => hm e' (List.mem_cons_of_mem _ h') hk')
theorem vsK_none (h : ∀ e, e ∈ vs → ¬ e.1 = key) : vsK vs key = none := by
  unfold vsK
  rw [List.find?_eq_none]
  exact fun e he => by
    rw [decide_eq_true_iff]
    exact h e he
theorem vsK_mem {e : VE} (h : vsK vs key = some e) : e ∈ vs ∧ e.1 = key := by
  unfold vsK at h
  exact ⟨List.mem_of_find?_eq_some h, of_decide_eq_true (List.find?_some (p := fun e : VE => decide (e.1 = key)) h)⟩
theorem L325_S (R : mjR) (n a : Nat) (e : Int64) (f : Int32) (hp : mjH) : L_325_2 R (n + 1) a e f hp = b_325_2 R (L_325_2 R n) a e f hp := rfl
theorem lq_325 (V : VB L b s vs td pn nw dp X Xe) (R : mjR) : ∀ (r i n : Nat), i + r = td + (if pn = true then 1 else 0) → r < n → (∀ e, e ∈ vs → e.1 = key → i ≤ e.2.2.1) → L_325_2 R n 97 key (nI i) (mjW0 s) = some (some (.int (vN (vsK vs key))), mjW0 s)
  | r, i, 0, h, hr, hi => by omega
  | 0, i, n + 1, h, hr, hi => by
    obtain ⟨v1, v2, v3, v4, v5, v6, v7⟩ := V
    rw [L325_S]
    unfold b_325_2
    rw [xg_97_87, v5, if_pos (nI_le (by omega) (by omega)), vsK_none (fun e he hk => by have := hi e he hk; have := (v1 e he).1; omega)]
    rfl
  | r + 1, i, n + 1, h, hr, hi => by
    have V' := V
    obtain ⟨v1, v2, v3, v4, v5, v6, v7⟩ := V
    rw [L325_S]
    unfold b_325_2 b_325_32
    rw [xg_97_87, v5, if_neg (nI_ge (by omega) (by omega)), xg_97_86, wa_161 (by omega)]
    have nx : (∀ e, e ∈ vs → e.1 = key → ¬ e.2.2.1 = i) → L_325_2 R n 97 key (nI i + 1) (mjW0 s) = some (some (.int (vN (vsK vs key))), mjW0 s) := by
      intro hne
      rw [nI_1]
      exact lq_325 V' R r (i + 1) n (by omega) (by omega) (fun e he hk => by have := hi e he hk; have := hne e he hk; omega)
    by_cases z : s.1 161 i = 0
    · rw [if_pos z]
      exact nx (fun e he _ q => by
        have := (v1 e he).2.2.2.2.1
        rw [q, z] at this
        exact absurd this (by decide))
    · rw [if_neg z, xg_97_83, wa_158 (by omega)]
      have itd : i < td := by
        by_cases g : i < td
        · exact g
        · exfalso
          cases pn with
          | false => rw [if_neg (by decide)] at h; omega
          | true =>
            rw [if_pos rfl] at h
            have e1 : i = td := by omega
            rw [e1] at z
            exact z (v7 rfl).2.2.2
      rcases v2 i itd with z' | ⟨e, he, ei⟩
      · exact absurd z' z
      · have nm := (v1 e he).2.1
        rw [ei] at nm
        rw [nm]
        by_cases q : e.1 = key
        · rw [if_pos ((lg_cmp_eq _ _).mpr q), vsK_min vs e v3 he q (fun e' h' hk' => by have := hi e' h' hk'; omega)]
          show some (some (Value.int (nI i)), mjW0 s) = some (some (Value.int (nI e.2.2.1)), mjW0 s)
          rw [ei]
        · rw [if_neg (fun x => q ((lg_cmp_eq _ _).mp x))]
          refine nx (fun e' h' hk' ei' => ?_)
          have nm' := (v1 e' h').2.1
          rw [ei'] at nm'
          rw [nm] at nm'
          exact q (nm'.trans hk')
/-- known -/
theorem x_325 (V : VB L b s vs td pn nw dp X Xe) (key : Int64) : mjF (d + 1) 325 [.ref 97, .long key] (mjW0 s) = some (some (.int (vN (vsK vs key))), mjW0 s) := by
  rw [e_325]
  unfold f_325 b_325_0
  have := V.2.2.2.2.2.1
  have := mjN_v
  exact lq_325 V (mjF d) (td + (if pn = true then 1 else 0)) 0 mjN (by omega) (by omega) (fun e _ _ => Nat.zero_le _)
theorem vN_m1 (V : VB L b s vs td pn nw dp X Xe) : vN (vsK vs key) = -1 ↔ vsK vs key = none := by
  cases h : vsK vs key with
  | none => exact ⟨fun _ => rfl, fun _ => rfl⟩
  | some e =>
    have h1 := (V.1 e (vsK_mem h).1).1
    have h2 := V.2.2.2.2.2.1
    exact ⟨fun x => absurd x (nI_m1 (by omega)), fun x => by cases x⟩
/-- NAMES of a CLASS's MEMBERS are all different: then the first of the NAME is the one of its sort -/
theorem fmR_om (uq : ∀ m, m < nMem L → omT T L (hmM L m) (nkM T L m) = some m) (hc : c < L.length) (hh : ∀ i, i < mcL L c → hmM L (fmL L c + i) = c ∧ fmL L c + i < nMem L) (isM : Bool) : fmR T L (b2 isM) key c = match omT T L c key with
    | some m => if mSM L m = isM then some m else none
    | none => none := by
  have b22 : ¬ b2 isM = 2 := by cases isM <;> decide
  have bb : ∀ x : Bool, (decide (b2 isM = 2) || decide (b2 x = b2 isM)) = decide (x = isM) := by
    intro x
    rw [decide_eq_false b22, Bool.false_or]
    cases x <;> cases isM <;> rfl
  unfold fmR
  cases ho : omT T L c key with
  | none =>
    have nf : ∀ i, i < mcL L c → ¬ nkM T L (fmL L c + i) = key := by
      intro i hi e
      have := uq _ (hh i hi).2
      rw [(hh i hi).1, e, ho] at this
      cases this
    rw [fnd_none.mpr (fun i hi => by rw [decide_eq_false (nf i hi), Bool.false_and])]
  | some m =>
    obtain ⟨m1, m2, m3⟩ := om_lt ho
    have em : m = fmL L c + (m - fmL L c) := by omega
    have un : ∀ i, i < mcL L c → nkM T L (fmL L c + i) = key → fmL L c + i = m := by
      intro i hi e
      have := uq _ (hh i hi).2
      rw [(hh i hi).1, e, ho] at this
      exact (Option.some.inj this).symm
    dsimp only
    by_cases g : mSM L m = isM
    · rw [if_pos g]
      have : fnd (fun i => decide (nkM T L (fmL L c + i) = key) && (decide (b2 isM = 2) || decide (b2 (mSM L (fmL L c + i)) = b2 isM))) (mcL L c) = some (m - fmL L c) := by
        refine fnd_some.mpr ⟨by omega, ?_, fun j hj => ?_⟩
        · rw [bb, ← em, decide_eq_true m3, decide_eq_true g]
          rfl
        · by_cases e : nkM T L (fmL L c + j) = key
          · have := un j (by omega) e
            omega
          · rw [decide_eq_false e, Bool.false_and]
      rw [this]
      dsimp only
      rw [← em]
    · rw [if_neg g]
      rw [fnd_none.mpr (fun i hi => by
        by_cases e : nkM T L (fmL L c + i) = key
        · rw [bb, un i hi e, decide_eq_false g, Bool.and_false]
        · rw [decide_eq_false e, Bool.false_and])]
/-- findMember: the MEMBER and the OWNERS of the KIND as those of its CLASS -/
theorem x_316m (Ac : ACY T N L) (J : RJ T N b ks L s) (A : ∀ x, x < L.length → ABr T L b s x) (uq : ∀ m, m < nMem L → omT T L (hmM L m) (nkM T L m) = some m) (hv : vK L k) (U : UPv L b s k) (isM : Bool) : ∃ s', mjF (d + 3) 316 [.ref 97, .long key, .int (b2 isM), .int 0] (mjW0 s) = some (some (.int (mR b (memT T L (cK k) key isM))), mjW0 s') ∧ oUp s s' ∧ ∀ m, memT T L (cK k) key isM = some m → m < nMem L ∧ mSM L m = isM ∧ UPv L b s' (seenT T L k m) ∧ vK L (seenT T L k m) ∧ cK (seenT T L k m) = hmM L m := by
  have hn := Ac.1
  have ck := hv.cl hn
  obtain ⟨s', v', j, a1, a2, a3, a4, a5, a6, a7⟩ := x_316 (d := d) (key := key) (w := b2 isM) Ac J A hv U
  obtain ⟨cu1, cu2⟩ := chV_v hn j k v' hv a5
  have c' := cu1.cl hn
  have hh : ∀ c, c < L.length → ∀ i, i < mcL L c → hmM L (fmL L c + i) = c ∧ fmL L c + i < nMem L := by
    intro c hc i hi
    obtain ⟨x1, x2, x3, x4⟩ := J.mc hc
    obtain ⟨E, hE⟩ : ∃ E, L[c]? = some E := ⟨_, List.getElem?_eq_getElem hc⟩
    have ml : mcL L c = E.2.length := by unfold mcL; rw [hE]
    exact ⟨(nu_at hE (by omega)).2.1, by omega⟩
  have j16 : j < 16 := by
    by_cases g : j < 16
    · exact g
    · have := up16 Ac ck
      rw [show j = 16 + (j - 16) by omega, upI_add, this] at cu2
      cases cu2
  have st := chV_st (T := T) hn hv j
  rw [a5] at st
  have fe : ∀ a, a < L.length → fmR T L (b2 isM) key a = match omT T L a key with
    | some m => if mSM L m = isM then some m else none
    | none => none := fun a ha => fmR_om uq ha (hh a ha) isM
  have mem : memT T L (cK k) key isM = fmR T L (b2 isM) key (cK v') := by
    rw [fe _ c']
    unfold memT
    refine anc_find (g := fun a => match omT T L a key with
      | some m => if mSM L m = isM then some m else none
      | none => none) j 16 (cK k) (cK v') (fun i hi y hy => ?_) cu2 j16 ?_
    · obtain ⟨x, x1, x2⟩ := chn_ex hn ck i y hy
      have sx := chV_st (T := T) hn hv i
      rw [x1] at sx
      have := a6 i hi _ sx
      rw [stand_c hn (chn_v hn ck i x x1), x2] at this
      rw [fe y (by rw [← x2]; exact (chn_v hn ck i x x1).cl hn)] at this
      exact this
    · by_cases g : fmR T L (b2 isM) key (cK v') = none
      · refine Or.inr ?_
        unfold upT
        rw [a7 g]
        rfl
      · rw [fe _ c'] at g
        exact Or.inl g
  refine ⟨s', by rw [mem]; exact a1, a2, fun m hm => ?_⟩
  rw [mem] at hm
  obtain ⟨l1, l2⟩ := fmR_lt hm
  obtain ⟨E, hE⟩ : ∃ E, L[cK v']? = some E := ⟨_, List.getElem?_eq_getElem c'⟩
  have ml : mcL L (cK v') = E.2.length := by unfold mcL; rw [hE]
  have em : m = fmL L (cK v') + (m - fmL L (cK v')) := by omega
  obtain ⟨h1, h2⟩ := hh _ c' (m - fmL L (cK v')) (by omega)
  rw [← em] at h1 h2
  have hs : mSM L m = isM := by
    rw [fe _ c'] at hm
    cases ho : omT T L (cK v') key with
    | none => rw [ho] at hm; cases hm
    | some x =>
      rw [ho] at hm
      dsimp only at hm
      by_cases g : mSM L x = isM
      · rw [if_pos g] at hm; rw [← Option.some.inj hm]; exact g
      · rw [if_neg g] at hm; cases hm
  cases hch : chn (nmL L) (abT T L) (cK k) j with
  | none => rw [hch] at st; cases st
  | some v0 =>
    rw [hch] at st
    have ev : v' = stand (nmL L) v0 k := Option.some.inj st
    have ec0 : cK v' = cK v0 := by rw [ev, stand_c hn (chn_v hn ck j v0 hch)]
    have sn : seenT T L k m = v' := by
      unfold seenT
      rw [h1, ec0, vw_chn Ac ck hch j16]
      exact ev.symm
    rw [sn]
    exact ⟨h2, hs, a3, a4, h1.symm⟩
end MJA96
