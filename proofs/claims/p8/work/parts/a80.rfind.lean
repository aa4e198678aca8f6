/-! ===== the reference: findMember ===== -/
/-- the first MEMBER of that name and sort (2: any) told in CLASS a -/
def fmR (T : TT) (L : List CD) (w : Int32) (key : Int64) (a : Nat) : Option Nat := match fnd (fun i => decide (nkM T L (fmL L a + i) = key) && (decide (w = 2) || decide (b2 (mSM L (fmL L a + i)) = w))) (mcL L a) with
  | none => none
  | some i => some (fmL L a + i)
def mR (b : Nat) (o : Option Nat) : Int32 := match o with
  | none => -1
  | some m => nI (400 * b + m)
section MJA80
variable {T : TT} {d N b k t c n m v u a : Nat} {ks : List Nat} {L : List CD} {s s' : mjSt3} {w : Int32} {key : Int64}
theorem chV_S : ∀ (j : Nat) (v : Nat), chV T L v (j + 1) = match abT T L (cK v) with
    | none => none
    | some u => chV T L (stand (nmL L) u v) j
  | 0, v => by
    show (match abT T L (cK v) with
      | none => none
      | some u => some (stand (nmL L) u v)) = _
    cases abT T L (cK v) <;> rfl
  | j + 1, v => by
    have ih := chV_S j v
    show (match chV T L v (j + 1) with
      | none => none
      | some w => match abT T L (cK w) with
        | none => none
        | some u => some (stand (nmL L) u w)) = _
    rw [ih]
    cases abT T L (cK v) <;> rfl
theorem RJ.sort (J : RJ T N b ks L s) (hm : m < nMem L) : s.1 125 (400 * b + m) = b2 (mSM L m) := (J.mem hm).1.2.1
theorem L316_58 (R : mjR) (k : Nat → Int64 → Int32 → Int32 → Int32 → mjH → mjU) (n a : Nat) (x : Int64) (b e f g : Int32) (hp : mjH) : L_316_58 R k (n + 1) a x b e f g hp = b_316_58 R k (L_316_58 R k n) a x b e f g hp := rfl
theorem L316_29 (R : mjR) (n a : Nat) (x : Int64) (b e f : Int32) (hp : mjH) : L_316_29 R (n + 1) a x b e f hp = b_316_29 R (L_316_29 R n) a x b e f hp := rfl
theorem RJ.mc (J : RJ T N b ks L s) (ha : a < L.length) : s.1 108 (16 * b + a) = nI (mcL L a) ∧ s.1 107 (16 * b + a) = nI (fmL L a) ∧ fmL L a + mcL L a ≤ nMem L ∧ mcL L a ≤ 24 := by
  obtain ⟨E, hE⟩ : ∃ E, L[a]? = some E := ⟨_, List.getElem?_eq_getElem ha⟩
  have mc : mcL L a = E.2.length := by unfold mcL; rw [hE]
  have tk : fmL L a + E.2.length ≤ nMem L := nMem_take hE
  refine ⟨by rw [mc]; exact (J.2.1.2.2 a E hE).2.1, (J.hd ha).2.2.2.2.2.2.1, by omega, by rw [mc]; exact J.2.2.2.2.1 a E hE⟩
theorem lq_316i (J : RJ T N b ks L s) (ha : a < L.length) (h95 : s.1 97 95 = nI (16 * b + a)) (R : mjR) {k29 : Nat → Int64 → Int32 → Int32 → Int32 → mjH → mjU} : ∀ (r i n : Nat), i + r = mcL L a → r + 1 < n → (∀ x, x < i → (decide (nkM T L (fmL L a + x) = key) && (decide (w = 2) || decide (b2 (mSM L (fmL L a + x)) = w))) = false) → L_316_58 R k29 n 97 key w (-1) (nI (400 * b + fmL L a)) (nI (400 * b + fmL L a + i)) (mjW0 s) = b_316_119 R k29 97 key w (mR b (fmR T L w key a)) (mjW0 s)
  | r, i, 0, e, hr, h => by omega
  | 0, i, n + 1, e, hr, h => by
    have hb := J.b1
    have h16 := J.len
    have m384 := J.n384
    obtain ⟨c1, c2, c3, c4⟩ := J.mc ha
    rw [L316_58]
    unfold b_316_58 fmR
    rw [xg_97_19, xg_97_95, h95, wa_108 (by omega), c1, nI_ad, if_pos (nI_le (by omega) (by omega)), fnd_none.mpr (fun x hx => h x (by omega))]
    rfl
  | r + 1, i, n + 1, e, hr, h => by
    have hb := J.b1
    have h16 := J.len
    have m384 := J.n384
    obtain ⟨c1, c2, c3, c4⟩ := J.mc ha
    have hm : fmL L a + i < nMem L := by omega
    have v1 : s.2.1 132 (400 * b + fmL L a + i) = nkM T L (fmL L a + i) := by rw [Nat.add_assoc]; exact J.mn hm
    have v2 : s.1 125 (400 * b + fmL L a + i) = b2 (mSM L (fmL L a + i)) := by rw [Nat.add_assoc]; exact J.sort hm
    have pre : L_316_58 R k29 (n + 1) 97 key w (-1) (nI (400 * b + fmL L a)) (nI (400 * b + fmL L a + i)) (mjW0 s) = if (decide (nkM T L (fmL L a + i) = key) && (decide (w = 2) || decide (b2 (mSM L (fmL L a + i)) = w))) = true then L_316_58 R k29 n 97 key w (nI (400 * b + fmL L a + i)) (nI (400 * b + fmL L a)) (nI (400 * b + fmL L a + (i + 1))) (mjW0 s) else L_316_58 R k29 n 97 key w (-1) (nI (400 * b + fmL L a)) (nI (400 * b + fmL L a + (i + 1))) (mjW0 s) := by
      rw [L316_58]
      unfold b_316_58 b_316_109 b_316_113
      rw [xg_97_19, xg_97_95, h95, wa_108 (by omega), c1, nI_ad, if_neg (nI_ge (by omega) (by omega)), if_pos rfl, xg_97_43, wa_132 (by omega), v1, xg_97_36, wa_125 (by omega), v2, nI_1, show 400 * b + fmL L a + i + 1 = 400 * b + fmL L a + (i + 1) by omega]
      by_cases q : nkM T L (fmL L a + i) = key
      · rw [if_pos ((lg_cmp_eq _ _).mpr q), decide_eq_true q, Bool.true_and]
        by_cases q2 : w = 2
        · rw [if_pos q2, decide_eq_true q2]
          rfl
        · rw [if_neg q2, decide_eq_false q2, Bool.false_or]
          by_cases q3 : b2 (mSM L (fmL L a + i)) = w
          · rw [if_pos q3, decide_eq_true q3]
            rfl
          · rw [if_neg q3, decide_eq_false q3]
            rfl
      · rw [if_neg (fun x => q ((lg_cmp_eq _ _).mp x)), decide_eq_false q, Bool.false_and]
        rfl
    rw [pre]
    by_cases q : (decide (nkM T L (fmL L a + i) = key) && (decide (w = 2) || decide (b2 (mSM L (fmL L a + i)) = w))) = true
    · rw [if_pos q]
      obtain ⟨n', rfl⟩ : ∃ n', n = n' + 1 := ⟨n - 1, by omega⟩
      have fe : fmR T L w key a = some (fmL L a + i) := by
        have hf : fnd (fun i => decide (nkM T L (fmL L a + i) = key) && (decide (w = 2) || decide (b2 (mSM L (fmL L a + i)) = w))) (mcL L a) = some i := fnd_some.mpr ⟨by omega, q, h⟩
        unfold fmR
        rw [hf]
      rw [L316_58, fe]
      unfold b_316_58
      rw [xg_97_19, xg_97_95, h95, wa_108 (by omega), c1, nI_ad, if_neg (show ¬ nI (400 * b + fmL L a + i) = -1 from nI_m1 (by omega)), ite_self, show mR b (some (fmL L a + i)) = nI (400 * b + fmL L a + i) by rw [Nat.add_assoc]; rfl]
    · rw [if_neg q]
      refine lq_316i J ha h95 R r (i + 1) n (by omega) (by omega) (fun x hx => ?_)
      by_cases e' : x = i
      · rw [e']; exact Bool.not_eq_true _ ▸ q
      · exact h x (by omega)
theorem mR_m1 (hb : b ≤ 1) (hm : ∀ m, fmR T L w key a = some m → m < 400) : mR b (fmR T L w key a) = -1 ↔ fmR T L w key a = none := by
  cases h : fmR T L w key a with
  | none => exact ⟨fun _ => rfl, fun _ => rfl⟩
  | some m =>
    have := hm m h
    exact ⟨fun e => absurd e (nI_m1 (by omega)), fun e => by cases e⟩
theorem fmR_lt (h : fmR T L w key a = some m) : fmL L a ≤ m ∧ m < fmL L a + mcL L a := by
  unfold fmR at h
  cases hf : fnd (fun i => decide (nkM T L (fmL L a + i) = key) && (decide (w = 2) || decide (b2 (mSM L (fmL L a + i)) = w))) (mcL L a) with
  | none => rw [hf] at h; cases h
  | some i =>
    rw [hf] at h
    have := fnd_lt hf
    have e : fmL L a + i = m := by simpa using h
    omega
/-- the walk up -/
theorem lq_316 (Ac : ACY T N L) : ∀ (r n : Nat) (s : mjSt3) (v : Nat), upI (upT T L) (r + 1) (cK v) = none → r + 2 < n → RJ T N b ks L s → (∀ x, x < L.length → ABr T L b s x) → vK L v → UPv L b s v → ∃ s' v' j, L_316_29 (mjF (d + 2)) n 97 key w (-1) 1 (mjW0 s) = some (some (.int (mR b (fmR T L w key (cK v')))), mjW0 s') ∧ oUp s s' ∧ UPv L b s' v' ∧ vK L v' ∧ chV T L v j = some v' ∧ (∀ i, i < j → ∀ x, chV T L v i = some x → fmR T L w key (cK x) = none) ∧ (fmR T L w key (cK v') = none → abT T L (cK v') = none)
  | r, 0, s, v, hu, hr, J, A, hv, U => by omega
  | r, 1, s, v, hu, hr, J, A, hv, U => by omega
  | r, n + 2, s, v, hu, hr, J, A, hv, U => by
    have hn := Ac.1
    have hb := J.b1
    have h16 := J.len
    have m384 := J.n384
    have ha := hv.cl hn
    obtain ⟨c1, c2, c3, c4⟩ := J.mc ha
    have fin : ∀ x : Int32, L_316_29 (mjF (d + 2)) (n + 1) 97 key w x 0 (mjW0 s) = some (some (.int x), mjW0 s) := fun x => by
      rw [L316_29]
      unfold b_316_29
      rw [if_pos rfl]
    have pre : L_316_29 (mjF (d + 2)) (n + 2) 97 key w (-1) 1 (mjW0 s) = b_316_119 (mjF (d + 2)) (L_316_29 (mjF (d + 2)) (n + 1)) 97 key w (mR b (fmR T L w key (cK v))) (mjW0 s) := by
      rw [L316_29]
      unfold b_316_29
      rw [if_neg (by decide), xg_97_18, xg_97_95, U.1, wa_107 (by omega), c2, xg_97_63, J.1.2, i4m]
      exact lq_316i J ha U.1 _ (mcL L (cK v)) 0 mjN (by omega) (by have := mjN_v; omega) (fun x hx => by omega)
    have ml : ∀ m, fmR T L w key (cK v) = some m → m < 400 := fun m h => by have := fmR_lt h; omega
    unfold b_316_119 b_316_141 b_316_142 b_316_153 at pre
    by_cases q : fmR T L w key (cK v) = none
    · rw [if_pos ((mR_m1 hb ml).mpr q), xg_97_95, U.1, xV_97, x_242 hb h16 hn ha (A _ ha), bI_s] at pre
      cases hab : abT T L (cK v) with
      | none =>
        have up0 : upT T L (cK v) = none := by unfold upT; rw [hab]; rfl
        rw [up0, if_pos (show cR b none = -1 from rfl), if_pos rfl, fin] at pre
        exact ⟨s, v, 0, pre, offG.rf, U, hv, rfl, fun i hi => by omega, fun _ => hab⟩
      | some u =>
        have up1 : upT T L (cK v) = some (cK u) := by unfold upT; rw [hab]; rfl
        have ul : cK u < L.length := up_lt hn ha up1
        obtain ⟨s1, a1, a2, a3, a4⟩ := x_317 (d := d) hb h16 hn hv U (A _ ha) hab
        rw [up1, if_neg (show ¬ cR b (some (cK u)) = -1 from nI_m1 (by omega)), if_neg (by decide), xV_97, a1, bN_s, show mR b (fmR T L w key (cK v)) = -1 from (mR_m1 hb ml).mpr q] at pre
        have vu := ab_v hn ha hab
        cases r with
        | zero =>
          have : upT T L (cK v) = none := by
            have e : upI (upT T L) 1 (cK v) = upT T L (cK v) := by
              unfold upI
              cases upT T L (cK v) <;> rfl
            rw [← e]; exact hu
          rw [up1] at this
          cases this
        | succ r =>
          have hu' : upI (upT T L) (r + 1) (cK (stand (nmL L) u v)) = none := by
            rw [stand_c hn vu]
            have e : upI (upT T L) (r + 1 + 1) (cK v) = upI (upT T L) (r + 1) (cK u) := by
              rw [show r + 1 + 1 = 1 + (r + 1) by omega, upI_add]
              have e1 : upI (upT T L) 1 (cK v) = some (cK u) := by
                unfold upI
                rw [up1]
                rfl
              rw [e1]
            rw [← e]; exact hu
          obtain ⟨s', v', j, b1, b2', b3, b4, b5, b6, b7⟩ := lq_316 Ac r (n + 1) s1 (stand (nmL L) u v) hu' (by omega) (oUp.J a2 J) (fun x hx => a2.A (A x hx)) a4 a3
          refine ⟨s', v', j + 1, pre.trans b1, a2.tr b2', b3, b4, ?_, fun i hi x hx => ?_, b7⟩
          · rw [chV_S, hab]; exact b5
          · cases i with
            | zero => cases hx; exact q
            | succ i =>
              rw [chV_S, hab] at hx
              exact b6 i (by omega) x hx
    · rw [if_neg (fun x => q ((mR_m1 hb ml).mp x)), if_pos rfl, fin] at pre
      exact ⟨s, v, 0, pre, offG.rf, U, hv, rfl, fun i hi => by omega, fun x => absurd x q⟩
theorem up16 (Ac : ACY T N L) (hc : c < L.length) : upI (upT T L) 16 c = none := by
  cases h : upI (upT T L) 16 c with
  | none => rfl
  | some n => exact absurd (up_end Ac hc h) (by omega)
/-- findMember from KIND v on -/
theorem x_316 (Ac : ACY T N L) (J : RJ T N b ks L s) (A : ∀ x, x < L.length → ABr T L b s x) (hv : vK L v) (U : UPv L b s v) : ∃ s' v' j, mjF (d + 3) 316 [.ref 97, .long key, .int w, .int 0] (mjW0 s) = some (some (.int (mR b (fmR T L w key (cK v')))), mjW0 s') ∧ oUp s s' ∧ UPv L b s' v' ∧ vK L v' ∧ chV T L v j = some v' ∧ (∀ i, i < j → ∀ x, chV T L v i = some x → fmR T L w key (cK x) = none) ∧ (fmR T L w key (cK v') = none → abT T L (cK v') = none) := by
  have hc := hv.cl Ac.1
  obtain ⟨s', v', j, b1, b2⟩ := lq_316 (d := d) (key := key) (w := w) Ac 15 mjN s v (up16 Ac hc) (by have := mjN_v; omega) J A hv U
  refine ⟨s', v', j, ?_, b2⟩
  rw [e_316]
  unfold f_316 b_316_0 b_316_23
  rw [if_pos rfl]
  exact b1
/-- findMember above KIND v alone -/
theorem x_316a (Ac : ACY T N L) (J : RJ T N b ks L s) (A : ∀ x, x < L.length → ABr T L b s x) (hv : vK L v) (U : UPv L b s v) : (abT T L (cK v) = none → mjF (d + 3) 316 [.ref 97, .long key, .int w, .int 1] (mjW0 s) = some (some (.int (-1)), mjW0 s)) ∧ ∀ u, abT T L (cK v) = some u → ∃ s' v' j, mjF (d + 3) 316 [.ref 97, .long key, .int w, .int 1] (mjW0 s) = some (some (.int (mR b (fmR T L w key (cK v')))), mjW0 s') ∧ oUp s s' ∧ UPv L b s' v' ∧ vK L v' ∧ chV T L (stand (nmL L) u v) j = some v' ∧ (∀ i, i < j → ∀ x, chV T L (stand (nmL L) u v) i = some x → fmR T L w key (cK x) = none) ∧ (fmR T L w key (cK v') = none → abT T L (cK v') = none) := by
  have hn := Ac.1
  have hb := J.b1
  have h16 := J.len
  have hc := hv.cl hn
  have pre : mjF (d + 3) 316 [.ref 97, .long key, .int w, .int 1] (mjW0 s) = if cR b (upT T L (cK v)) = -1 then some (some (.int (-1)), mjW0 s) else bN (mjF (d + 2) 317 [.ref 97] (mjW0 s)) (fun hp4 => b_316_23 (mjF (d + 2)) 97 key w hp4) := by
    rw [e_316]
    unfold f_316 b_316_0
    rw [if_neg (by decide), xg_97_95, U.1, xV_97, x_242 hb h16 hn hc (A _ hc), bI_s, xV_97]
  constructor
  · intro hab
    have up0 : upT T L (cK v) = none := by unfold upT; rw [hab]; rfl
    rw [pre, up0, if_pos (show cR b none = -1 from rfl)]
  · intro u hab
    have up1 : upT T L (cK v) = some (cK u) := by unfold upT; rw [hab]; rfl
    have ul : cK u < L.length := up_lt hn hc up1
    obtain ⟨s1, a1, a2, a3, a4⟩ := x_317 (d := d) hb h16 hn hv U (A _ hc) hab
    have vu := ab_v hn hc hab
    obtain ⟨s', v', j, b1, b2, b3⟩ := lq_316 (d := d) (key := key) (w := w) Ac 15 mjN s1 (stand (nmL L) u v) (by rw [stand_c hn vu]; exact up16 Ac ul) (by have := mjN_v; omega) (oUp.J a2 J) (fun x hx => a2.A (A x hx)) a4 a3
    refine ⟨s', v', j, ?_, a2.tr b2, b3⟩
    rw [pre, up1, if_neg (show ¬ cR b (some (cK u)) = -1 from nI_m1 (by omega)), a1, bN_s]
    exact b1
end MJA80
