/-! ===== the reference's RUN: which METHOD is done ===== -/
section MJB46
variable {T : TT} {d N b n m a c : Nat} {ks : List Nat} {L : List CD} {s : mjSt3} {key : Int64}
theorem L241_6 (R : mjR) (n a : Nat) (x : Int64) (y z : Int32) (hp : mjH) : L_241_6 R (n + 1) a x y z hp = b_241_6 R (L_241_6 R n) a x y z hp := rfl
theorem L241_40 (R : mjR) (k6 : Nat → Int64 → Int32 → Int32 → mjH → mjU) (n a : Nat) (x : Int64) (y z u v : Int32) (hp : mjH) : L_241_40 R k6 (n + 1) a x y z u v hp = b_241_40 R k6 (L_241_40 R k6 n) a x y z u v hp := rfl
/-- what methodOf reads -/
def MTr (T : TT) (L : List CD) (b : Nat) (s : mjSt3) : Prop := s.1 97 9 = nI b ∧ (∀ a, a < L.length → s.1 107 (16 * b + a) = nI (fmL L a) ∧ s.1 108 (16 * b + a) = nI (mcL L a) ∧ fmL L a + mcL L a ≤ nMem L ∧ ABr T L b s a) ∧ nMem L ≤ 384 ∧ ∀ m, m < nMem L → s.2.1 132 (400 * b + m) = nkM T L m ∧ s.1 125 (400 * b + m) = b2 (mSM L m) ∧ omT T L (hmM L m) (nkM T L m) = some m
theorem gMs_at (Mt : MTr T L b s) (ha : a < L.length) {i : Nat} (hi : i < mcL L a) : (nkM T L (fmL L a + i) = key ∧ mSM L (fmL L a + i) = true) ↔ gMs T L key true a = some (fmL L a + i) := by
  have b1 := (Mt.2.1 a ha).2.2.1
  have hm : fmL L a + i < nMem L := by omega
  have e := hm_at (L := L) ha hi
  constructor
  · intro ⟨h1, h2⟩
    have u := (Mt.2.2.2 _ hm).2.2
    rw [e, h1] at u
    unfold gMs
    rw [u]
    exact if_pos h2
  · intro h
    obtain ⟨_, _, g3, g4, _⟩ := gMs_in ha h
    exact ⟨g3, g4⟩
theorem lq_241m (R : mjR) (hb : b ≤ 1) (h16 : L.length ≤ 16) (Mt : MTr T L b s) (ha : a < L.length) (k6 : Nat → Int64 → Int32 → Int32 → mjH → mjU) : ∀ (r i n : Nat), i + r = mcL L a → r + 1 < n → (∀ x, x < i → ¬ gMs T L key true a = some (fmL L a + x)) → L_241_40 R k6 n 97 key (-1) (nI (16 * b + a)) (nI (400 * b + fmL L a)) (nI (400 * b + fmL L a + i)) (mjW0 s) = b_241_94 R k6 97 key (mR b (gMs T L key true a)) (nI (16 * b + a)) (mjW0 s)
  | r, i, 0, e, hr, w => by omega
  | 0, i, n + 1, e, hr, w => by
    obtain ⟨m1, m2, m3, _⟩ := Mt.2.1 a ha
    have m384 := Mt.2.2.1
    have g0 : gMs T L key true a = none := by
      cases hg : gMs T L key true a with
      | none => rfl
      | some x =>
        obtain ⟨_, _, _, _, g5⟩ := gMs_in ha hg
        obtain ⟨x1, x2, _⟩ := om_lt g5
        exfalso
        refine w (x - fmL L a) (by omega) ?_
        rw [hg, show fmL L a + (x - fmL L a) = x by omega]
    rw [L241_40]
    unfold b_241_40
    rw [xg_97_19, wa_108 (by omega), m2, nI_add, if_pos (nI_le (by omega) (by omega)), g0]
    rfl
  | r + 1, i, n + 1, e, hr, w => by
    obtain ⟨m1, m2, m3, _⟩ := Mt.2.1 a ha
    have m384 := Mt.2.2.1
    have hi : i < mcL L a := by omega
    have hm : fmL L a + i < nMem L := by omega
    obtain ⟨n1, n2, _⟩ := Mt.2.2.2 _ hm
    have em : 400 * b + fmL L a + i = 400 * b + (fmL L a + i) := by omega
    have base : L_241_40 R k6 (n + 1) 97 key (-1) (nI (16 * b + a)) (nI (400 * b + fmL L a)) (nI (400 * b + fmL L a + i)) (mjW0 s) = (if (lg_cmp (nkM T L (fmL L a + i)) key) = 0 then (if b2 (mSM L (fmL L a + i)) = (1 : Int32) then L_241_40 R k6 n 97 key (nI (400 * b + fmL L a + i)) (nI (16 * b + a)) (nI (400 * b + fmL L a)) (nI (400 * b + fmL L a + (i + 1))) (mjW0 s) else L_241_40 R k6 n 97 key (-1) (nI (16 * b + a)) (nI (400 * b + fmL L a)) (nI (400 * b + fmL L a + (i + 1))) (mjW0 s)) else L_241_40 R k6 n 97 key (-1) (nI (16 * b + a)) (nI (400 * b + fmL L a)) (nI (400 * b + fmL L a + (i + 1))) (mjW0 s)) := by
      rw [L241_40]
      unfold b_241_40 b_241_88
      rw [xg_97_19, wa_108 (by omega), m2, nI_add, if_neg (nI_ge (show 400 * b + fmL L a + i < 400 * b + fmL L a + mcL L a by omega) (by omega)), if_pos rfl, xg_97_43, em, wa_132 (by omega), n1, xg_97_36, wa_125 (by omega), n2, nI_1, ← em]
      rfl
    have nx := fun (hw : ¬ gMs T L key true a = some (fmL L a + i)) => lq_241m R hb h16 Mt ha k6 r (i + 1) n (by omega) (by omega) (fun x hx => by
      by_cases q : x = i
      · rw [q]; exact hw
      · exact w x (by omega))
    rw [base]
    by_cases hk : nkM T L (fmL L a + i) = key
    · rw [if_pos ((lg_cmp_eq _ _).mpr hk)]
      cases ms : mSM L (fmL L a + i) with
      | true =>
        rw [if_pos (show b2 true = (1 : Int32) by decide)]
        have g1 := (gMs_at Mt ha hi).mp ⟨hk, ms⟩
        cases n with
        | zero => omega
        | succ n =>
          rw [L241_40]
          unfold b_241_40
          rw [xg_97_19, wa_108 (by omega), m2, nI_add, if_neg (show ¬ nI (400 * b + fmL L a + i) = -1 from nI_m1 (by omega)), ite_self, g1, em]
          rfl
      | false =>
        rw [if_neg (show ¬ b2 false = (1 : Int32) by decide)]
        exact nx (fun h => by
          have := ((gMs_at Mt ha hi).mpr h).2
          rw [ms] at this
          cases this)
    · rw [if_neg (fun h => hk ((lg_cmp_eq _ _).mp h))]
      exact nx (fun h => hk ((gMs_at Mt ha hi).mpr h).1)
/-- up the CLASSES -/
theorem lq_241 (Ac : ACY T N L) (hb : b ≤ 1) (Mt : MTr T L b s) : ∀ (f a n : Nat), a < L.length → upI (upT T L) f a = none → f + 1 < n → L_241_6 (mjF (d + 1)) n 97 key (-1) (nI (16 * b + a)) (mjW0 s) = some (some (.int (mR b ((anc (upT T L) f (some a)).findSome? (gMs T L key true)))), mjW0 s)
  | f, a, 0, ha, hf, hn => by omega
  | 0, a, n + 1, ha, hf, hn => by cases hf
  | f + 1, a, n + 1, ha, hf, hn => by
    have hmj := mjN_v
    have l16 := Ac.1.1
    obtain ⟨m1, m2, m3, A⟩ := Mt.2.1 a ha
    have m384 := Mt.2.2.1
    have e400 : nI (fmL L a) + (400 : Int32) * nI b = nI (400 * b + fmL L a) := by rw [show (400 : Int32) = nI 400 from rfl, nI_mul, nI_add, Nat.add_comm]
    have base : L_241_6 (mjF (d + 1)) (n + 1) 97 key (-1) (nI (16 * b + a)) (mjW0 s) = L_241_6 (mjF (d + 1)) n 97 key (mR b (gMs T L key true a)) (cR b (upT T L a)) (mjW0 s) := by
      rw [L241_6]
      unfold b_241_6
      rw [if_neg (show ¬ nI (16 * b + a) = -1 from nI_m1 (by omega)), if_pos rfl, xg_97_18, wa_107 (by omega), m1, xg_97_9, Mt.1, e400]
      have this : L_241_40 (mjF (d + 1)) (L_241_6 (mjF (d + 1)) n) mjN 97 key (-1) (nI (16 * b + a)) (nI (400 * b + fmL L a)) (nI (400 * b + fmL L a)) (mjW0 s) = b_241_94 (mjF (d + 1)) (L_241_6 (mjF (d + 1)) n) 97 key (mR b (gMs T L key true a)) (nI (16 * b + a)) (mjW0 s) := lq_241m (mjF (d + 1)) hb l16 Mt ha (L_241_6 (mjF (d + 1)) n) (key := key) (mcL L a) 0 mjN (by omega) (by omega) (fun x hx => by omega)
      rw [this]
      unfold b_241_94
      rw [xV_97, x_242 (d := d) hb l16 Ac.1 ha A, bI_s]
    have st : (anc (upT T L) (f + 1) (some a)).findSome? (gMs T L key true) = match gMs T L key true a with
        | some x => some x
        | none => (anc (upT T L) f (upT T L a)).findSome? (gMs T L key true) := by
      show (a :: anc (upT T L) f (upT T L a)).findSome? (gMs T L key true) = _
      rw [List.findSome?_cons]
      cases gMs T L key true a <;> rfl
    rw [base, st]
    cases hg : gMs T L key true a with
    | some x =>
      dsimp only
      have xm := (gMs_in ha hg).1
      cases n with
      | zero => omega
      | succ n =>
        rw [L241_6]
        unfold b_241_6 b_241_105
        rw [if_neg (show ¬ mR b (some x) = -1 from nI_m1 (show 400 * b + x < 2 ^ 31 by omega)), ite_self]
    | none =>
      dsimp only
      cases hu : upT T L a with
      | none =>
        cases n with
        | zero => omega
        | succ n =>
          rw [L241_6]
          unfold b_241_6 b_241_105
          rw [if_pos (show cR b none = -1 from rfl)]
          cases f <;> rfl
      | some p =>
        have hp := up_in Ac ha (j := 1) (by rw [up_S hu]; rfl)
        rw [up_S hu] at hf
        exact lq_241 Ac hb Mt f p n hp hf (by omega)
/-- methodOf -/
theorem x_241 (Ac : ACY T N L) (hb : b ≤ 1) (Mt : MTr T L b s) (hc : c < L.length) : mjF (d + 2) 241 [.ref 97, .int (nI (16 * b + c)), .long key] (mjW0 s) = some (some (.int (mR b (memT T L c key true))), mjW0 s) := by
  have hmj := mjN_v
  have h16 : upI (upT T L) 16 c = none := by
    cases h : upI (upT T L) 16 c with
    | none => rfl
    | some y => have := up_end Ac hc h; omega
  rw [e_241]
  unfold f_241 b_241_0
  exact lq_241 Ac hb Mt 16 c mjN hc h16 (by omega)
end MJB46
