/-! ===== the OBJECTS, on both ===== -/
/-- how many owners, from a on -/
def chN (H : HEAP) : Nat → Nat → Nat
  | 0, _ => 0
  | n + 1, a => if a = 0 then 0 else chN H n ((H.2 a).2.1 0) + 1
/-- is c the OBJECT a, or an owner of it -/
def inF (H : HEAP) (c : Nat) : Nat → Nat → Bool
  | 0, a => decide (a = c)
  | n + 1, a => if a = c then true else if a = 0 then false else inF H c n ((H.2 a).2.1 0)
section MJB86
variable {T : TT} {d N b kb q i o c m n : Nat} {t : PT} {L : List CD} {rs : List RcM} {z : PB} {tr : Bool} {cs : Nat → Nat} {H : HEAP} {s : mjSt3} {a v : Int32}
theorem x_43g : mjF (d + 1) 43 [.ref 79, .int a] (mjW0 s) = some (some (.int (if a ≤ 0 ∨ s.1 79 2 < a then 0 else 1)), mjW0 s) := by
  rw [e_43]
  unfold f_43 b_43_0
  by_cases h1 : a ≤ 0
  · rw [if_pos h1, if_pos (Or.inl h1)]; rfl
  · rw [if_neg h1, xg_79_2]
    by_cases h2 : s.1 79 2 < a
    · rw [if_pos h2, if_pos (Or.inr h2)]; rfl
    · rw [if_neg h2, if_neg (fun x => x.elim h1 h2)]
theorem x_246g : mjF (d + 1) 246 [.ref 97, .int a] (mjW0 s) = some (some (.int (if s.1 97 96 ≤ 0 ∨ a < 1 ∨ s.1 97 103 < a then 0 else 1)), mjW0 s) := by
  rw [e_246]
  unfold f_246 b_246_0 b_246_24
  rw [xg_97_96]
  by_cases h1 : s.1 97 96 ≤ 0
  · rw [if_pos h1, if_pos (Or.inl h1)]
  rw [if_neg h1]
  by_cases h2 : a < 1
  · rw [if_pos h2, if_pos (Or.inr (Or.inl h2))]
  rw [if_neg h2, xg_97_103]
  by_cases h3 : s.1 97 103 < a
  · rw [if_pos h3, if_pos (Or.inr (Or.inr h3))]
  · rw [if_neg h3, if_neg (fun x => x.elim h1 (fun x => x.elim h2 h3))]
theorem lt_1 : a < 1 ↔ a ≤ 0 := by
  rw [Int32.lt_iff_toInt_lt, Int32.le_iff_toInt_le]
  have e1 : (1 : Int32).toInt = 1 := by decide
  have e0 : (0 : Int32).toInt = 0 := by decide
  rw [e1, e0]
  omega
theorem IRN.hb {wm cm : Nat} {A : AMS} (G : IPG T N b q t rs kb z tr cs s) (R : IRN i T b q t rs z tr cs wm cm A s) : HBs T t.1 A.1 := ⟨Nat.le_trans R.2.2.1.1.2.1 R.1.1, bs_3 G.2.1.1.1.1.1 A.1 A.1.1 (fun o o1 o2 => (R.2.2.1.1.1 o o1 o2).1)⟩
/-- an OBJECT of that number: on both, or on none -/
theorem Inv.obj (I : Inv i s) (a : Int32) : ((∀ d, mjF (d + 1) 43 [.ref 79, .int a] (mjW0 s) = some (some (.int 0), mjW0 s)) ∧ ∀ d, mjF (d + 1) 246 [.ref 97, .int a] (mjW0 s) = some (some (.int 0), mjW0 s)) ∨ ∃ T N b q t rs kb z tr cs wm cm A o, IPG T N b q t rs kb z tr cs s ∧ IRN i T b q t rs z tr cs wm cm A s ∧ HBs T t.1 A.1 ∧ a = nI o ∧ 1 ≤ o ∧ o ≤ A.1.1 ∧ (∀ d, mjF (d + 1) 43 [.ref 79, .int a] (mjW0 s) = some (some (.int 1), mjW0 s)) ∧ ∀ d, mjF (d + 1) 246 [.ref 97, .int a] (mjW0 s) = some (some (.int 1), mjW0 s) := by
  have kz : IZ s → (∀ d, mjF (d + 1) 43 [.ref 79, .int a] (mjW0 s) = some (some (.int 0), mjW0 s)) ∧ ∀ d, mjF (d + 1) 246 [.ref 97, .int a] (mjW0 s) = some (some (.int 0), mjW0 s) := by
    intro ⟨⟨a1, a2⟩, _, ⟨a3, _⟩, _⟩
    refine ⟨fun d => ?_, fun d => ?_⟩
    · rw [x_43g, a3, if_pos (show a ≤ 0 ∨ 0 < a from (Classical.em (a ≤ 0)).elim Or.inl (fun h => Or.inr (Int32.not_le.mp h)))]
    · rw [x_246g, a1, if_pos (Or.inl (Int32.le_refl 0))]
  rcases I.2 with ⟨_, _, a3⟩ | ⟨T, N, b, q, t, rs, kb, z, tr, cs, G, hR⟩
  · exact Or.inl (kz a3)
  rcases hR with a3 | ⟨wm, cm, A, R⟩
  · exact Or.inl (kz a3)
  have B := R.hb G
  have b1 := B.1
  have b2' := B.2
  have c79 : s.1 79 2 = nI A.1.1 := R.2.2.2.1.1.2.2.1.2.1
  have r103 : s.1 97 103 = nI A.1.1 := R.2.2.2.2.1.1.2.2.1.2.1
  have r96 : s.1 97 96 = nI A.2.2.2.2.2.2.2.2.1 := R.2.2.2.2.1.1.1.1
  have p1 := R.2.1.1
  have p3 := R.2.1.2.1
  have n96 : ¬ s.1 97 96 ≤ 0 := by rw [r96]; exact nI_nle (by omega) (by omega)
  by_cases h : a ≤ 0 ∨ nI A.1.1 < a
  · refine Or.inl ⟨fun d => ?_, fun d => ?_⟩
    · rw [x_43g, c79, if_pos h]
    · rw [x_246g, r103, if_pos (h.elim (fun x => Or.inr (Or.inl (lt_1.mpr x))) (fun x => Or.inr (Or.inr x)))]
  · have h0 : ¬ a ≤ 0 := fun x => h (Or.inl x)
    have h1 : ¬ nI A.1.1 < a := fun x => h (Or.inr x)
    obtain ⟨o, o31, eo⟩ := nI_of (x := a) (fun x => h0 (Int32.le_of_lt x))
    have ol : o ≤ A.1.1 := by
      rw [eo] at h1
      exact (nI_leI (by omega) (by omega)).mp (Int32.not_lt.mp h1)
    have o1 : 1 ≤ o := by
      by_cases g : o = 0
      · rw [eo, g] at h0
        exact absurd (show nI 0 ≤ (0 : Int32) by decide) h0
      · omega
    refine Or.inr ⟨T, N, b, q, t, rs, kb, z, tr, cs, wm, cm, A, o, G, R, B, eo, o1, ol, fun d => ?_, fun d => ?_⟩
    · rw [x_43g, c79, if_neg h]
    · rw [x_246g, r103, if_neg (fun x => x.elim n96 (fun x => x.elim (fun y => h0 (lt_1.mp y)) h1))]
/-- an OBJECT's first OWNER, the reference -/
theorem x_253 (hP : HPr T L b H s) (B : HBs T L H) (n1 : 1 ≤ nmL L (H.2 o).1) (o1 : 1 ≤ o) (o2 : o ≤ H.1) : mjF (d + 1) 253 [.ref 97, .int (nI o)] (mjW0 s) = some (some (.int (nI ((H.2 o).2.1 0))), mjW0 s) := by
  obtain ⟨p1, p2, p3, p4⟩ := hP o o1 o2
  have l := fr_lt T L H o1 o2
  have b1 := B.1
  have b2' := B.2
  have p3' := p3 0 (by omega)
  rw [e_253]
  unfold f_253 b_253_0
  rw [xg_97_108, xg_97_110, wa_170 (by omega), p2, wa_168 (by omega), show frO T L H o = frO T L H o + 0 from rfl, p3']
theorem L51_S (R : mjR) (n a : Nat) (x y : Int32) (hp : mjH) : L_51_9 R (n + 1) a x y hp = b_51_9 R (L_51_9 R n) a x y hp := rfl
theorem L347_S (R : mjR) (n a : Nat) (x y : Int32) (hp : mjH) : L_347_8 R (n + 1) a x y hp = b_347_8 R (L_347_8 R n) a x y hp := rfl
theorem L52_S (R : mjR) (n a : Nat) (x y w : Int32) (hp : mjH) : L_52_5 R (n + 1) a x y w hp = b_52_5 R (L_52_5 R n) a x y w hp := rfl
theorem L350_S (R : mjR) (n a : Nat) (x y : Int32) (hp : mjH) : L_350_24 R (n + 1) a x y hp = b_350_24 R (L_350_24 R n) a x y hp := rfl
theorem lq_51 (hH : HPc T L H s) (B : HBs T L H) (h79 : s.1 79 2 = nI H.1) (hO : HOK T L H) (n1 : ∀ o, 1 ≤ o → o ≤ H.1 → 1 ≤ nmL L (H.2 o).1) : ∀ (n m dep a : Nat), a ≤ n → dep + a ≤ H.1 → a < m → L_51_9 (mjF (d + 1)) m 79 (nI dep) (nI a) (mjW0 s) = some (some (.int (nI (dep + chN H n a))), mjW0 s)
  | n, 0, dep, a, ha, hd, hm => by omega
  | 0, m + 1, dep, a, ha, hd, hm => by
    have e : a = 0 := by omega
    rw [L51_S]
    unfold b_51_9 b_51_34
    rw [e, if_pos (show nI 0 ≤ (0 : Int32) by decide)]
    rfl
  | n + 1, m + 1, dep, a, ha, hd, hm => by
    have b1 := B.1
    have b2' := B.2
    rw [L51_S]
    unfold b_51_9 b_51_34
    by_cases e : a = 0
    · rw [e, if_pos (show nI 0 ≤ (0 : Int32) by decide)]
      rfl
    · have ol := (hO a (by omega) (by omega)).2.1 0
      have ih := lq_51 hH B h79 hO n1 n m (dep + 1) ((H.2 a).2.1 0) (by omega) (by omega) (by omega)
      have ec : dep + chN H (n + 1) a = dep + 1 + chN H n ((H.2 a).2.1 0) := by
        show dep + (if a = 0 then 0 else chN H n ((H.2 a).2.1 0) + 1) = _
        rw [if_neg e]
        omega
      rw [if_neg (nI_nle (by omega) (by omega)), xg_79_2, h79, if_neg (nI_nlt (by omega) (by omega)), xV_79, show (0 : Int32) = nI 0 from rfl, x_49 hH B (by omega) (by omega) (n1 a (by omega) (by omega)), bI_s, nI_1, ih, ec]
theorem lq_347 (hP : HPr T L b H s) (B : HBs T L H) (hO : HOK T L H) (n1 : ∀ o, 1 ≤ o → o ≤ H.1 → 1 ≤ nmL L (H.2 o).1) : ∀ (n m dep a : Nat), a ≤ n → a ≤ H.1 → a < m → L_347_8 (mjF (d + 1)) m 97 (nI dep) (nI a) (mjW0 s) = some (some (.int (nI (dep + chN H n a))), mjW0 s)
  | n, 0, dep, a, ha, hd, hm => by omega
  | 0, m + 1, dep, a, ha, hd, hm => by
    have e : a = 0 := by omega
    rw [L347_S]
    unfold b_347_8
    rw [e, if_pos (show nI 0 = 0 from rfl)]
    rfl
  | n + 1, m + 1, dep, a, ha, hd, hm => by
    have b1 := B.1
    have b2' := B.2
    rw [L347_S]
    unfold b_347_8
    by_cases e : a = 0
    · rw [e, if_pos (show nI 0 = 0 from rfl)]
      rfl
    · have ol := (hO a (by omega) (by omega)).2.1 0
      have ih := lq_347 hP B hO n1 n m (dep + 1) ((H.2 a).2.1 0) (by omega) (by omega) (by omega)
      have ec : dep + chN H (n + 1) a = dep + 1 + chN H n ((H.2 a).2.1 0) := by
        show dep + (if a = 0 then 0 else chN H n ((H.2 a).2.1 0) + 1) = _
        rw [if_neg e]
        omega
      rw [if_neg (nI_ne0 (by omega) (by omega)), xV_97, x_253 hP B (n1 a (by omega) (by omega)) (by omega) (by omega), bI_s, nI_1, ih, ec]
/-- below the one that is asked for -/
theorem inF_lt (hO : HOK T L H) : ∀ (n a : Nat), a ≤ c → a ≤ H.1 → inF H c n a = decide (a = c)
  | 0, a, h, ha => rfl
  | n + 1, a, h, ha => by
    show (if a = c then true else if a = 0 then false else inF H c n ((H.2 a).2.1 0)) = _
    by_cases e : a = c
    · rw [if_pos e, decide_eq_true e]
    · rw [if_neg e, decide_eq_false e]
      by_cases e0 : a = 0
      · rw [if_pos e0]
      · have ol := (hO a (by omega) (by omega)).2.1 0
        rw [if_neg e0, inF_lt hO n ((H.2 a).2.1 0) (by omega) (by omega)]
        exact decide_eq_false (by omega)
theorem inF_0 (hO : HOK T L H) : ∀ (n a : Nat), a ≤ n → a ≤ H.1 → inF H 0 n a = true
  | 0, a, h, ha => by
    have e : a = 0 := by omega
    rw [e]
    rfl
  | n + 1, a, h, ha => by
    show (if a = 0 then true else if a = 0 then false else inF H 0 n ((H.2 a).2.1 0)) = _
    by_cases e : a = 0
    · rw [if_pos e]
    · have ol := (hO a (by omega) (by omega)).2.1 0
      rw [if_neg e, if_neg e]
      exact inF_0 hO n _ (by omega) (by omega)
theorem lq_52 (hH : HPc T L H s) (B : HBs T L H) (h79 : s.1 79 2 = nI H.1) (hO : HOK T L H) (n1 : ∀ o, 1 ≤ o → o ≤ H.1 → 1 ≤ nmL L (H.2 o).1) (hc : c ≤ H.1) : ∀ (n m k a : Nat), a ≤ n → k + a ≤ H.1 → a < m → L_52_5 (mjF (d + 1)) m 79 (nI c) (nI a) (nI k) (mjW0 s) = some (some (.int (b2 (inF H c n a))), mjW0 s)
  | n, 0, k, a, ha, hd, hm => by omega
  | n, m + 1, k, a, ha, hd, hm => by
    have b1 := B.1
    have b2' := B.2
    rw [L52_S]
    unfold b_52_5
    rw [xg_79_2, h79, if_neg (nI_nlt (by omega) (by omega))]
    by_cases g : a ≤ c
    · rw [if_pos (nI_le g (by omega)), inF_lt hO n a g (by omega)]
      unfold b_52_32 b_52_41
      by_cases e : a = c
      · rw [if_pos (by rw [e]), decide_eq_true e]; rfl
      · rw [if_neg (fun x => e ((nI_eq (by omega) (by omega)).mp x)), decide_eq_false e, if_neg (nI_ne0 (by omega) (by omega))]; rfl
    · cases n with
      | zero => omega
      | succ n =>
        have ol := (hO a (by omega) (by omega)).2.1 0
        have ih := lq_52 hH B h79 hO n1 hc n m (k + 1) ((H.2 a).2.1 0) (by omega) (by omega) (by omega)
        have ec : inF H c (n + 1) a = inF H c n ((H.2 a).2.1 0) := by
          show (if a = c then true else if a = 0 then false else inF H c n ((H.2 a).2.1 0)) = _
          rw [if_neg (by omega), if_neg (by omega)]
        rw [if_neg (nI_ge (by omega) (by omega)), xV_79, show (0 : Int32) = nI 0 from rfl, x_49 hH B (by omega) (by omega) (n1 a (by omega) (by omega)), bI_s, nI_1, ih, ec]
theorem lq_350 (hP : HPr T L b H s) (B : HBs T L H) (hO : HOK T L H) (n1 : ∀ o, 1 ≤ o → o ≤ H.1 → 1 ≤ nmL L (H.2 o).1) (hc : c ≤ H.1) : ∀ (n m a : Nat), a ≤ n → a ≤ H.1 → a < m → L_350_24 (mjF (d + 1)) m 97 (nI c) (nI a) (mjW0 s) = some (some (.int (b2 (inF H c n a))), mjW0 s)
  | n, 0, a, ha, hd, hm => by omega
  | n, m + 1, a, ha, hd, hm => by
    have b1 := B.1
    have b2' := B.2
    rw [L350_S]
    unfold b_350_24 b_350_42
    by_cases e0 : a = 0
    · rw [e0, if_pos (show nI 0 = 0 from rfl), inF_lt hO n 0 (Nat.zero_le _) (Nat.zero_le _)]
      by_cases e : 0 = c
      · rw [if_pos (by rw [e]), decide_eq_true e]; rfl
      · rw [if_neg (fun x => e ((nI_eq (by omega) (by omega)).mp x)), decide_eq_false e]; rfl
    · rw [if_neg (nI_ne0 (by omega) (by omega))]
      by_cases e : a = c
      · rw [if_pos (by rw [e]), if_pos (by rw [e])]
        cases n with
        | zero => omega
        | succ n =>
          have ec : inF H c (n + 1) a = true := if_pos e
          rw [ec]
          rfl
      · rw [if_neg (fun x => e ((nI_eq (by omega) (by omega)).mp x))]
        cases n with
        | zero => omega
        | succ n =>
          have ol := (hO a (by omega) (by omega)).2.1 0
          have ih := lq_350 hP B hO n1 hc n m ((H.2 a).2.1 0) (by omega) (by omega) (by omega)
          have ec : inF H c (n + 1) a = inF H c n ((H.2 a).2.1 0) := by
            show (if a = c then true else if a = 0 then false else inF H c n ((H.2 a).2.1 0)) = _
            rw [if_neg e, if_neg e0]
          rw [xV_97, x_253 hP B (n1 a (by omega) (by omega)) (by omega) (by omega), bI_s, ih, ec]
end MJB86
