/-! ===== arraycopy; runs with questions left open ===== -/
def mjYs : List (Nat × Nat × Nat × Nat) := [(10, 106, 7, 141)]
def mjYr (cn idx : Nat) : Bool := mjYs.any (fun e => e.1 == cn && e.2.1 == idx)
theorem mjY_rfl : mjYs.map (fun e => mj_at e.2.2) = mjYs.map (fun e => some (Cond.methodLink (mjCn e.1) e.2.1 arraycopyName)) := by rfl
theorem mjY_rfl2 : (mj_at (7, 143), mj_at (7, 142), mj_at (1, 21)) = (some (Cond.native arraycopyName), some (Cond.static arraycopyName), some (Cond.initialized "java/lang/System")) := by rfl
theorem mjYr_ok {cn idx : Nat} (h : mjYr cn idx = true) : Cond.methodLink (mjCn cn) idx arraycopyName ∈ mjT := by
  obtain ⟨e, he, h2⟩ := List.any_eq_true.mp h
  simp only [Bool.and_eq_true, beq_iff_eq] at h2
  have h4 := List.map_inj_left.mp mjY_rfl e he
  rw [h2.1, h2.2] at h4
  exact mjT_of h4 rfl
theorem mjY_words : Cond.native arraycopyName ∈ mjT ∧ Cond.static arraycopyName ∈ mjT ∧ Cond.initialized "java/lang/System" ∈ mjT := by
  have h := mjY_rfl2
  simp only [Prod.mk.injEq] at h
  exact ⟨mjT_of h.1 rfl, mjT_of h.2.1 rfl, mjT_of h.2.2 rfl⟩
section MJ5
variable {X : mjX} {d C S : Nat} {I : mjI} {Post : Option Value → mjH → Prop} {pc : Nat} {lo : mjLo} {st : List Value} {hp : mjH} {kc ks : Nat}
theorem mjr_copy {idx a b n0 n1 : Nat} {f g : Nat → Int32} {sp dp n : Int32} {rest : List Value} (hd : decode I.2.2.1 pc = .ok (.invokestatic idx, 3)) (hy : mjYr I.2.1 idx = true) (hb : hp[b]? = some (.inl (0, n0, .inl f))) (ha : hp[a]? = some (.inl (0, n1, .inl g))) (g1 : ¬ sp < 0) (g2 : ¬ dp < 0) (g3 : ¬ n < 0) (g4 : sp.toNatClampNeg + n.toNatClampNeg ≤ n0) (g5 : dp.toNatClampNeg + n.toNatClampNeg ≤ n1) (hsum : (rest.map fun v => v.category).sum ≤ 8) (hdd : 1 ≤ d)
    (k : mjG X d C S I Post (pc + 3) lo rest (hp.set a (.inl (0, n1, .inl (va_cpy f g sp.toNatClampNeg dp.toNatClampNeg n.toNatClampNeg)))) kc ks) : mjG X d C S I Post pc lo (.int n :: .int dp :: .ref a :: .int sp :: .ref b :: rest) hp kc ks := by
  intro l D cy ad0 N0 A p e s m args below meth c R hR hAt hK hA hC hX ad H locs ls h1 h2 h3 h4 h5
  have hs2 : ((rest.map (mjV ad)).map fun v => v.category).sum ≤ 8 := by
    rw [List.map_map]
    have : (rest.map ((fun v => v.category) ∘ mjV ad)) = rest.map (fun v => v.category) := List.map_congr_left (fun v _ => mjV_cat ad v)
    rw [this]
    exact hsum
  have h40 := hR.2.1
  exact va_copyi (ty := .int) hAt.1 hAt.2.1 (hAt.2.2.1.trans h5.1.symm) hAt.2.2.2.2.2.1 (hAt.2.2.2.2.2.2.2 _ (mjYr_ok hy)) (hAt.2.2.2.2.2.2.2 _ mjY_words.1) (hAt.2.2.2.2.2.2.2 _ mjY_words.2.1) (hAt.2.2.2.2.2.2.2 _ mjY_words.2.2) hK h4.1 h4.2.1 h4.2.2 b a 0 0 (mjW_at hb) (mjW_at ha) rfl rfl rfl g1 g2 g3 g4 g5 (fun i hi => rfl) (Nat.le_trans hdd hR.1) (by show _ + ((5 + 2) + 11) ≤ R.locals; omega) hd (fun H1 locs1 q1 q2 q3 => k l D cy ad0 N0 A p e s m args below meth c R hR hAt hK hA hC hX ad H1 locs1 ls h1 h2 (by rw [List.length_set]; exact h3) ⟨by rw [mjW_set]; exact q1, by rw [mjW_set]; exact q2, q3⟩ h5)
end MJ5
def mj_cpy (I : mjI) (i : Instr) (len d : Nat) (z : mjZ) : Option mjZ := match i with
  | .invokestatic idx => match z.2.2.1 with
    | .int n :: .int dp :: .ref a :: .int sp :: .ref b :: rest => match z.2.2.2[b]?, z.2.2.2[a]? with
      | some (.inl (0, n0, .inl f)), some (.inl (0, n1, .inl g)) => mjb (len == 3 && mjYr I.2.1 idx && !decide (sp < 0) && !decide (dp < 0) && !decide (n < 0) && decide (sp.toNatClampNeg + n.toNatClampNeg ≤ n0) && decide (dp.toNatClampNeg + n.toNatClampNeg ≤ n1) && mj_cs rest && decide (1 ≤ d)) (some (z.1 + 3, z.2.1, rest, z.2.2.2.set a (.inl (0, n1, .inl (va_cpy f g sp.toNatClampNeg dp.toNatClampNeg n.toNatClampNeg)))))
      | _, _ => none
    | _ => none
  | _ => none
theorem mj_cpy_ok {X : mjX} {d C S : Nat} {I : mjI} {Post : Option Value → mjH → Prop} {kc ks : Nat} {z z' : mjZ} {i : Instr} {len : Nat} (hd : decode I.2.2.1 z.1 = .ok (i, len)) (h : mj_cpy I i len d z = some z') (k : mjG X d C S I Post z'.1 z'.2.1 z'.2.2.1 z'.2.2.2 kc ks) : mjG X d C S I Post z.1 z.2.1 z.2.2.1 z.2.2.2 kc ks := by
  obtain ⟨pc, lo, st, hp⟩ := z
  unfold mj_cpy at h
  dsimp only at *
  split at h
  · next idx =>
    split at h
    · next n dp a sp b rest =>
      split at h
      · next n0 f n1 g hb ha =>
        obtain ⟨q, h2⟩ := mjb_some h
        simp only [Bool.and_eq_true, beq_iff_eq, decide_eq_true_eq, Bool.not_eq_true', decide_eq_false_iff_not, mj_cs] at q
        obtain ⟨⟨⟨⟨⟨⟨⟨⟨rfl, q1⟩, q2⟩, q3⟩, q4⟩, q5⟩, q6⟩, q7⟩, q8⟩ := q
        cases h2
        exact mjr_copy hd q1 hb ha q2 q3 q4 q5 q6 q7 q8 k
      · cases h
    · cases h
  · cases h
/-- open questions: at a method's place, the answer that is taken for granted -/
abbrev mjO : Type := List (Nat × String × Nat × Int)
def mj_find (q : mjO) (cn : Nat) (nm : String) (pc : Nat) : Option Int := match q with
  | [] => none
  | e :: r => match e.2.2.1 == pc && e.1 == cn && e.2.1 == nm with
    | true => some e.2.2.2
    | false => mj_find r cn nm pc
def mj_bit (v : Int) : Bool := decide (v = 1)
def mj_ask (q : mjO) (I : mjI) (i : Instr) (len : Nat) (z : mjZ) : Option (mjZ × List Bool) := match i with
  | .ifCond cd off => match mj_find q I.2.1 I.1.name z.1 with
    | some v => match z.2.2.1 with
      | .int x :: r => match len == 3 && decide (0 ≤ (z.1 : Int) + off) with
        | true => some ((match mj_bit v with
          | true => ((z.1 : Int) + off).toNat
          | false => z.1 + 3, z.2.1, r, z.2.2.2), [mjCmp cd x 0 == mj_bit v])
        | false => none
      | _ => none
    | none => none
  | .if_icmp cd off => match mj_find q I.2.1 I.1.name z.1 with
    | some v => match z.2.2.1 with
      | .int y :: .int x :: r => match len == 3 && decide (0 ≤ (z.1 : Int) + off) with
        | true => some ((match mj_bit v with
          | true => ((z.1 : Int) + off).toNat
          | false => z.1 + 3, z.2.1, r, z.2.2.2), [mjCmp cd x y == mj_bit v])
        | false => none
      | _ => none
    | none => none
  | .tableswitch dflt lw hi offs => match mj_find q I.2.1 I.1.name z.1 with
    | some v => match z.2.2.1 with
      | .int x :: r => match decide (v < lw) with
        | true => match decide (0 ≤ (z.1 : Int) + dflt) with
          | true => some ((((z.1 : Int) + dflt).toNat, z.2.1, r, z.2.2.2), [decide (x.toInt < lw) || decide (hi < x.toInt)])
          | false => none
        | false => match mj_sw v z.1 (.tableswitch dflt lw hi offs) z.2.1 r z.2.2.2 with
          | some z' => some (z', [decide (x.toInt = v)])
          | none => none
      | _ => none
    | none => none
  | _ => none
/-- the law's own reads of the script -/
def mj_scr (sc : Bool) (L : Nat) (xs : Nat → Int32) (i : Instr) (len : Nat) (z : mjZ) : Option mjZ := match sc with
  | false => none
  | true => match i with
    | .iaload => match z.2.2.1 with
      | .int j :: .ref h :: r => match len == 1 && h == 1000020 && mj_in j L with
        | true => some (z.1 + 1, z.2.1, .int (xs j.toNatClampNeg) :: r, z.2.2.2)
        | false => none
      | _ => none
    | .arraylength => match z.2.2.1 with
      | .ref h :: r => match len == 1 && h == 1000020 with
        | true => some (z.1 + 1, z.2.1, .int (Int32.ofNat L) :: r, z.2.2.2)
        | false => none
      | _ => none
    | _ => none
def mj_eo (L : Nat) (xs : Nat → Int32) (q : mjO) : Nat → Bool → Nat → mjI → mjZ → Nat → Nat → List Bool → Option (Option Value × mjH × Nat × Nat × List Bool)
  | 0, _, _, _, _, _, _, _ => none
  | n + 1, sc, d, I, z, kc, ks, cs => match decode I.2.2.1 z.1 with
    | .error _ => none
    | .ok (i, len) => match mj_ask q I i len z with
      | some (z', c0) => mj_eo L xs q n sc d I z' kc ks (c0 ++ cs)
      | none => match mj_scr sc L xs i len z with
        | some z' => mj_eo L xs q n sc d I z' kc ks cs
        | none => match mj_ins I i len z.1 z.2.1 z.2.2.1 z.2.2.2 with
          | some z' => mj_eo L xs q n sc d I z' kc ks cs
          | none => match mj_ret I i len z.2.2.1 with
            | some r => some (r, z.2.2.2, kc, ks, cs)
            | none => match mj_new I i len z with
              | some (z', c, s) => mj_eo L xs q n sc d I z' (kc + c) (ks + s) cs
              | none => match mj_call I i len z.2.2.1 z.2.2.2 with
                | some (_, J, As, rest) => match d with
                  | 0 => none
                  | d' + 1 => match mj_eo L xs q n false d' J (0, mjLo0 As J.2.2.2.1, [], z.2.2.2) 0 0 cs with
                    | some (r, hp', c, s, cs') => match c == 0 || (mjWl z.2.2.2.length z.2.1 && mjWs z.2.2.2.length rest) with
                      | true => mj_eo L xs q n sc (d' + 1) I (z.1 + 3, z.2.1, r.toList ++ rest, hp') (kc + c) (ks + s) cs'
                      | false => none
                    | none => none
                | none => match mj_obj I i len d z with
                  | some z' => mj_eo L xs q n sc d I z' kc ks cs
                  | none => match mj_cpy I i len d z with
                    | some z' => mj_eo L xs q n sc d I z' kc ks cs
                    | none => none
theorem mj_ask_ok {X : mjX} {d C S : Nat} {I : mjI} {Post : Option Value → mjH → Prop} {kc ks : Nat} {z z' : mjZ} {q : mjO} {i : Instr} {len : Nat} {c0 : List Bool} (hd : decode I.2.2.1 z.1 = .ok (i, len)) (h : mj_ask q I i len z = some (z', c0)) (hc : ∀ b ∈ c0, b = true) (k : mjG X d C S I Post z'.1 z'.2.1 z'.2.2.1 z'.2.2.2 kc ks) : mjG X d C S I Post z.1 z.2.1 z.2.2.1 z.2.2.2 kc ks := by
  obtain ⟨pc, lo, st, hp⟩ := z
  unfold mj_ask at h
  dsimp only at *
  split at h
  · next cd off =>
    split at h
    · next v hv =>
      split at h
      · next x r =>
        split at h
        · next hb =>
          simp only [Bool.and_eq_true, beq_iff_eq, decide_eq_true_eq] at hb
          obtain ⟨rfl, hb⟩ := hb
          cases h
          have e := hc _ List.mem_cons_self
          simp only [beq_iff_eq] at e
          refine mj_ifc_ok hd (Int.toNat_of_nonneg hb).symm ?_
          rw [e]
          exact k
        · cases h
      · cases h
    · cases h
  · next cd off =>
    split at h
    · next v hv =>
      split at h
      · next y x r =>
        split at h
        · next hb =>
          simp only [Bool.and_eq_true, beq_iff_eq, decide_eq_true_eq] at hb
          obtain ⟨rfl, hb⟩ := hb
          cases h
          have e := hc _ List.mem_cons_self
          simp only [beq_iff_eq] at e
          refine mj_icm_ok hd (Int.toNat_of_nonneg hb).symm ?_
          rw [e]
          exact k
        · cases h
      · cases h
    · cases h
  · next dflt lw hi offs =>
    split at h
    · next v hv =>
      split at h
      · next x r =>
        split at h
        · next hlt =>
          split at h
          · next hb =>
            simp only [decide_eq_true_eq] at hb
            cases h
            have e := hc _ List.mem_cons_self
            simp only [Bool.or_eq_true, decide_eq_true_eq] at e
            exact mjr_tableOut hd e (Int.toNat_of_nonneg hb).symm k
          · cases h
        · split at h
          · next z1 hz =>
            cases h
            have e := hc _ List.mem_cons_self
            simp only [decide_eq_true_eq] at e
            rw [← e] at hz
            exact mj_tab_ok hd hz k
          · cases h
      · cases h
    · cases h
  · cases h
theorem mj_scr_ok {L : Nat} {xs : Nat → Int32} {d C S : Nat} {I : mjI} {Post : Option Value → mjH → Prop} {kc ks : Nat} {z z' : mjZ} {i : Instr} {len : Nat} {sc : Bool} {X : mjX} (hX : sc = true → X = mjXs L xs) (hd : decode I.2.2.1 z.1 = .ok (i, len)) (h : mj_scr sc L xs i len z = some z') (k : mjG X d C S I Post z'.1 z'.2.1 z'.2.2.1 z'.2.2.2 kc ks) : mjG X d C S I Post z.1 z.2.1 z.2.2.1 z.2.2.2 kc ks := by
  obtain ⟨pc, lo, st, hp⟩ := z
  unfold mj_scr at h
  dsimp only at *
  split at h
  · cases h
  · have hX := hX rfl
    subst hX
    split at h
    · split at h
      · next j g r =>
        split at h
        · next hb =>
          simp only [Bool.and_eq_true, beq_iff_eq] at hb
          obtain ⟨⟨rfl, rfl⟩, hb⟩ := hb
          cases h
          exact mjr_scr_ld hd (mj_in_ok hb) k
        · cases h
      · cases h
    · split at h
      · next g r =>
        split at h
        · next hb =>
          simp only [Bool.and_eq_true, beq_iff_eq] at hb
          obtain ⟨rfl, rfl⟩ := hb
          cases h
          exact mjr_scr_len hd k
        · cases h
      · cases h
    · cases h
set_option maxHeartbeats 4000000 in
theorem mj_eo_ok (L : Nat) (xs : Nat → Int32) (q : mjO) (n : Nat) : ∀ {sc : Bool} {d : Nat} {I : mjI} {z : mjZ} {kc ks : Nat} {cs : List Bool} {r : Option Value} {hpF : mjH} {kF sF : Nat} {cF : List Bool}, mj_eo L xs q n sc d I z kc ks cs = some (r, hpF, kF, sF, cF) → (∀ b ∈ cF, b = true) → kc ≤ kF ∧ ks ≤ sF ∧ (∀ b ∈ cs, b = true) ∧ ∀ {X : mjX} {C S : Nat} {Post : Option Value → mjH → Prop}, (sc = true → X = mjXs L xs) → kF ≤ C → sF ≤ S → Post r hpF → mjG X d C S I Post z.1 z.2.1 z.2.2.1 z.2.2.2 kc ks := by
  induction n with
  | zero => intro sc d I z kc ks cs r hpF kF sF cF h; cases h
  | succ n ih =>
    intro sc d I z kc ks cs r hpF kF sF cF h hF
    unfold mj_eo at h
    split at h
    · cases h
    · next i len hd =>
      split at h
      · next z' c0 hz =>
        obtain ⟨a, b, cc, c⟩ := ih h hF
        exact ⟨a, b, fun x hx => cc x (List.mem_append_right _ hx), fun g0 g1 g2 g3 => mj_ask_ok hd hz (fun x hx => cc x (List.mem_append_left _ hx)) (c g0 g1 g2 g3)⟩
      · split at h
        · next z' hz =>
          obtain ⟨a, b, cc, c⟩ := ih h hF
          exact ⟨a, b, cc, fun g0 g1 g2 g3 => mj_scr_ok g0 hd hz (c g0 g1 g2 g3)⟩
        · split at h
          · next z' hz =>
            obtain ⟨a, b, cc, c⟩ := ih h hF
            exact ⟨a, b, cc, fun g0 g1 g2 g3 => mj_ins_ok hd hz (c g0 g1 g2 g3)⟩
          · split at h
            · next r0 hr =>
              cases h
              exact ⟨Nat.le_refl _, Nat.le_refl _, hF, fun g0 g1 g2 g3 => mj_ret_ok hd hr g1 g2 g3⟩
            · split at h
              · next z' c0 s0 hz =>
                obtain ⟨a, b, cc, c⟩ := ih h hF
                exact ⟨by omega, by omega, cc, fun g0 g1 g2 g3 => mj_new_ok hd hz (by omega) (by omega) (c g0 g1 g2 g3)⟩
              · split at h
                · next j J As rest hc =>
                  split at h
                  · cases h
                  · next d' =>
                    split at h
                    · next r1 hp1 c1 s1 cs1 hx =>
                      split at h
                      · next hw =>
                        obtain ⟨a, b, cc, c⟩ := ih h hF
                        obtain ⟨-, -, cc2, c2⟩ := ih hx cc
                        refine ⟨by omega, by omega, cc2, fun g0 g1 g2 g3 => ?_⟩
                        refine mj_call_ok (C' := c1) (S' := s1) (Post' := fun r' hp' => r' = r1 ∧ hp' = hp1) hd hc (Nat.le_refl _) (by omega) (by omega) ?_ (fun hJ hn => mjM_of hJ hn (c2 (fun z => by cases z) (Nat.le_refl _) (Nat.le_refl _) ⟨rfl, rfl⟩)) ?_
                        · simpa using hw
                        · rintro r' hp' ⟨rfl, rfl⟩ -
                          exact c g0 g1 g2 g3
                      · cases h
                    · cases h
                · split at h
                  · next z' hz =>
                    obtain ⟨a, b, cc, c⟩ := ih h hF
                    exact ⟨a, b, cc, fun g0 g1 g2 g3 => mj_obj_ok hd hz (c g0 g1 g2 g3)⟩
                  · split at h
                    · next z' hz =>
                      obtain ⟨a, b, cc, c⟩ := ih h hF
                      exact ⟨a, b, cc, fun g0 g1 g2 g3 => mj_cpy_ok hd hz (c g0 g1 g2 g3)⟩
                    · cases h
/-- some steps, with cells made and calls done -/
def mj_one (f d : Nat) (I : mjI) (z : mjZ) : Option (mjZ × Nat × Nat) := match decode I.2.2.1 z.1 with
  | .error _ => none
  | .ok (i, len) => match mj_ins I i len z.1 z.2.1 z.2.2.1 z.2.2.2 with
    | some z' => some (z', 0, 0)
    | none => match mj_new I i len z with
      | some x => some x
      | none => match mj_call I i len z.2.2.1 z.2.2.2 with
        | some (_, J, As, rest) => match d with
          | 0 => none
          | d' + 1 => match mj_ex f d' J (0, mjLo0 As J.2.2.2.1, [], z.2.2.2) 0 0 with
            | some (r, hp', c, s) => match c == 0 || (mjWl z.2.2.2.length z.2.1 && mjWs z.2.2.2.length rest) with
              | true => some ((z.1 + 3, z.2.1, r.toList ++ rest, hp'), c, s)
              | false => none
            | none => none
        | none => match mj_obj I i len d z with
          | some z' => some (z', 0, 0)
          | none => none
def mj_go (f d : Nat) (I : mjI) : Nat → mjZ → Nat → Nat → Option (mjZ × Nat × Nat)
  | 0, z, kc, ks => some (z, kc, ks)
  | n + 1, z, kc, ks => match mj_one f d I z with
    | some (z', c, s) => mj_go f d I n z' (kc + c) (ks + s)
    | none => none
theorem mj_one_ok {f d : Nat} {I : mjI} {z z' : mjZ} {c s : Nat} (h : mj_one f d I z = some (z', c, s)) {X : mjX} {C S : Nat} {Post : Option Value → mjH → Prop} {kc ks : Nat} (h1 : kc + c ≤ C) (h2 : ks + s ≤ S) (k : mjG X d C S I Post z'.1 z'.2.1 z'.2.2.1 z'.2.2.2 (kc + c) (ks + s)) : mjG X d C S I Post z.1 z.2.1 z.2.2.1 z.2.2.2 kc ks := by
  unfold mj_one at h
  split at h
  · cases h
  · next i len hd =>
    split at h
    · next z1 hz => cases h; exact mj_ins_ok hd hz k
    · split at h
      · next x hz => cases h; exact mj_new_ok hd hz h1 h2 k
      · split at h
        · next j J As rest hc =>
          split at h
          · cases h
          · next d' =>
            split at h
            · next r1 hp1 c1 s1 hx =>
              split at h
              · next hw =>
                cases h
                obtain ⟨-, -, c2⟩ := mj_ex_ok f hx
                refine mj_call_ok (C' := c) (S' := s) (Post' := fun r' hp' => r' = r1 ∧ hp' = hp1) hd hc (Nat.le_refl _) h1 h2 ?_ (fun hJ hn => mjM_of hJ hn (c2 (Nat.le_refl _) (Nat.le_refl _) ⟨rfl, rfl⟩)) ?_
                · simpa using hw
                · rintro r' hp' ⟨rfl, rfl⟩ -
                  exact k
              · cases h
            · cases h
        · split at h
          · next z1 hz => cases h; exact mj_obj_ok hd hz k
          · cases h
theorem mj_go_ok {f d : Nat} {I : mjI} (n : Nat) : ∀ {z z' : mjZ} {kc ks kF sF : Nat}, mj_go f d I n z kc ks = some (z', kF, sF) → kc ≤ kF ∧ ks ≤ sF ∧ ∀ {X : mjX} {C S : Nat} {Post : Option Value → mjH → Prop}, kF ≤ C → sF ≤ S → mjG X d C S I Post z'.1 z'.2.1 z'.2.2.1 z'.2.2.2 kF sF → mjG X d C S I Post z.1 z.2.1 z.2.2.1 z.2.2.2 kc ks := by
  induction n with
  | zero => intro z z' kc ks kF sF h; cases h; exact ⟨Nat.le_refl _, Nat.le_refl _, fun _ _ k => k⟩
  | succ n ih =>
    intro z z' kc ks kF sF h
    unfold mj_go at h
    split at h
    · next z1 c s hz =>
      obtain ⟨a, b, c9⟩ := ih h
      exact ⟨by omega, by omega, fun g1 g2 k => mj_one_ok hz (by omega) (by omega) (c9 g1 g2 k)⟩
    · cases h
