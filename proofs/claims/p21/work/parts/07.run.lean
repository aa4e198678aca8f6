/-! ===== the small machine as a function: whole runs ===== -/
def mj_ret (I : mjI) (i : Instr) (len : Nat) (st : List Value) : Option (Option Value) := match i with
  | .ireturn => match st with
    | [.int v] => match I.2.2.2.2.1 with
      | some ty => match len == 1 && decide (narrow ty (.int v) = .int v) with
        | true => some (some (.int v))
        | false => none
      | none => none
    | _ => none
  | .lreturn => match st with
    | [.long v] => match len == 1 && decide (I.2.2.2.2.1 = some .long) with
      | true => some (some (.long v))
      | false => none
    | _ => none
  | .return_ => match st with
    | [] => match len == 1 && decide (I.2.2.2.2.1 = none) with
      | true => some none
      | false => none
    | _ => none
  | _ => none
def mj_wfz (z : mjZ) (st : List Value) : Bool := decide (z.2.2.2.length < 1000000) && (mjWl z.2.2.2.length z.2.1 && mjWs z.2.2.2.length st && mjWh z.2.2.2.length z.2.2.2)
def mj_new (I : mjI) (i : Instr) (len : Nat) (z : mjZ) : Option (mjZ × Nat × Nat) := match i with
  | .new idx => match mjNr I.2.1 idx with
    | some ci => match len == 3 && mj_wfz z z.2.2.1 with
      | true => some ((z.1 + 3, z.2.1, .ref z.2.2.2.length :: z.2.2.1, z.2.2.2 ++ [.inr (ci, mjDf ci)]), 1, (mjCl ci).2.2)
      | false => none
    | none => none
  | .newarray ty => match z.2.2.1 with
    | .int n :: st => match len == 2 && !decide (n < 0) && decide (n.toNatClampNeg ≤ 65536) && mj_wfz z st with
      | true => match ty with
        | .int => some ((z.1 + 2, z.2.1, .ref z.2.2.2.length :: st, z.2.2.2 ++ [.inl (0, n.toNatClampNeg, .inl (fun _ => 0))]), 1, n.toNatClampNeg)
        | .long => some ((z.1 + 2, z.2.1, .ref z.2.2.2.length :: st, z.2.2.2 ++ [.inl (1, n.toNatClampNeg, .inr (.inl (fun _ => 0)))]), 1, n.toNatClampNeg)
        | .byte => some ((z.1 + 2, z.2.1, .ref z.2.2.2.length :: st, z.2.2.2 ++ [.inl (2, n.toNatClampNeg, .inl (fun _ => 0))]), 1, n.toNatClampNeg)
        | .boolean => some ((z.1 + 2, z.2.1, .ref z.2.2.2.length :: st, z.2.2.2 ++ [.inl (3, n.toNatClampNeg, .inl (fun _ => 0))]), 1, n.toNatClampNeg)
        | _ => none
      | false => none
    | _ => none
  | _ => none
def mj_cs (rest : List Value) : Bool := decide ((rest.map fun v => v.category).sum ≤ 8)
def mj_rv (hp : mjH) (h : Nat) (N : String) : Bool := match hp[h]? with
  | some (.inr (ci, _)) => decide (ci < 13) && (mjCl ci).1 == N
  | some (.inl _) => false
  | none => match mjKi h with
    | some _ => N == "java/lang/String"
    | none => false
theorem mj_rv_ok {hp : mjH} {h : Nat} {N : String} (e : mj_rv hp h N = true) : mjRv hp h N := by
  unfold mj_rv at e
  split at e
  · next ci fs hx =>
    simp only [Bool.and_eq_true, decide_eq_true_eq, beq_iff_eq] at e
    exact Or.inl ⟨ci, fs, hx, e.1, e.2⟩
  · cases e
  · split at e
    · next i hi =>
      obtain ⟨a, b⟩ := mjKi_ok hi
      exact Or.inr ⟨i, a, b, by simpa using e⟩
    · cases e
/-- a call: the method's number, its row, its arguments, what is below them -/
def mj_call (I : mjI) (i : Instr) (len : Nat) (st : List Value) (hp : mjH) : Option (Nat × mjI × List Value × List Value) := match i with
  | .invokevirtual idx => match mjMr I.2.1 idx with
    | some j => match mjMt j with
      | some J => match st.drop J.2.2.2.2.2.1 with
        | .ref h :: rest => match len == 3 && !J.2.2.2.2.2.2 && !(J.1.name == "<init>") && mj_rv hp h J.1.cls && decide (J.2.2.2.2.2.1 ≤ st.length) && mj_cs rest && decide (((.ref h :: (st.take J.2.2.2.2.2.1).reverse).flatMap mjFl).length ≤ J.2.2.2.1) with
          | true => some (j, J, .ref h :: (st.take J.2.2.2.2.2.1).reverse, rest)
          | false => none
        | _ => none
      | none => none
    | none => none
  | .invokestatic idx => match mjMr I.2.1 idx with
    | some j => match mjMt j with
      | some J => match len == 3 && J.2.2.2.2.2.2 && decide (J.2.2.2.2.2.1 ≤ st.length) && mj_cs (st.drop J.2.2.2.2.2.1) && decide (((st.take J.2.2.2.2.2.1).reverse.flatMap mjFl).length ≤ J.2.2.2.1) with
        | true => some (j, J, (st.take J.2.2.2.2.2.1).reverse, st.drop J.2.2.2.2.2.1)
        | false => none
      | none => none
    | none => none
  | .invokespecial idx => match mjMr I.2.1 idx with
    | some j => match mjMt j with
      | some J => match st.drop J.2.2.2.2.2.1 with
        | .ref h :: rest => match len == 3 && !J.2.2.2.2.2.2 && J.1.name == "<init>" && decide (J.2.2.2.2.1 = none) && decide (J.2.2.2.2.2.1 ≤ st.length) && mj_cs rest && decide (((.ref h :: (st.take J.2.2.2.2.2.1).reverse).flatMap mjFl).length ≤ J.2.2.2.1) with
            | true => some (j, J, .ref h :: (st.take J.2.2.2.2.2.1).reverse, rest)
            | false => none
        | _ => none
      | none => none
    | none => none
  | _ => none
def mj_obj (I : mjI) (i : Instr) (len d : Nat) (z : mjZ) : Option mjZ := match i with
  | .invokespecial idx => match z.2.2.1 with
    | .ref _ :: rest => match len == 3 && mjOr I.2.1 idx && mj_cs rest && decide (1 ≤ d) with
      | true => some (z.1 + 3, z.2.1, rest, z.2.2.2)
      | false => none
    | _ => none
  | _ => none
def mj_ex : Nat → Nat → mjI → mjZ → Nat → Nat → Option (Option Value × mjH × Nat × Nat)
  | 0, _, _, _, _, _ => none
  | n + 1, d, I, z, kc, ks => match decode I.2.2.1 z.1 with
    | .error _ => none
    | .ok (i, len) => match mj_ins I i len z.1 z.2.1 z.2.2.1 z.2.2.2 with
      | some z' => mj_ex n d I z' kc ks
      | none => match mj_ret I i len z.2.2.1 with
        | some r => some (r, z.2.2.2, kc, ks)
        | none => match mj_new I i len z with
          | some (z', c, s) => mj_ex n d I z' (kc + c) (ks + s)
          | none => match mj_call I i len z.2.2.1 z.2.2.2 with
            | some (_, J, As, rest) => match d with
              | 0 => none
              | d' + 1 => match mj_ex n d' J (0, mjLo0 As J.2.2.2.1, [], z.2.2.2) 0 0 with
                | some (r, hp', c, s) => match c == 0 || (mjWl z.2.2.2.length z.2.1 && mjWs z.2.2.2.length rest) with
                  | true => mj_ex n (d' + 1) I (z.1 + 3, z.2.1, r.toList ++ rest, hp') (kc + c) (ks + s)
                  | false => none
                | none => none
            | none => match mj_obj I i len d z with
              | some z' => mj_ex n d I z' kc ks
              | none => none
section MJ4
variable {X : mjX} {d C S : Nat} {I : mjI} {Post : Option Value → mjH → Prop} {kc ks : Nat} {z : mjZ}
theorem mj_ret_ok {i : Instr} {len : Nat} {r : Option Value} (hd : decode I.2.2.1 z.1 = .ok (i, len)) (h : mj_ret I i len z.2.2.1 = some r) (h1 : kc ≤ C) (h2 : ks ≤ S) (hq : Post r z.2.2.2) : mjG X d C S I Post z.1 z.2.1 z.2.2.1 z.2.2.2 kc ks := by
  obtain ⟨pc, lo, st, hp⟩ := z
  unfold mj_ret at h
  dsimp only at *
  split at h
  · split at h
    · next v =>
      split at h
      · next ty hty =>
        split at h
        · next hb =>
          simp only [Bool.and_eq_true, beq_iff_eq, decide_eq_true_eq] at hb
          obtain ⟨rfl, hb⟩ := hb
          cases h
          exact mjr_ireturn hd hty hb h1 h2 hq
        · cases h
      · cases h
    · cases h
  · split at h
    · next v =>
      split at h
      · next hb =>
        simp only [Bool.and_eq_true, beq_iff_eq, decide_eq_true_eq] at hb
        obtain ⟨rfl, hb⟩ := hb
        cases h
        exact mjr_lreturn hd hb h1 h2 hq
      · cases h
    · cases h
  · split at h
    · split at h
      · next hb =>
        simp only [Bool.and_eq_true, beq_iff_eq, decide_eq_true_eq] at hb
        obtain ⟨rfl, hb⟩ := hb
        cases h
        exact mjr_return hd hb h1 h2 hq
      · cases h
    · cases h
  · cases h
theorem mj_new_ok {i : Instr} {len c s : Nat} {z' : mjZ} (hd : decode I.2.2.1 z.1 = .ok (i, len)) (h : mj_new I i len z = some (z', c, s)) (h1 : kc + c ≤ C) (h2 : ks + s ≤ S) (k : mjG X d C S I Post z'.1 z'.2.1 z'.2.2.1 z'.2.2.2 (kc + c) (ks + s)) : mjG X d C S I Post z.1 z.2.1 z.2.2.1 z.2.2.2 kc ks := by
  obtain ⟨pc, lo, st, hp⟩ := z
  unfold mj_new at h
  dsimp only at *
  split at h
  · next idx =>
    split at h
    · next ci hci =>
      split at h
      · next hb =>
        simp only [Bool.and_eq_true, beq_iff_eq, mj_wfz, decide_eq_true_eq] at hb
        obtain ⟨rfl, hb⟩ := hb
        cases h
        exact mjr_new hd hci hb.1 (by simp only [Bool.and_eq_true]; exact hb.2) h1 h2 k
      · cases h
    · cases h
  · next ty =>
    split at h
    · next n st =>
      split at h
      · next hb =>
        simp only [Bool.and_eq_true, beq_iff_eq, mj_wfz, decide_eq_true_eq, Bool.not_eq_true', decide_eq_false_iff_not] at hb
        obtain ⟨⟨⟨rfl, hb1⟩, hb2⟩, hb⟩ := hb
        split at h
        · cases h
          exact mjr_newarray_int hd hb1 (by omega) hb.1 (by simp only [Bool.and_eq_true]; exact hb.2) h1 h2 k
        · cases h
          exact mjr_newarray_long hd hb1 (by omega) hb.1 (by simp only [Bool.and_eq_true]; exact hb.2) h1 h2 k
        · cases h
          exact mjr_newarray_byte hd hb1 (by omega) hb.1 (by simp only [Bool.and_eq_true]; exact hb.2) h1 h2 k
        · cases h
          exact mjr_newarray_boolean hd hb1 (by omega) hb.1 (by simp only [Bool.and_eq_true]; exact hb.2) h1 h2 k
        · cases h
      · cases h
    · cases h
  · cases h
theorem mj_obj_ok {i : Instr} {len : Nat} {z' : mjZ} (hd : decode I.2.2.1 z.1 = .ok (i, len)) (h : mj_obj I i len d z = some z') (k : mjG X d C S I Post z'.1 z'.2.1 z'.2.2.1 z'.2.2.2 kc ks) : mjG X d C S I Post z.1 z.2.1 z.2.2.1 z.2.2.2 kc ks := by
  obtain ⟨pc, lo, st, hp⟩ := z
  unfold mj_obj at h
  dsimp only at *
  split at h
  · next idx =>
    split at h
    · next g rest =>
      split at h
      · next hb =>
        simp only [Bool.and_eq_true, beq_iff_eq, decide_eq_true_eq, mj_cs] at hb
        obtain ⟨⟨⟨rfl, hb1⟩, hb2⟩, hb3⟩ := hb
        cases h
        exact mjr_objInit hd hb1 hb2 hb3 k
      · cases h
    · cases h
  · cases h
theorem mj_call_ok {i : Instr} {len j : Nat} {J : mjI} {As rest : List Value} {d' C' S' : Nat} {Post' : Option Value → mjH → Prop} (hd : decode I.2.2.1 z.1 = .ok (i, len)) (h : mj_call I i len z.2.2.1 z.2.2.2 = some (j, J, As, rest)) (hdd : d' + 1 ≤ d) (hkc : kc + C' ≤ C) (hks : ks + S' ≤ S) (hwf : C' = 0 ∨ (mjWl z.2.2.2.length z.2.1 && mjWs z.2.2.2.length rest) = true)
    (hM : mjMt j = some J → (As.flatMap mjFl).length ≤ J.2.2.2.1 → mjM d' C' S' j As z.2.2.2 Post') (k : ∀ r hp', Post' r hp' → z.2.2.2.length ≤ hp'.length → mjG X d C S I Post (z.1 + 3) z.2.1 (r.toList ++ rest) hp' (kc + C') (ks + S')) : mjG X d C S I Post z.1 z.2.1 z.2.2.1 z.2.2.2 kc ks := by
  obtain ⟨pc, lo, st, hp⟩ := z
  unfold mj_call at h
  dsimp only at *
  split at h
  · next idx =>
    split at h
    · next j0 hj =>
      split at h
      · next J0 hJ =>
        split at h
        · next g rest0 hdr =>
          split at h
          · next hb =>
            simp only [Bool.and_eq_true, beq_iff_eq, decide_eq_true_eq, mj_cs, Bool.not_eq_true', beq_eq_false_iff_ne] at hb
            obtain ⟨⟨⟨⟨⟨⟨rfl, b1⟩, b2⟩, b3⟩, b5⟩, b6⟩, b7⟩ := hb
            cases h
            have e : st = (st.take J.2.2.2.2.2.1).reverse.reverse ++ .ref g :: rest := by
              rw [List.reverse_reverse, ← hdr, List.take_append_drop]
            rw [e]
            exact mjr_invokevirtual hd hj hJ b1 b2 (mj_rv_ok b3) (by rw [List.length_reverse, List.length_take]; omega) b6 hdd hkc hks hwf (hM hJ b7) k
          · cases h
        · cases h
      · cases h
    · cases h
  · next idx =>
    split at h
    · next j0 hj =>
      split at h
      · next J0 hJ =>
        split at h
        · next hb =>
          simp only [Bool.and_eq_true, beq_iff_eq, decide_eq_true_eq, mj_cs] at hb
          obtain ⟨⟨⟨⟨rfl, b1⟩, b2⟩, b3⟩, b4⟩ := hb
          cases h
          have e : st = (st.take J.2.2.2.2.2.1).reverse.reverse ++ st.drop J.2.2.2.2.2.1 := by
            rw [List.reverse_reverse, List.take_append_drop]
          rw [e]
          exact mjr_invokestatic hd hj hJ b1 (by rw [List.length_reverse, List.length_take]; omega) b3 hdd hkc hks hwf (hM hJ b4) k
        · cases h
      · cases h
    · cases h
  · next idx =>
    split at h
    · next j0 hj =>
      split at h
      · next J0 hJ =>
        split at h
        · next g rest0 hdr =>
          split at h
          · next hb =>
            simp only [Bool.and_eq_true, beq_iff_eq, decide_eq_true_eq, mj_cs, Bool.not_eq_true'] at hb
            obtain ⟨⟨⟨⟨⟨⟨rfl, b1⟩, b2⟩, b3⟩, b5⟩, b6⟩, b7⟩ := hb
            cases h
            have e : st = (st.take J.2.2.2.2.2.1).reverse.reverse ++ .ref g :: rest := by
              rw [List.reverse_reverse, ← hdr, List.take_append_drop]
            rw [e]
            exact mjr_invokespecial hd hj hJ b1 b2 b3 (by rw [List.length_reverse, List.length_take]; omega) b6 hdd hkc hks hwf (hM hJ b7) k
          · cases h
        · cases h
      · cases h
    · cases h
  · cases h
end MJ4
set_option maxHeartbeats 4000000 in
theorem mj_ex_ok (n : Nat) : ∀ {d : Nat} {I : mjI} {z : mjZ} {kc ks : Nat} {r : Option Value} {hpF : mjH} {kF sF : Nat}, mj_ex n d I z kc ks = some (r, hpF, kF, sF) → kc ≤ kF ∧ ks ≤ sF ∧ ∀ {X : mjX} {C S : Nat} {Post : Option Value → mjH → Prop}, kF ≤ C → sF ≤ S → Post r hpF → mjG X d C S I Post z.1 z.2.1 z.2.2.1 z.2.2.2 kc ks := by
  induction n with
  | zero => intro d I z kc ks r hpF kF sF h; cases h
  | succ n ih =>
    intro d I z kc ks r hpF kF sF h
    unfold mj_ex at h
    split at h
    · cases h
    · next i len hd =>
      split at h
      · next z' hz =>
        obtain ⟨a, b, c⟩ := ih h
        exact ⟨a, b, fun g1 g2 g3 => mj_ins_ok hd hz (c g1 g2 g3)⟩
      · split at h
        · next r0 hr =>
          cases h
          exact ⟨Nat.le_refl _, Nat.le_refl _, fun g1 g2 g3 => mj_ret_ok hd hr g1 g2 g3⟩
        · split at h
          · next z' c0 s0 hz =>
            obtain ⟨a, b, c⟩ := ih h
            exact ⟨by omega, by omega, fun g1 g2 g3 => mj_new_ok hd hz (by omega) (by omega) (c g1 g2 g3)⟩
          · split at h
            · next j J As rest hc =>
              split at h
              · cases h
              · next d' =>
                split at h
                · next r1 hp1 c1 s1 hx =>
                  split at h
                  · next hw =>
                    obtain ⟨a, b, c⟩ := ih h
                    obtain ⟨-, -, c2⟩ := ih hx
                    refine ⟨by omega, by omega, fun g1 g2 g3 => ?_⟩
                    refine mj_call_ok (C' := c1) (S' := s1) (Post' := fun r' hp' => r' = r1 ∧ hp' = hp1) hd hc (Nat.le_refl _) (by omega) (by omega) ?_ (fun hJ hn => mjM_of hJ hn (c2 (Nat.le_refl _) (Nat.le_refl _) ⟨rfl, rfl⟩)) ?_
                    · simpa using hw
                    · rintro r' hp' ⟨rfl, rfl⟩ -
                      exact c g1 g2 g3
                  · cases h
                · cases h
            · split at h
              · next z' hz =>
                obtain ⟨a, b, c⟩ := ih h
                exact ⟨a, b, fun g1 g2 g3 => mj_obj_ok hd hz (c g1 g2 g3)⟩
              · cases h
