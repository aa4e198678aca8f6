/-! ===== rows are left by what stores in no row ===== -/
def mj_stI (i : Instr) : Bool := match i with
  | .iastore => true
  | .lastore => true
  | .bastore => true
  | _ => false
def RW (a b : mjH) : Prop := mjGl b = mjGl a ∧ mjGi b = mjGi a
section MJB99A
variable {hp hq hr : mjH} {z z' : mjZ} {I : mjI} {i : Instr} {len pc h0 ci ci' d n f kc ks : Nat} {lo : mjLo} {st fs fs' : List Value}
theorem RW.rfl' (a : mjH) : RW a a := ⟨rfl, rfl⟩
theorem RW.tr (h : RW hp hq) (g : RW hq hr) : RW hp hr := ⟨g.1.trans h.1, g.2.trans h.2⟩
theorem rw_set (e : hp[h0]? = some (.inr (ci, fs))) : RW hp (hp.set h0 (.inr (ci', fs'))) := by
  have hl := (List.getElem?_eq_some_iff.mp e).1
  constructor
  · funext x
    unfold mjGl
    by_cases hx : x = h0
    · subst hx
      rw [List.getElem?_set_self hl, e]
    · rw [List.getElem?_set_ne (Ne.symm hx)]
  · funext x
    unfold mjGi
    by_cases hx : x = h0
    · subst hx
      rw [List.getElem?_set_self hl, e]
    · rw [List.getElem?_set_ne (Ne.symm hx)]
theorem rw_app {e : va_E} (h1 : mjGl [e] 0 = fun _ => 0) (h2 : mjGi [e] 0 = fun _ => 0) : RW hp (hp ++ [e]) := by
  constructor
  · funext x
    by_cases hx : x < hp.length
    · unfold mjGl
      rw [List.getElem?_append_left hx]
    · have e1 : hp[x]? = none := List.getElem?_eq_none (by omega)
      by_cases hy : x = hp.length
      · subst hy
        unfold mjGl at h1 ⊢
        rw [e1, List.getElem?_append_right (Nat.le_refl _), Nat.sub_self]
        exact h1
      · have e2 : (hp ++ [e])[x]? = none := List.getElem?_eq_none (by rw [List.length_append, List.length_singleton]; omega)
        unfold mjGl
        rw [e1, e2]
  · funext x
    by_cases hx : x < hp.length
    · unfold mjGi
      rw [List.getElem?_append_left hx]
    · have e1 : hp[x]? = none := List.getElem?_eq_none (by omega)
      by_cases hy : x = hp.length
      · subst hy
        unfold mjGi at h2 ⊢
        rw [e1, List.getElem?_append_right (Nat.le_refl _), Nat.sub_self]
        exact h2
      · have e2 : (hp ++ [e])[x]? = none := List.getElem?_eq_none (by rw [List.length_append, List.length_singleton]; omega)
        unfold mjGi
        rw [e1, e2]
theorem mjb_s {c : Bool} {x : Option mjZ} (h : mjb c x = some z) : x = some z := by
  cases c
  · cases h
  · exact h
theorem ii_rw {g : Int32 → Int32 → Int32} (h : mj_ii g pc lo st hp = some z) : RW hp z.2.2.2 := by
  unfold mj_ii at h
  first | (cases h; done) | (cases h; exact ⟨rfl, rfl⟩) | (cases (mjb_s h); exact ⟨rfl, rfl⟩) | (split at h <;> first | (cases h; done) | (cases h; exact ⟨rfl, rfl⟩) | (cases (mjb_s h); exact ⟨rfl, rfl⟩))
theorem ll_rw {g : Int64 → Int64 → Value} (h : mj_ll g pc lo st hp = some z) : RW hp z.2.2.2 := by
  unfold mj_ll at h
  first | (cases h; done) | (cases h; exact ⟨rfl, rfl⟩) | (cases (mjb_s h); exact ⟨rfl, rfl⟩) | (split at h <;> first | (cases h; done) | (cases h; exact ⟨rfl, rfl⟩) | (cases (mjb_s h); exact ⟨rfl, rfl⟩))
theorem i1_rw {g : Int32 → Value} (h : mj_i g pc lo st hp = some z) : RW hp z.2.2.2 := by
  unfold mj_i at h
  first | (cases h; done) | (cases h; exact ⟨rfl, rfl⟩) | (cases (mjb_s h); exact ⟨rfl, rfl⟩) | (split at h <;> first | (cases h; done) | (cases h; exact ⟨rfl, rfl⟩) | (cases (mjb_s h); exact ⟨rfl, rfl⟩))
theorem lsh_rw {g : Int64 → Int32 → Int64} (h : mj_lsh g pc lo st hp = some z) : RW hp z.2.2.2 := by
  unfold mj_lsh at h
  first | (cases h; done) | (cases h; exact ⟨rfl, rfl⟩) | (cases (mjb_s h); exact ⟨rfl, rfl⟩) | (split at h <;> first | (cases h; done) | (cases h; exact ⟨rfl, rfl⟩) | (cases (mjb_s h); exact ⟨rfl, rfl⟩))
theorem ld_rw {kd m l1 : Nat} (h : mj_ld kd m l1 pc lo st hp = some z) : RW hp z.2.2.2 := by
  unfold mj_ld at h
  first | (cases h; done) | (cases h; exact ⟨rfl, rfl⟩) | (cases (mjb_s h); exact ⟨rfl, rfl⟩) | (split at h <;> first | (cases h; done) | (cases h; exact ⟨rfl, rfl⟩) | (cases (mjb_s h); exact ⟨rfl, rfl⟩))
theorem sto_rw {kd nL m l1 : Nat} (h : mj_sto kd nL m l1 pc lo st hp = some z) : RW hp z.2.2.2 := by
  unfold mj_sto at h
  first | (cases h; done) | (cases h; exact ⟨rfl, rfl⟩) | (cases (mjb_s h); exact ⟨rfl, rfl⟩) | (split at h <;> first | (cases h; done) | (cases h; exact ⟨rfl, rfl⟩) | (cases (mjb_s h); exact ⟨rfl, rfl⟩))
theorem br_rw {b : Bool} {off : Int} (h : mj_br b pc off lo st hp = some z) : RW hp z.2.2.2 := by
  unfold mj_br at h
  first | (cases h; done) | (cases h; exact ⟨rfl, rfl⟩) | (cases (mjb_s h); exact ⟨rfl, rfl⟩)
theorem sw_rw {x : Int} (h : mj_sw x pc i lo st hp = some z) : RW hp z.2.2.2 := by
  unfold mj_sw at h
  first | (cases h; done) | (cases h; exact ⟨rfl, rfl⟩) | (cases (mjb_s h); exact ⟨rfl, rfl⟩) | (split at h <;> first | (cases h; done) | (cases h; exact ⟨rfl, rfl⟩) | (cases (mjb_s h); exact ⟨rfl, rfl⟩) | (split at h <;> first | (cases h; done) | (cases h; exact ⟨rfl, rfl⟩) | (cases (mjb_s h); exact ⟨rfl, rfl⟩) | (split at h <;> first | (cases h; done) | (cases h; exact ⟨rfl, rfl⟩) | (cases (mjb_s h); exact ⟨rfl, rfl⟩))))
theorem ldc_rw {cn m : Nat} (h : mj_ldc cn m pc lo st hp = some z) : RW hp z.2.2.2 := by
  unfold mj_ldc at h
  first | (cases h; done) | (cases h; exact ⟨rfl, rfl⟩) | (cases (mjb_s h); exact ⟨rfl, rfl⟩) | (split at h <;> first | (cases h; done) | (cases h; exact ⟨rfl, rfl⟩) | (cases (mjb_s h); exact ⟨rfl, rfl⟩) | (split at h <;> first | (cases h; done) | (cases h; exact ⟨rfl, rfl⟩) | (cases (mjb_s h); exact ⟨rfl, rfl⟩)))
theorem getS_rw {cn m : Nat} (h : mj_getS cn m pc h0 lo st hp = some z) : RW hp z.2.2.2 := by
  unfold mj_getS at h
  split at h
  · have h := mjb_s h
    split at h <;> first | (cases h; done) | (cases h; exact ⟨rfl, rfl⟩)
  · cases h
theorem gst_rw {cn m : Nat} (h : mj_gst cn m pc lo st hp = some z) : RW hp z.2.2.2 := by
  unfold mj_gst at h
  have h := mjb_s h
  split at h <;> first | (cases h; done) | (cases h; exact ⟨rfl, rfl⟩)
theorem get_rw {cn m : Nat} (h : mj_get cn m pc lo st hp = some z) : RW hp z.2.2.2 := by
  unfold mj_get at h
  first | (cases h; done) | (cases h; exact ⟨rfl, rfl⟩) | (cases (mjb_s h); exact ⟨rfl, rfl⟩) | exact getS_rw h | (split at h <;> first | (cases h; done) | (cases h; exact ⟨rfl, rfl⟩) | (cases (mjb_s h); exact ⟨rfl, rfl⟩) | exact getS_rw h | (split at h <;> first | (cases h; done) | (cases h; exact ⟨rfl, rfl⟩) | (cases (mjb_s h); exact ⟨rfl, rfl⟩) | exact getS_rw h | (split at h <;> first | (cases h; done) | (cases h; exact ⟨rfl, rfl⟩) | (cases (mjb_s h); exact ⟨rfl, rfl⟩) | exact getS_rw h | (split at h <;> first | (cases h; done) | (cases h; exact ⟨rfl, rfl⟩) | (cases (mjb_s h); exact ⟨rfl, rfl⟩) | exact getS_rw h))))
theorem put_rw {m : Nat} (h : mj_put I m pc lo st hp = some z) : RW hp z.2.2.2 := by
  unfold mj_put at h
  split at h
  · split at h
    · split at h
      · next e => cases (mjb_s h); exact rw_set e
      · cases h
    · cases h
  · cases h
theorem al_rw {kd : Nat} (h : mj_al kd pc lo st hp = some z) : RW hp z.2.2.2 := by
  unfold mj_al at h
  first | (cases h; done) | (cases h; exact ⟨rfl, rfl⟩) | (cases (mjb_s h); exact ⟨rfl, rfl⟩) | (split at h <;> first | (cases h; done) | (cases h; exact ⟨rfl, rfl⟩) | (cases (mjb_s h); exact ⟨rfl, rfl⟩) | (split at h <;> first | (cases h; done) | (cases h; exact ⟨rfl, rfl⟩) | (cases (mjb_s h); exact ⟨rfl, rfl⟩) | (split at h <;> first | (cases h; done) | (cases h; exact ⟨rfl, rfl⟩) | (cases (mjb_s h); exact ⟨rfl, rfl⟩))))
set_option maxHeartbeats 4000000 in
theorem ins_rw (h : mj_ins I i len pc lo st hp = some z) (hs : mj_stI i = false) : RW hp z.2.2.2 := by
  unfold mj_ins at h
  split at h
  all_goals first
    | (cases h; done)
    | exact absurd hs (by decide)
    | (cases (mjb_s h); exact ⟨rfl, rfl⟩)
    | exact ii_rw (mjb_s h) | exact ll_rw (mjb_s h) | exact i1_rw (mjb_s h) | exact lsh_rw (mjb_s h) | exact ld_rw (mjb_s h) | exact sto_rw (mjb_s h) | exact br_rw (mjb_s h) | exact ldc_rw (mjb_s h) | exact gst_rw (mjb_s h) | exact get_rw (mjb_s h) | exact put_rw (mjb_s h) | exact al_rw (mjb_s h)
    | (split at h <;> first | (cases h; done) | exact sw_rw h)
    | (have h := mjb_s h; split at h <;> first | (cases h; done) | (cases h; exact ⟨rfl, rfl⟩) | (cases (mjb_s h); exact ⟨rfl, rfl⟩) | exact br_rw h)
    | (have h := mjb_s h; split at h <;> first | (cases h; done) | (split at h <;> first | (cases h; done) | (cases (mjb_s h); exact ⟨rfl, rfl⟩) | (split at h <;> first | (cases h; done) | (cases h; exact ⟨rfl, rfl⟩))))
    | (have h := mjb_s h; obtain ⟨v, -, h⟩ := Option.bind_eq_some_iff.mp h; cases h; exact ⟨rfl, rfl⟩)
theorem new_rw {x : mjZ × Nat × Nat} (h : mj_new I i len z = some x) : RW z.2.2.2 x.1.2.2.2 := by
  unfold mj_new at h
  first | (cases h; done) | (cases h; exact rw_app rfl rfl) | (cases (mjb_s h); exact rw_app rfl rfl) | (split at h <;> first | (cases h; done) | (cases h; exact rw_app rfl rfl) | (cases (mjb_s h); exact rw_app rfl rfl) | (split at h <;> first | (cases h; done) | (cases h; exact rw_app rfl rfl) | (cases (mjb_s h); exact rw_app rfl rfl) | (split at h <;> first | (cases h; done) | (cases h; exact rw_app rfl rfl) | (cases (mjb_s h); exact rw_app rfl rfl) | (split at h <;> first | (cases h; done) | (cases h; exact rw_app rfl rfl) | (cases (mjb_s h); exact rw_app rfl rfl)))))
theorem obj_rw (h : mj_obj I i len d z = some z') : RW z.2.2.2 z'.2.2.2 := by
  unfold mj_obj at h
  first | (cases h; done) | (cases h; exact ⟨rfl, rfl⟩) | (cases (mjb_s h); exact ⟨rfl, rfl⟩) | (split at h <;> first | (cases h; done) | (cases h; exact ⟨rfl, rfl⟩) | (cases (mjb_s h); exact ⟨rfl, rfl⟩) | (split at h <;> first | (cases h; done) | (cases h; exact ⟨rfl, rfl⟩) | (cases (mjb_s h); exact ⟨rfl, rfl⟩) | (split at h <;> first | (cases h; done) | (cases h; exact ⟨rfl, rfl⟩) | (cases (mjb_s h); exact ⟨rfl, rfl⟩))))
end MJB99A
def mj_exN : Nat → Bool → Nat → mjI → mjZ → Nat → Nat → Option (Option Value × mjH × Nat × Nat)
  | 0, _, _, _, _, _, _ => none
  | n + 1, b, d, I, z, kc, ks => fZ b z (fun z => fN kc (fun kc => fN ks (fun ks => match decode I.2.2.1 z.1 with
    | .error _ => none
    | .ok (i, len) => match mj_stI i with
      | true => none
      | false => match mj_ins I i len z.1 z.2.1 z.2.2.1 z.2.2.2 with
        | some z' => mj_exN n (mj_wr i) d I z' kc ks
        | none => match mj_ret I i len z.2.2.1 with
          | some r => some (r, z.2.2.2, kc, ks)
          | none => match mj_new I i len z with
            | some (z', c, s) => mj_exN n true d I z' (kc + c) (ks + s)
            | none => match mj_call I i len z.2.2.1 z.2.2.2 with
              | some (_, J, As, rest) => match d with
                | 0 => none
                | d' + 1 => match mj_exN n false d' J (0, mjLo0 As J.2.2.2.1, [], z.2.2.2) 0 0 with
                  | some (r, hp', c, s) => match c == 0 || (mjWl z.2.2.2.length z.2.1 && mjWs z.2.2.2.length rest) with
                    | true => mj_exN n false (d' + 1) I (z.1 + 3, z.2.1, r.toList ++ rest, hp') (kc + c) (ks + s)
                    | false => none
                  | none => none
              | none => match mj_obj I i len d z with
                | some z' => mj_exN n false d I z' kc ks
                | none => none)))
theorem exN_ok (n : Nat) : ∀ (b : Bool) (d : Nat) (I : mjI) (z : mjZ) (kc ks : Nat) (x : Option Value × mjH × Nat × Nat), mj_exN n b d I z kc ks = some x → mj_ex n d I z kc ks = some x ∧ RW z.2.2.2 x.2.1 := by
  induction n with
  | zero => intro b d I z kc ks x h; cases h
  | succ n ih =>
    intro b d I z kc ks x h
    unfold mj_exN at h
    rw [fZ_eq, fN_eq, fN_eq] at h
    unfold mj_ex
    split at h
    · cases h
    · next i len hd =>
      rw [hd]
      dsimp only
      split at h
      · cases h
      · next hs =>
        split at h
        · next z' hz =>
          obtain ⟨a, c⟩ := ih _ _ _ _ _ _ _ h
          rw [hz]
          exact ⟨a, (ins_rw hz hs).tr c⟩
        · next hz =>
          rw [hz]
          dsimp only
          split at h
          · next r hr =>
            cases h
            rw [hr]
            exact ⟨rfl, RW.rfl' _⟩
          · next hr =>
            rw [hr]
            dsimp only
            split at h
            · next z' c s hn =>
              obtain ⟨a, c⟩ := ih _ _ _ _ _ _ _ h
              rw [hn]
              exact ⟨a, (new_rw hn).tr c⟩
            · next hn =>
              rw [hn]
              dsimp only
              split at h
              · next j J As rest hc =>
                rw [hc]
                dsimp only
                split at h
                · cases h
                · next d' =>
                  dsimp only
                  split at h
                  · next r hp' c s hx =>
                    obtain ⟨a1, c1⟩ := ih _ _ _ _ _ _ _ hx
                    rw [a1]
                    dsimp only
                    split at h
                    · next hw =>
                      obtain ⟨a2, c2⟩ := ih _ _ _ _ _ _ _ h
                      rw [hw]
                      exact ⟨a2, RW.tr c1 c2⟩
                    · cases h
                  · cases h
              · next hc =>
                rw [hc]
                dsimp only
                split at h
                · next z' ho =>
                  obtain ⟨a, c⟩ := ih _ _ _ _ _ _ _ h
                  rw [ho]
                  exact ⟨a, (obj_rw ho).tr c⟩
                · cases h
def mj_oneN (f d : Nat) (I : mjI) (z : mjZ) : Option (mjZ × Nat × Nat) := match decode I.2.2.1 z.1 with
  | .error _ => none
  | .ok (i, len) => match mj_stI i with
    | true => none
    | false => match mj_ins I i len z.1 z.2.1 z.2.2.1 z.2.2.2 with
      | some z' => some (z', 0, 0)
      | none => match mj_new I i len z with
        | some x => some x
        | none => match mj_call I i len z.2.2.1 z.2.2.2 with
          | some (_, J, As, rest) => match d with
            | 0 => none
            | d' + 1 => match mj_exN f true d' J (0, mjLo0 As J.2.2.2.1, [], z.2.2.2) 0 0 with
              | some (r, hp', c, s) => match c == 0 || (mjWl z.2.2.2.length z.2.1 && mjWs z.2.2.2.length rest) with
                | true => some ((z.1 + 3, z.2.1, r.toList ++ rest, hp'), c, s)
                | false => none
              | none => none
          | none => match mj_obj I i len d z with
            | some z' => some (z', 0, 0)
            | none => none
theorem oneN_ok (f d : Nat) (I : mjI) (z : mjZ) (x : mjZ × Nat × Nat) (h : mj_oneN f d I z = some x) : mj_one f d I z = some x ∧ RW z.2.2.2 x.1.2.2.2 := by
  unfold mj_oneN at h
  unfold mj_one
  split at h
  · cases h
  · next i len hd =>
    rw [hd]
    dsimp only
    split at h
    · cases h
    · next hs =>
      split at h
      · next z' hz =>
        cases h
        rw [hz]
        exact ⟨rfl, ins_rw hz hs⟩
      · next hz =>
        rw [hz]
        dsimp only
        split at h
        · next x' hn =>
          cases h
          rw [hn]
          exact ⟨rfl, new_rw hn⟩
        · next hn =>
          rw [hn]
          dsimp only
          split at h
          · next j J As rest hc =>
            rw [hc]
            dsimp only
            split at h
            · cases h
            · next d' =>
              dsimp only
              split at h
              · next r hp' c s hx =>
                obtain ⟨a1, c1⟩ := exN_ok _ _ _ _ _ _ _ _ hx
                rw [a1]
                dsimp only
                split at h
                · next hw =>
                  cases h
                  rw [hw]
                  exact ⟨rfl, c1⟩
                · cases h
              · cases h
          · next hc =>
            rw [hc]
            dsimp only
            split at h
            · next z' ho =>
              cases h
              rw [ho]
              exact ⟨rfl, obj_rw ho⟩
            · cases h
def mj_goN (f d : Nat) (I : mjI) : Nat → mjZ → Nat → Nat → Option (mjZ × Nat × Nat)
  | 0, z, kc, ks => some (z, kc, ks)
  | n + 1, z, kc, ks => match mj_oneN f d I z with
    | some (z', c, s) => fZ true z' (fun z' => mj_goN f d I n z' (kc + c) (ks + s))
    | none => none
theorem goN_ok (f d : Nat) (I : mjI) (n : Nat) : ∀ (z : mjZ) (kc ks : Nat) (x : mjZ × Nat × Nat), mj_goN f d I n z kc ks = some x → mj_go f d I n z kc ks = some x ∧ RW z.2.2.2 x.1.2.2.2 := by
  induction n with
  | zero => intro z kc ks x h; cases h; exact ⟨rfl, RW.rfl' _⟩
  | succ n ih =>
    intro z kc ks x h
    unfold mj_goN at h
    unfold mj_go
    split at h
    · next z' c s hz =>
      rw [fZ_eq] at h
      obtain ⟨a, g⟩ := ih _ _ _ _ h
      obtain ⟨b, k⟩ := oneN_ok _ _ _ _ _ hz
      rw [b]
      exact ⟨a, RW.tr k g⟩
    · cases h
theorem goN_row {f d : Nat} {I : mjI} {n : Nat} {z : mjZ} {kc ks : Nat} (h : (mj_goN f d I n z kc ks).isSome = true) : RW z.2.2.2 (mjRH (mj_goF f d I n z kc ks)) := by
  obtain ⟨x, hx⟩ := Option.isSome_iff_exists.mp h
  obtain ⟨a, g⟩ := goN_ok _ _ _ _ _ _ _ _ hx
  rw [mj_goF_eq, a]
  exact g
theorem fz_of {o : Option (mjZ × Nat × Nat)} {pc : Nat} {lo : mjLo} {st : List Value} {S : List mjSp} {k s : Nat} (h : mj_ckz o pc lo st S k s = true) : mjFz S (mjRH o) = mjRH o := by
  unfold mj_ckz at h
  split at h
  · next q =>
    simp only [Bool.and_eq_true, decide_eq_true_eq] at h
    obtain ⟨⟨⟨⟨-, g3⟩, g4⟩, -⟩, -⟩ := h
    exact (mjBd_of g3 g4).symm
  · cases h
theorem fu_of {o : mjU} {r : Option Value} {S : List mjSp} (h : mj_cku o r S = true) : mjFz S (mjRU o) = mjRU o := by
  unfold mj_cku at h
  split at h
  · next q =>
    simp only [Bool.and_eq_true, decide_eq_true_eq] at h
    obtain ⟨⟨-, g3⟩, g4⟩ := h
    exact (mjBd_of g3 g4).symm
  · cases h
theorem ckz_N {f d : Nat} {I : mjI} {n : Nat} {z : mjZ} {kc ks pc : Nat} {lo : mjLo} {st : List Value} {S : List mjSp} {k1 s1 : Nat} (h : mj_ckz (mj_goN f d I n z kc ks) pc lo st S k1 s1 = true) : mj_ckz (mj_goF f d I n z kc ks) pc lo st S k1 s1 = true := by
  cases e : mj_goN f d I n z kc ks with
  | none =>
    rw [e] at h
    cases h
  | some x =>
    rw [e] at h
    rw [mj_goF_eq, (goN_ok _ _ _ _ _ _ _ _ e).1]
    exact h
theorem ckz_S {o : Option (mjZ × Nat × Nat)} {pc : Nat} {lo : mjLo} {st : List Value} {S : List mjSp} {k1 s1 : Nat} (h : mj_ckz o pc lo st S k1 s1 = true) : o.isSome = true := by
  cases o with
  | none => cases h
  | some x => rfl
