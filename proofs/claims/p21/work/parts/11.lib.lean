/-! ===== Arrays.fill(int[], int) ===== -/
def jFill : mjI := (⟨"java/util/Arrays", "fill", "([II)V"⟩, 20, prog_21_method_103_code, 4, none, 2, true)
theorem jFill_at : mjMt 377 = some jFill := by rfl
theorem dFill_0 : decode jFill.2.2.1 0 = .ok (.iconst 0, 1) := by decide +kernel
theorem dFill_1 : decode jFill.2.2.1 1 = .ok (.istore_n 2, 1) := by decide +kernel
theorem dFill_2 : decode jFill.2.2.1 2 = .ok (.aload_n 0, 1) := by decide +kernel
theorem dFill_3 : decode jFill.2.2.1 3 = .ok (.arraylength, 1) := by decide +kernel
theorem dFill_4 : decode jFill.2.2.1 4 = .ok (.istore_n 3, 1) := by decide +kernel
theorem dFill_5 : decode jFill.2.2.1 5 = .ok (.iload_n 2, 1) := by decide +kernel
theorem dFill_6 : decode jFill.2.2.1 6 = .ok (.iload_n 3, 1) := by decide +kernel
theorem dFill_7 : decode jFill.2.2.1 7 = .ok (.if_icmp .ge 13, 3) := by decide +kernel
theorem dFill_10 : decode jFill.2.2.1 10 = .ok (.aload_n 0, 1) := by decide +kernel
theorem dFill_11 : decode jFill.2.2.1 11 = .ok (.iload_n 2, 1) := by decide +kernel
theorem dFill_12 : decode jFill.2.2.1 12 = .ok (.iload_n 1, 1) := by decide +kernel
theorem dFill_13 : decode jFill.2.2.1 13 = .ok (.iastore, 1) := by decide +kernel
theorem dFill_14 : decode jFill.2.2.1 14 = .ok (.iinc 2 1, 3) := by decide +kernel
theorem dFill_17 : decode jFill.2.2.1 17 = .ok (.goto (-12), 3) := by decide +kernel
theorem dFill_20 : decode jFill.2.2.1 20 = .ok (.return_, 1) := by decide +kernel
def fillF (f : Nat → Int32) (a b : Nat) (v : Int32) : Nat → Int32 := fun j => if a ≤ j ∧ j < b then v else f j
theorem fillF_nil (f : Nat → Int32) (n : Nat) (v : Int32) : fillF f n n v = f := by
  funext j
  exact if_neg (by omega)
theorem fillF_step (f : Nat → Int32) (i n : Nat) (v : Int32) (h : i < n) : fillF (upd f i v) (i + 1) n v = fillF f i n v := by
  funext j
  unfold fillF upd
  by_cases hj : j = i
  · subst hj
    rw [if_neg (by omega), if_pos rfl, if_pos (by omega)]
  · rw [if_neg hj]
    by_cases h2 : i + 1 ≤ j ∧ j < n
    · rw [if_pos h2, if_pos (by omega)]
    · rw [if_neg h2, if_neg (by omega)]
theorem set_same {α : Type} {l : List α} {h : Nat} {x : α} (hx : l[h]? = some x) : l.set h x = l := by
  apply List.ext_getElem?
  intro i
  by_cases hi : i = h
  · subst hi
    rw [List.getElem?_set_self (List.getElem?_eq_some_iff.mp hx).1, hx]
  · rw [List.getElem?_set_ne (Ne.symm hi)]
theorem fill_loop {X : mjX} {d C S : Nat} {Post : Option Value → mjH → Prop} {kc ks : Nat} (h n : Nat) (v : Int32) (hn : n < 2 ^ 31) (h1 : kc ≤ C) (h2 : ks ≤ S) : ∀ (k i : Nat) (f : Nat → Int32) (hp : mjH), i + k = n → hp[h]? = some (.inl (0, n, .inl f)) → Post none (hp.set h (.inl (0, n, .inl (fillF f i n v)))) → mjG X d C S jFill Post 5 [some (.ref h), some (.int v), some (.int (nI i)), some (.int (nI n))] [] hp kc ks := by
  intro k
  induction k with
  | zero =>
    intro i f hp hi hx hq
    have hin : i = n := by omega
    subst hin
    rw [fillF_nil, set_same hx] at hq
    refine mjr_iload_n dFill_5 (x := nI i) rfl ?_
    refine mjr_iload_n dFill_6 (x := nI i) rfl ?_
    refine mjr_icmp_ge (tgt := 20) dFill_7 (by decide) (fun _ => ?_) (fun c => absurd (nI_le (Nat.le_refl i) hn) c)
    exact mjr_return dFill_20 rfl h1 h2 hq
  | succ k ih =>
    intro i f hp hi hx hq
    have hlt : i < n := by omega
    refine mjr_iload_n dFill_5 (x := nI i) rfl ?_
    refine mjr_iload_n dFill_6 (x := nI n) rfl ?_
    refine mjr_icmp_ge (tgt := 20) dFill_7 (by decide) (fun c => absurd c (nI_ge hlt hn)) (fun _ => ?_)
    refine mjr_aload_n dFill_10 (x := h) rfl ?_
    refine mjr_iload_n dFill_11 (x := nI i) rfl ?_
    refine mjr_iload_n dFill_12 (x := v) rfl ?_
    refine mjr_iastore dFill_13 hx (vp_in_nI hlt hn) ?_
    refine mjr_iinc dFill_14 (x := nI i) rfl (by decide) ?_
    refine mjr_goto (tgt := 5) dFill_17 (by decide) ?_
    have e : nI i + Int32.ofInt 1 = nI (i + 1) := (nI_succ i).symm
    rw [nI_clamp (by omega), e]
    refine ih (i + 1) (upd f i v) _ (by omega) (by rw [List.getElem?_set_self (List.getElem?_eq_some_iff.mp hx).1]) ?_
    rw [List.set_set, fillF_step f i n v hlt]
    exact hq
theorem c_fill {d : Nat} {h n : Nat} {v : Int32} {f : Nat → Int32} {hp : mjH} (hn : n < 2 ^ 31) (hx : hp[h]? = some (.inl (0, n, .inl f))) : mjM d 0 0 377 [.ref h, .int v] hp (fun r hp' => r = none ∧ hp' = hp.set h (.inl (0, n, .inl (fillF f 0 n v)))) := by
  refine mjM_of jFill_at (Nat.le_of_ble_eq_true rfl) ?_
  refine mjr_iconst dFill_0 ?_
  refine mjr_istore_n dFill_1 (by decide) ?_
  refine mjr_aload_n dFill_2 (x := h) rfl ?_
  refine mjr_arraylength dFill_3 hx (by decide) ?_
  refine mjr_istore_n dFill_4 (by decide) ?_
  exact fill_loop h n v hn (Nat.le_refl _) (Nat.le_refl _) n 0 f hp (by omega) hx ⟨rfl, rfl⟩
