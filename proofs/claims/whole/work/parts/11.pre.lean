/-! ===== the law up to its loop ===== -/
def lawP : Option Value → mjH → Prop := fun r _ => r = some (.int 1)
theorem lw_a : mj_go 0 2000 lawI 2 (0, [some (.ref 1000020), none, none, none], [], []) 0 0 = some ((4, [some (.ref 1000020), none, none, none], [.ref 0, .ref 0], hX_0), 1, 14) := by eq_refl
theorem lw_b : mj_call lawI (.invokespecial 9) 3 [.ref 0, .ref 0] hX_0 = some (201, jXi, [.ref 0], [.ref 0]) := by eq_refl
theorem lw_bd : decode lawI.2.2.1 4 = .ok (.invokespecial 9, 3) := by decide +kernel
theorem lw_c : (fun fw => mj_go 0 2000 lawI 3 (7, [some (.ref 1000020), none, none, none], [.ref 0], hX_9 fw) 97 65511) = (fun fw => some ((12, [some (.ref 1000020), some (.ref 0), none, none], [.ref 97, .ref 97], hM_0 fw), 98, 65648)) := by eq_refl
theorem lw_d : (fun fw => mj_call lawI (.invokespecial 12) 3 [.ref 97, .ref 97] (hM_0 fw)) = (fun fw => some (225, jMi, [.ref 97], [.ref 97])) := by eq_refl
theorem lw_dd : decode lawI.2.2.1 12 = .ok (.invokespecial 12, 3) := by decide +kernel
theorem lw_e : (fun fw fk => mj_go 0 2000 lawI 3 (15, [some (.ref 1000020), some (.ref 0), none, none], [.ref 97], hF fw fk) 188 215130) = (fun fw fk => some ((18, [some (.ref 1000020), some (.ref 0), some (.ref 97), some (.int 0)], [], hF fw fk), 188, 215130)) := by eq_refl
theorem law_pre {L : Nat} {xs : Nat → Int32} (hk : ∀ fw fk : Nat → Int64, mjG (mjXs L xs) 2000 600000 7302250 lawI lawP 18 [some (.ref 1000020), some (.ref 0), some (.ref 97), some (.int 0)] [] (hF fw fk) 188 215130) : mjG (mjXs L xs) 2000 600000 7302250 lawI lawP 0 [some (.ref 1000020), none, none, none] [] [] 0 0 := by
  refine (mj_go_ok (f := 0) 2 (z := (0, [some (.ref 1000020), none, none, none], [], [])) lw_a).2.2 (by decide) (by decide) ?_
  obtain ⟨fw, hX⟩ := cX_init
  refine mj_call_ok (z := (4, [some (.ref 1000020), none, none, none], [.ref 0, .ref 0], hX_0)) (C' := 96) (S' := 65497) lw_bd lw_b (show 20 + 1 ≤ 2000 by decide) (by decide) (by decide) (Or.inr (by rfl)) (fun _ _ => hX) ?_
  rintro r hp ⟨rfl, rfl⟩ -
  refine (mj_go_ok (f := 0) 3 (z := (7, [some (.ref 1000020), none, none, none], [.ref 0], hX_9 fw)) (congrFun lw_c fw)).2.2 (by decide) (by decide) ?_
  refine mj_call_ok (z := (12, [some (.ref 1000020), some (.ref 0), none, none], [.ref 97, .ref 97], hM_0 fw)) (C' := 90) (S' := 149482) lw_dd (congrFun lw_d fw) (show 20 + 1 ≤ 2000 by decide) (by decide) (by decide) (Or.inr (by rfl)) (fun _ _ => cM_init fw) ?_
  rintro r hp ⟨rfl, fk, rfl⟩ -
  exact (mj_go_ok (f := 0) 3 (z := (15, [some (.ref 1000020), some (.ref 0), none, none], [.ref 97], hF fw fk)) (congrFun (congrFun lw_e fw) fk)).2.2 (by decide) (by decide) (hk fw fk)
