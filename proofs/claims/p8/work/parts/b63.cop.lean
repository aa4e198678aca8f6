/-! ===== the class's instructions: operators, new, calls, as ===== -/
section MJB63
variable {T : TT} {N wm cm pc k k' n d i o q x kk c m y : Nat} {pf : Nat → Nat → Nat} {L : List CD} {H H' : HEAP} {f g : FRM} {fs gs : List FRM} {st st' : List Int32} {sc : SCL} {s s' : mjSt3} {A : AMS} {v w p a b op : Int32}
theorem i_op (M : CRn T L pf wm cm pc (H, f :: fs, k, b :: a :: st, sc) s) (hl : st.length + 1 < 5120) : ∃ s', mjF (d + 4) 85 [.ref 82, .int (opr op), .int p] (mjW0 s) = some (none, mjW0 s') ∧ oCn s s' ∧ (two2 op a b = none → ∀ pc' k' st', CRn T L pf wm cm pc' (aFail (H, f :: fs, k', st', sc) 2 p) s') ∧ ∀ v, two2 op a b = some v → CRn T L pf wm cm pc (H, f :: fs, k, v :: st, sc) s' := by
  obtain ⟨s1, a1, a2, a3⟩ := x_80 (d := d + 2) M hl
  obtain ⟨s2, c1, c2, c3⟩ := x_80 (d := d + 2) a3 (by omega)
  have fin : ∀ v, two2 op a b = some v → mjF (d + 4) 85 [.ref 82, .int (opr op), .int p] (mjW0 s) = bN (mjF (d + 3) 79 [.ref 82, .int v] (mjW0 s2)) (fun hp => some (none, hp)) → ∃ s', mjF (d + 4) 85 [.ref 82, .int (opr op), .int p] (mjW0 s) = some (none, mjW0 s') ∧ oCn s s' ∧ (two2 op a b = none → ∀ pc' k' st', CRn T L pf wm cm pc' (aFail (H, f :: fs, k', st', sc) 2 p) s') ∧ ∀ v, two2 op a b = some v → CRn T L pf wm cm pc (H, f :: fs, k, v :: st, sc) s' := by
    intro v hv e
    obtain ⟨s3, d1, d2, d3⟩ := x_79 (d := d + 2) c3 (by omega) v
    refine ⟨s3, by rw [e, d1, bN_s], offG.tr a2 (offG.tr c2 d2), fun h => (by rw [hv] at h; cases h), fun u hu => ?_⟩
    have : v = u := Option.some.inj (hv.symm.trans hu)
    rw [← this]
    exact d3
  have fin2 : ∀ v, two2 op a b = some v → mjF (d + 4) 85 [.ref 82, .int (opr op), .int p] (mjW0 s) = bN (bN (mjF (d + 2) 79 [.ref 82, .int v] (mjW0 s2)) (fun hp => some (none, hp))) (fun hp => some (none, hp)) → ∃ s', mjF (d + 4) 85 [.ref 82, .int (opr op), .int p] (mjW0 s) = some (none, mjW0 s') ∧ oCn s s' ∧ (two2 op a b = none → ∀ pc' k' st', CRn T L pf wm cm pc' (aFail (H, f :: fs, k', st', sc) 2 p) s') ∧ ∀ v, two2 op a b = some v → CRn T L pf wm cm pc (H, f :: fs, k, v :: st, sc) s' := by
    intro v hv e
    obtain ⟨s3, d1, d2, d3⟩ := x_79 (d := d + 1) c3 (by omega) v
    refine ⟨s3, by rw [e, d1, bN_s, bN_s], offG.tr a2 (offG.tr c2 d2), fun h => (by rw [hv] at h; cases h), fun u hu => ?_⟩
    have : v = u := Option.some.inj (hv.symm.trans hu)
    rw [← this]
    exact d3
  have fin0 : two2 op a b = none → mjF (d + 4) 85 [.ref 82, .int (opr op), .int p] (mjW0 s) = bN (bN (mjF (d + 2) 82 [.ref 82, .int 2, .int p] (mjW0 s2)) (fun hp => some (none, hp))) (fun hp => some (none, hp)) → ∃ s', mjF (d + 4) 85 [.ref 82, .int (opr op), .int p] (mjW0 s) = some (none, mjW0 s') ∧ oCn s s' ∧ (two2 op a b = none → ∀ pc' k' st', CRn T L pf wm cm pc' (aFail (H, f :: fs, k', st', sc) 2 p) s') ∧ ∀ v, two2 op a b = some v → CRn T L pf wm cm pc (H, f :: fs, k, v :: st, sc) s' := by
    intro hv e
    obtain ⟨s3, d1, d2, d3⟩ := x_82 (d := d) c3 2 p
    exact ⟨s3, by rw [e, d1, bN_s, bN_s], offG.tr a2 (offG.tr c2 d2), fun _ pc' k' st' => CRn.nil (d3 0) pc' k' st', fun u hu => by rw [hv] at hu; cases hu⟩
  have pre : ∀ (z : Int32), mjF (d + 4) 85 [.ref 82, .int z, .int p] (mjW0 s) = (if z = (17 : Int32) then rV (mjW0 s2) 82 5 (bN (mjF (d + 3) 79 [.ref 82, .int (a + b)] (mjW0 s2)) (fun  hp6 => some (none, hp6))) else if z = (18 : Int32) then rV (mjW0 s2) 82 5 (bN (mjF (d + 3) 79 [.ref 82, .int (a - b)] (mjW0 s2)) (fun  hp8 => some (none, hp8))) else if z = (19 : Int32) then rV (mjW0 s2) 82 5 (bN (mjF (d + 3) 79 [.ref 82, .int (a * b)] (mjW0 s2)) (fun  hp10 => some (none, hp10))) else if z = (20 : Int32) then b_85_89 (mjF (d + 3)) 82 z p b a (mjW0 s2) else if z = (21 : Int32) then b_85_89 (mjF (d + 3)) 82 z p b a (mjW0 s2) else if z = (22 : Int32) then (if b ≤ a then b_85_113 (mjF (d + 3)) 82 (0 : Int32) (mjW0 s2) else b_85_113 (mjF (d + 3)) 82 (1 : Int32) (mjW0 s2)) else if z = (23 : Int32) then (if a = b then b_85_131 (mjF (d + 3)) 82 (1 : Int32) (mjW0 s2) else b_85_131 (mjF (d + 3)) 82 (0 : Int32) (mjW0 s2)) else (if a = b then b_85_149 (mjF (d + 3)) 82 (0 : Int32) (mjW0 s2) else b_85_149 (mjF (d + 3)) 82 (1 : Int32) (mjW0 s2))) := by
    intro z
    rw [e_85]
    unfold f_85 b_85_0
    rw [xV_82, a1, bI_s, xV_82, c1, bI_s]
  have n0 : ∀ {x y : Int32}, x = y → op = x → op = y := fun h g => g.trans h
  by_cases h43 : op = 43
  · have eo : opr op = 17 := by rw [h43]; decide
    have et : two2 op a b = some (a + b) := by unfold two2; rw [if_pos h43]
    exact fin _ et (by rw [eo, pre, if_pos rfl, xV_82])
  by_cases h45 : op = 45
  · have eo : opr op = 18 := by rw [h45]; decide
    have et : two2 op a b = some (a - b) := by unfold two2; rw [if_neg h43, if_pos h45]
    exact fin _ et (by rw [eo, pre, if_neg (by decide), if_pos rfl, xV_82])
  by_cases h42 : op = 42
  · have eo : opr op = 19 := by rw [h42]; decide
    have et : two2 op a b = some (a * b) := by unfold two2; rw [if_neg h43, if_neg h45, if_pos h42]
    exact fin _ et (by rw [eo, pre, if_neg (by decide), if_neg (by decide), if_pos rfl, xV_82])
  by_cases h47 : op = 47
  · have eo : opr op = 20 := by rw [h47]; decide
    by_cases b0 : b = 0
    · have et : two2 op a b = none := by unfold two2; rw [if_neg h43, if_neg h45, if_neg h42, if_pos h47, if_pos b0]
      refine fin0 et ?_
      rw [eo, pre, if_neg (by decide), if_neg (by decide), if_neg (by decide), if_pos rfl]
      unfold b_85_89
      rw [xV_82, e_86]
      unfold f_86 b_86_0
      rw [if_pos b0, xV_82]
    · have et : two2 op a b = some (a / b) := by unfold two2; rw [if_neg h43, if_neg h45, if_neg h42, if_pos h47, if_neg b0]
      refine fin2 _ et ?_
      rw [eo, pre, if_neg (by decide), if_neg (by decide), if_neg (by decide), if_pos rfl]
      unfold b_85_89
      rw [xV_82, e_86]
      unfold f_86 b_86_0 b_86_30
      rw [if_neg b0, if_pos rfl, if_neg b0, xV_82]
  by_cases h37 : op = 37
  · have eo : opr op = 21 := by rw [h37]; decide
    by_cases b0 : b = 0
    · have et : two2 op a b = none := by unfold two2; rw [if_neg h43, if_neg h45, if_neg h42, if_neg h47, if_pos h37, if_pos b0]
      refine fin0 et ?_
      rw [eo, pre, if_neg (by decide), if_neg (by decide), if_neg (by decide), if_neg (by decide), if_pos rfl]
      unfold b_85_89
      rw [xV_82, e_86]
      unfold f_86 b_86_0
      rw [if_pos b0, xV_82]
    · have et : two2 op a b = some (a - a / b * b) := by unfold two2; rw [if_neg h43, if_neg h45, if_neg h42, if_neg h47, if_pos h37, if_neg b0]
      refine fin2 _ et ?_
      rw [eo, pre, if_neg (by decide), if_neg (by decide), if_neg (by decide), if_neg (by decide), if_pos rfl]
      unfold b_85_89
      rw [xV_82, e_86]
      unfold f_86 b_86_0 b_86_30
      rw [if_neg b0, if_neg (by decide), if_neg b0, xV_82]
  by_cases h60 : op = 60
  · have eo : opr op = 22 := by rw [h60]; decide
    have et : two2 op a b = some (if b ≤ a then 0 else 1) := by unfold two2; rw [if_neg h43, if_neg h45, if_neg h42, if_neg h47, if_neg h37, if_pos h60]
    refine fin _ et ?_
    rw [eo, pre, if_neg (by decide), if_neg (by decide), if_neg (by decide), if_neg (by decide), if_neg (by decide), if_pos rfl]
    unfold b_85_113
    by_cases h : b ≤ a
    · rw [if_pos h, if_pos h, xV_82]
    · rw [if_neg h, if_neg h, xV_82]
  by_cases h57 : op = 257
  · have eo : opr op = 23 := by rw [h57]; decide
    have et : two2 op a b = some (if a = b then 1 else 0) := by unfold two2; rw [if_neg h43, if_neg h45, if_neg h42, if_neg h47, if_neg h37, if_neg h60, if_pos h57]
    refine fin _ et ?_
    rw [eo, pre, if_neg (by decide), if_neg (by decide), if_neg (by decide), if_neg (by decide), if_neg (by decide), if_neg (by decide), if_pos rfl]
    unfold b_85_131
    by_cases h : a = b
    · rw [if_pos h, if_pos h, xV_82]
    · rw [if_neg h, if_neg h, xV_82]
  · have eo : opr op = 24 := by unfold opr; rw [if_neg h37, if_neg h42, if_neg h43, if_neg h45, if_neg h47, if_neg h60, if_neg h57]
    have et : two2 op a b = some (if a = b then 0 else 1) := by unfold two2; rw [if_neg h43, if_neg h45, if_neg h42, if_neg h47, if_neg h37, if_neg h60, if_neg h57]
    refine fin _ et ?_
    rw [eo, pre, if_neg (by decide), if_neg (by decide), if_neg (by decide), if_neg (by decide), if_neg (by decide), if_neg (by decide), if_neg (by decide)]
    unfold b_85_149
    by_cases h : a = b
    · rw [if_pos h, if_pos h, xV_82]
    · rw [if_neg h, if_neg h, xV_82]
theorem i_new (u : mjU) (e : mjF (d + 5) 91 [.ref 82, .int (nI kk), .int p] (mjW0 s) = u) : mjF (d + 6) 87 [.ref 82, .int 14, .int (nI kk), .int p] (mjW0 s) = bN u (fun hp => some (none, hp)) := by
  rw [e_87]
  unfold f_87 b_87_0
  rw [if_neg (by decide), if_neg (by decide), if_neg (by decide), if_neg (by decide), if_pos rfl, xV_82, e]
theorem i_call (u : mjU) (e : mjF (d + 5) 89 [.ref 82, .int (nI m), .int p] (mjW0 s) = u) : mjF (d + 6) 87 [.ref 82, .int 13, .int (nI m), .int p] (mjW0 s) = bN u (fun hp => some (none, hp)) := by
  rw [e_87]
  unfold f_87 b_87_0
  rw [if_neg (by decide), if_neg (by decide), if_neg (by decide), if_pos rfl, xV_82, e]
theorem i_as (hn : HN T N L) (M : CRn T L pf wm cm pc (H, f :: fs, k, v :: st, sc) s) (C : CPH T L q s) (B : HBs T L H) (hO : HOK T L H) (F : FCL T L H f) (hf : fs.length < 40) (hl : st.length + 1 < 5120) (vk : vK L kk) (hv : v = 0 ∨ ∃ o, v = nI o ∧ 1 ≤ o ∧ o ≤ H.1) : ∃ s', mjF (d + 5) 87 [.ref 82, .int 15, .int (nI kk), .int p] (mjW0 s) = some (none, mjW0 s') ∧ oCn s s' ∧ (asO T L H f.1 f.2.1 v kk = true → CRn T L pf wm cm pc (H, f :: fs, k, v :: st, sc) s') ∧ (¬ asO T L H f.1 f.2.1 v kk = true → ∀ pc' k' st', CRn T L pf wm cm pc' (aFail (H, f :: fs, k', st', sc) 3 p) s') := by
  have x90 : mjF (d + 4) 90 [.ref 82, .int 0] (mjW0 s) = some (some (.int v), mjW0 s) := x_90 (d := d + 3) (i := 0) M (by rw [List.length_cons]; exact hl) (by rw [List.length_cons]; omega)
  have pre : mjF (d + 5) 87 [.ref 82, .int 15, .int (nI kk), .int p] (mjW0 s) = (if asO T L H f.1 f.2.1 v kk = true then some (none, mjW0 s) else bN (mjF (d + 4) 82 [.ref 82, .int 3, .int p] (mjW0 s)) (fun hp => some (none, hp))) := by
    rw [e_87]
    unfold f_87 b_87_0
    rw [if_neg (by decide), if_neg (by decide), if_neg (by decide), if_neg (by decide), if_neg (by decide), if_pos rfl, xV_82, x90, bI_s, xV_82, x_94 hn M C B hO F hf vk hv, bI_s, b2_i, xV_82]
  rw [pre]
  by_cases h : asO T L H f.1 f.2.1 v kk = true
  · exact ⟨s, by rw [if_pos h], offG.rf, fun _ => M, fun g => absurd h g⟩
  · obtain ⟨s', a1, a2, a3⟩ := x_82 (d := d + 2) M 3 p
    exact ⟨s', by rw [if_neg h, a1, bN_s], a2, fun g => absurd g h, fun _ pc' k' st' => CRn.nil (a3 0) pc' k' st'⟩
end MJB63
