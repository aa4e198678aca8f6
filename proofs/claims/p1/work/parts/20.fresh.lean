/-! ===== one call on the fresh pair ===== -/
theorem bI_some {v : Int32} {hp : mjH} {k : Int32 → mjH → mjU} : bI (some (some (.int v), hp)) k = k v hp := rfl
theorem bN_some {hp : mjH} {k : mjH → mjU} : bN (some (none, hp)) k = k hp := rfl
theorem st_eq (a : Int32) : (if a = 0 then (0 : Int32) else if a = 1 then 0 else if a = 2 then 0 else if a = 3 then -1 else if a = 4 then 0 else if a = 5 then 0 else if a = 6 then 0 else if a = 7 then 0 else if a = 8 then 0 else if a = 9 then 0 else -1) = if a < 0 then -1 else if a ≤ 9 then (if a = 3 then -1 else 0) else -1 := by
  by_cases h : a < 0
  · rw [if_pos h]
    have hn : ∀ c : Int32, ¬ c < 0 → ¬ a = c := fun c hc e => hc (e ▸ h)
    rw [if_neg (hn 0 (by decide)), if_neg (hn 1 (by decide)), if_neg (hn 2 (by decide)), if_neg (hn 3 (by decide)), if_neg (hn 4 (by decide)), if_neg (hn 5 (by decide)), if_neg (hn 6 (by decide)), if_neg (hn 7 (by decide)), if_neg (hn 8 (by decide)), if_neg (hn 9 (by decide))]
  · rw [if_neg h]
    by_cases h2 : a ≤ 9
    · rw [if_pos h2]
      have a0 : 0 ≤ a.toInt := by have := Int32.le_iff_toInt_le.mp (Int32.not_lt.mp h); simpa using this
      have a9 : a.toInt ≤ 9 := by have := Int32.le_iff_toInt_le.mp h2; simpa using this
      have hc : a.toInt = 0 ∨ a.toInt = 1 ∨ a.toInt = 2 ∨ a.toInt = 3 ∨ a.toInt = 4 ∨ a.toInt = 5 ∨ a.toInt = 6 ∨ a.toInt = 7 ∨ a.toInt = 8 ∨ a.toInt = 9 := by omega
      have key : ∀ c : Int32, a.toInt = c.toInt → a = c := fun c e => Int32.toInt_inj.mp e
      rcases hc with e | e | e | e | e | e | e | e | e | e
      · rw [key 0 e]; decide
      · rw [key 1 e]; decide
      · rw [key 2 e]; decide
      · rw [key 3 e]; decide
      · rw [key 4 e]; decide
      · rw [key 5 e]; decide
      · rw [key 6 e]; decide
      · rw [key 7 e]; decide
      · rw [key 8 e]; decide
      · rw [key 9 e]; decide
    · rw [if_neg h2]
      have hn : ∀ c : Int32, c ≤ 9 → ¬ a = c := fun c hc e => h2 (e ▸ hc)
      rw [if_neg (hn 0 (by decide)), if_neg (hn 1 (by decide)), if_neg (hn 2 (by decide)), if_neg (hn 3 (by decide)), if_neg (hn 4 (by decide)), if_neg (hn 5 (by decide)), if_neg (hn 6 (by decide)), if_neg (hn 7 (by decide)), if_neg (hn 8 (by decide)), if_neg (hn 9 (by decide))]
theorem v_0_1 : s_0.1 0 1 = 0 := by rfl
theorem v_0_8 : s_0.1 0 8 = 0 := by rfl
theorem v_0_9 : s_0.1 0 9 = -1 := by rfl
theorem v_0_10 : s_0.1 0 10 = -1 := by rfl
theorem v_79_2 : s_0.1 79 2 = 0 := by rfl
theorem v_79_3 : s_0.1 79 3 = 0 := by rfl
theorem v_82_8 : s_0.1 82 8 = 0 := by rfl
theorem v_82_9 : s_0.1 82 9 = 0 := by rfl
theorem v_82_10 : s_0.1 82 10 = 0 := by rfl
theorem v_82_11 : s_0.1 82 11 = -1 := by rfl
theorem v_82_12 : s_0.1 82 12 = 0 := by rfl
theorem v_82_13 : s_0.1 82 13 = 0 := by rfl
theorem v_83_0 : s_0.1 83 0 = 0 := by rfl
theorem v_83_1 : s_0.1 83 1 = 0 := by rfl
theorem v_97_1 : s_0.1 97 1 = 0 := by rfl
theorem v_97_10 : s_0.1 97 10 = 0 := by rfl
theorem v_97_59 : s_0.1 97 59 = -1 := by rfl
theorem v_97_60 : s_0.1 97 60 = -1 := by rfl
theorem v_97_96 : s_0.1 97 96 = 0 := by rfl
theorem cx_206 {d : Nat} (a : Int32) : mjF (d + 2) 206 [.ref 0, .int a] (mjW0 s_0) = some (some (.int (-1)), mjW0 s_0) := by
  rw [e_206]
  unfold f_206
  unfold b_206_0
  simp only [xg_0_9, xg_0_10, v_0_9, v_0_10, ite_self]

theorem cx_207 {d : Nat} (a : Int32) (b : Int32) : mjF (d + 2) 207 [.ref 0, .int a, .int b] (mjW0 s_0) = some (some (.int (-1)), mjW0 s_0) := by
  rw [e_207]
  unfold f_207
  unfold b_207_0
  rw [xg_0_8, v_0_8, if_pos rfl]
  rfl
theorem cx_208 {d : Nat} (a : Int32) (b : Int32) (c : Int32) : mjF (d + 2) 208 [.ref 0, .int a, .int b, .int c] (mjW0 s_0) = some (some (.int (0)), mjW0 s_0) := by
  rw [e_208]
  unfold f_208
  unfold b_208_0
  rw [xg_0_8, v_0_8, if_pos rfl]
  rfl
theorem cx_210 {d : Nat} (a : Int32) (b : Int32) : mjF (d + 2) 210 [.ref 0, .int a, .int b] (mjW0 s_0) = some (some (.int (0)), mjW0 s_0) := by
  rw [e_210]
  unfold f_210
  unfold b_210_0
  rw [xg_0_8, v_0_8, if_pos rfl]
  rfl
theorem cx_211 {d : Nat} (a : Int32) : mjF (d + 2) 211 [.ref 0, .int a] (mjW0 s_0) = some (some (.int (-1)), mjW0 s_0) := by
  rw [e_211]
  unfold f_211
  unfold b_211_0
  simp only [xg_0_12, xg_82_8, v_82_8, if_neg (show ¬ (0 : Int32) = 1 by decide), b_211_23, ite_self]
theorem cx_212 {d : Nat} (a : Int32) : mjF (d + 2) 212 [.ref 0, .int a] (mjW0 s_0) = some (some (.int (if a = 0 then 0 else if a = 1 then 0 else if a = 2 then 0 else if a = 3 then -1 else if a = 4 then 0 else if a = 5 then 0 else if a = 6 then 0 else if a = 7 then 0 else if a = 8 then 0 else if a = 9 then 0 else -1)), mjW0 s_0) := by
  rw [e_212]
  unfold f_212
  unfold b_212_0
  simp only [xg_0_12, xg_0_11, xg_82_8, xg_82_9, xg_82_10, xg_82_11, xg_82_12, xg_82_13, xg_82_1, xg_79_2, xg_79_3, xg_83_0, xg_83_1, v_82_8, v_82_9, v_82_10, v_82_11, v_82_12, v_82_13, v_79_2, v_79_3, v_83_0, v_83_1]
  repeat' split
  all_goals rfl
theorem i_tri (a : Int32) : a < 0 ∨ 0 ≤ a := by
  by_cases h : a < 0
  · exact Or.inl h
  · exact Or.inr (Int32.not_lt.mp h)
theorem cx_213 {d : Nat} (a : Int32) : mjF (d + 2) 213 [.ref 0, .int a] (mjW0 s_0) = some (some (.int (0)), mjW0 s_0) := by
  rw [e_213]
  unfold f_213
  unfold b_213_0
  by_cases h : a < 0
  · rw [if_pos h]; rfl
  · rw [if_neg h, xg_0_12, xg_82_13, v_82_13, if_pos (Int32.not_lt.mp h)]
    simp only [b_213_34, ite_self]
theorem cx_214 {d : Nat} (a b : Int32) : mjF (d + 2) 214 [.ref 0, .int a, .int b] (mjW0 s_0) = some (some (.int (-1)), mjW0 s_0) := by
  rw [e_214]
  unfold f_214
  unfold b_214_0
  rw [xg_0_12, xg_82_1]
  by_cases h : a < 0
  · rw [if_pos h]; rfl
  · rw [if_neg h, xg_83_0, v_83_0, if_neg h]; rfl
theorem cx_215 {d : Nat} (a b : Int32) : mjF (d + 2) 215 [.ref 0, .int a, .int b] (mjW0 s_0) = some (some (.int (0)), mjW0 s_0) := by
  rw [e_215]
  unfold f_215
  unfold b_215_0
  rw [xg_0_12, xg_82_1]
  by_cases h : a < 0
  · rw [if_pos h]; rfl
  · rw [if_neg h, xg_83_0, v_83_0, if_neg h]; rfl
theorem cx_43 {d : Nat} (a : Int32) : mjF (d + 1) 43 [.ref 79, .int a] (mjW0 s_0) = some (some (.int 0), mjW0 s_0) := by
  rw [e_43]
  unfold f_43
  unfold b_43_0
  by_cases h : a ≤ 0
  · rw [if_pos h]; rfl
  · rw [if_neg h, xg_79_2, v_79_2, if_pos (Int32.not_le.mp h)]; rfl
theorem cx_216 {d : Nat} (a b : Int32) : mjF (d + 2) 216 [.ref 0, .int a, .int b] (mjW0 s_0) = some (some (.int (-1)), mjW0 s_0) := by
  rw [e_216]
  unfold f_216
  unfold b_216_0
  rw [xg_0_11, xV_79, cx_43, bI_some, if_pos rfl]
theorem cx_217 {d : Nat} (a b : Int32) : mjF (d + 2) 217 [.ref 0, .int a, .int b] (mjW0 s_0) = some (some (.int (-1)), mjW0 s_0) := by
  rw [e_217]
  unfold f_217
  unfold b_217_0
  rw [xg_0_11, xV_79, cx_43, bI_some, if_pos rfl]; unfold b_217_31 b_217_32; rw [if_pos rfl]
theorem cx_218 {d : Nat} (a b : Int32) : mjF (d + 2) 218 [.ref 0, .int a, .int b] (mjW0 s_0) = some (some (.int (0)), mjW0 s_0) := by
  rw [e_218]
  unfold f_218
  unfold b_218_0
  rw [xg_0_11, xV_79, cx_43, bI_some, if_pos rfl]; unfold b_218_39 b_218_40; rw [if_pos rfl]
theorem cx_219 {d : Nat} (a b : Int32) : mjF (d + 2) 219 [.ref 0, .int a, .int b] (mjW0 s_0) = some (some (.int (0)), mjW0 s_0) := by
  rw [e_219]
  unfold f_219
  unfold b_219_0
  rw [xg_0_11, xV_79, cx_43, bI_some, if_pos rfl]; rfl
theorem cx_220 {d : Nat} (a b : Int32) : mjF (d + 2) 220 [.ref 0, .int a, .int b] (mjW0 s_0) = some (some (.int (-1)), mjW0 s_0) := by
  rw [e_220]
  unfold f_220
  unfold b_220_0
  rw [xg_0_11, xV_79, cx_43, bI_some, if_pos rfl]; rfl
theorem cx_221 {d : Nat} (a : Int32) : mjF (d + 2) 221 [.ref 0, .int a] (mjW0 s_0) = some (some (.int (-1)), mjW0 s_0) := by
  rw [e_221]
  unfold f_221
  unfold b_221_0
  rw [xg_0_11, xV_79, cx_43, bI_some, if_pos rfl]
theorem cx_224 {d : Nat} (a b : Int32) : mjF (d + 2) 224 [.ref 0, .int a, .int b] (mjW0 s_0) = some (some (.int (-1)), mjW0 s_0) := by
  rw [e_224]
  unfold f_224
  unfold b_224_0
  rw [xg_0_11, xV_79, cx_43, bI_some, if_pos rfl]
theorem mx_336 {d : Nat} {s : mjSt3} (h9 : s.1 97 = s_0.1 97) (a : Int32) : mjF (d + 2) 336 [.ref 97, .int a] (mjW0 s) = some (some (.int (-1)), mjW0 s) := by
  rw [e_336]
  unfold f_336
  unfold b_336_0
  simp only [xg_97_59, xg_97_60, h9, v_97_59, v_97_60, ite_self]
theorem mx_338 {d : Nat} {s : mjSt3} (h9 : s.1 97 = s_0.1 97) (a : Int32) : mjF (d + 1) 338 [.ref 97, .int a] (mjW0 s) = some (some (.int (0)), mjW0 s) := by
  rw [e_338]
  unfold f_338
  unfold b_338_0
  rw [xg_97_10, h9, v_97_10, if_pos rfl]; rfl
theorem mx_344 {d : Nat} {s : mjSt3} (h9 : s.1 97 = s_0.1 97) (a : Int32) : mjF (d + 1) 344 [.ref 97, .int a] (mjW0 s) = some (some (.int (0)), mjW0 s) := by
  rw [e_344]
  unfold f_344
  unfold b_344_0
  rw [xg_97_96, h9, v_97_96, if_neg (by decide)]; rfl
theorem mx_246 {d : Nat} {s : mjSt3} (h9 : s.1 97 = s_0.1 97) (a : Int32) : mjF (d + 1) 246 [.ref 97, .int a] (mjW0 s) = some (some (.int (0)), mjW0 s) := by
  rw [e_246]
  unfold f_246
  unfold b_246_0
  rw [xg_97_96, h9, v_97_96, if_pos (by decide)]; rfl
theorem mx_337 {d : Nat} {s : mjSt3} (h9 : s.1 97 = s_0.1 97) (a b : Int32) : mjF (d + 2) 337 [.ref 97, .int a, .int b] (mjW0 s) = some (some (.int (-1)), mjW0 s) := by
  rw [e_337]
  unfold f_337
  unfold b_337_0
  rw [xV_97, mx_338 h9, bI_some, if_pos rfl]
theorem mx_339 {d : Nat} {s : mjSt3} (h9 : s.1 97 = s_0.1 97) (a b c : Int32) : mjF (d + 2) 339 [.ref 97, .int a, .int b, .int c] (mjW0 s) = some (some (.int (0)), mjW0 s) := by
  rw [e_339]
  unfold f_339
  unfold b_339_0
  rw [xV_97, mx_338 h9, bI_some, if_pos rfl]
theorem mx_340 {d : Nat} {s : mjSt3} (h9 : s.1 97 = s_0.1 97) (a b : Int32) : mjF (d + 2) 340 [.ref 97, .int a, .int b] (mjW0 s) = some (some (.int (0)), mjW0 s) := by
  rw [e_340]
  unfold f_340
  unfold b_340_0
  rw [xg_97_10, h9, v_97_10, if_pos rfl]; rfl
theorem mx_229 {d : Nat} {s : mjSt3} (h9 : s.1 97 = s_0.1 97) (a : Int32) : mjF (d + 2) 229 [.ref 97, .int a] (mjW0 s) = some (some (.int (-1)), mjW0 s) := by
  rw [e_229]
  unfold f_229
  unfold b_229_0
  rw [xg_97_96, h9, v_97_96, if_neg (by decide)]; rfl
theorem mx_341 {d : Nat} {s : mjSt3} (h9 : s.1 97 = s_0.1 97) (a : Int32) : mjF (d + 2) 341 [.ref 97, .int a] (mjW0 s) = some (some (.int (if a < 0 then -1 else if a ≤ 9 then (if a = 3 then -1 else 0) else -1)), mjW0 s) := by
  rw [e_341]
  unfold f_341
  unfold b_341_0
  rw [xg_97_96, h9, v_97_96, if_pos rfl]
  unfold b_341_10
  repeat' split
  all_goals rfl
theorem mx_342 {d : Nat} {s : mjSt3} (h9 : s.1 97 = s_0.1 97) (a : Int32) : mjF (d + 2) 342 [.ref 97, .int a] (mjW0 s) = some (some (.int (0)), mjW0 s) := by
  rw [e_342]
  unfold f_342
  unfold b_342_0
  rw [xg_97_96, h9, v_97_96, if_pos rfl]; rfl
theorem mx_343 {d : Nat} {s : mjSt3} (h9 : s.1 97 = s_0.1 97) (a b : Int32) : mjF (d + 2) 343 [.ref 97, .int a, .int b] (mjW0 s) = some (some (.int (-1)), mjW0 s) := by
  rw [e_343]
  unfold f_343
  unfold b_343_0
  rw [xV_97, mx_344 h9, bI_some, if_pos rfl]
theorem mx_345 {d : Nat} {s : mjSt3} (h9 : s.1 97 = s_0.1 97) (a b : Int32) : mjF (d + 2) 345 [.ref 97, .int a, .int b] (mjW0 s) = some (some (.int (0)), mjW0 s) := by
  rw [e_345]
  unfold f_345
  unfold b_345_0
  rw [xV_97, mx_344 h9, bI_some, if_pos rfl]; rfl
theorem mx_346 {d : Nat} {s : mjSt3} (h9 : s.1 97 = s_0.1 97) (a b : Int32) : mjF (d + 2) 346 [.ref 97, .int a, .int b] (mjW0 s) = some (some (.int (-1)), mjW0 s) := by
  rw [e_346]
  unfold f_346
  unfold b_346_0
  rw [xV_97, mx_246 h9, bI_some, if_pos rfl]
theorem mx_348 {d : Nat} {s : mjSt3} (h9 : s.1 97 = s_0.1 97) (a b : Int32) : mjF (d + 2) 348 [.ref 97, .int a, .int b] (mjW0 s) = some (some (.int (-1)), mjW0 s) := by
  rw [e_348]
  unfold f_348
  unfold b_348_0
  rw [xV_97, mx_246 h9, bI_some, if_pos rfl]; rfl
theorem mx_349 {d : Nat} {s : mjSt3} (h9 : s.1 97 = s_0.1 97) (a b : Int32) : mjF (d + 2) 349 [.ref 97, .int a, .int b] (mjW0 s) = some (some (.int (0)), mjW0 s) := by
  rw [e_349]
  unfold f_349
  unfold b_349_0
  rw [xV_97, mx_246 h9, bI_some, if_pos rfl]; rfl
theorem mx_350 {d : Nat} {s : mjSt3} (h9 : s.1 97 = s_0.1 97) (a b : Int32) : mjF (d + 2) 350 [.ref 97, .int a, .int b] (mjW0 s) = some (some (.int (0)), mjW0 s) := by
  rw [e_350]
  unfold f_350
  unfold b_350_0
  rw [xV_97, mx_246 h9, bI_some, if_pos rfl]; rfl
theorem mx_245 {d : Nat} {s : mjSt3} (h9 : s.1 97 = s_0.1 97) (a b : Int32) : mjF (d + 2) 245 [.ref 97, .int a, .int b] (mjW0 s) = some (some (.int (-1)), mjW0 s) := by
  rw [e_245]
  unfold f_245
  unfold b_245_0
  rw [xV_97, mx_246 h9, bI_some, if_pos rfl]; rfl
theorem mx_257 {d : Nat} {s : mjSt3} (h9 : s.1 97 = s_0.1 97) (a : Int32) : mjF (d + 2) 257 [.ref 97, .int a] (mjW0 s) = some (some (.int (-1)), mjW0 s) := by
  rw [e_257]
  unfold f_257
  unfold b_257_0
  rw [xV_97, mx_246 h9, bI_some, if_pos rfl]
theorem mx_256 {d : Nat} {s : mjSt3} (h9 : s.1 97 = s_0.1 97) (a b : Int32) : mjF (d + 2) 256 [.ref 97, .int a, .int b] (mjW0 s) = some (some (.int (-1)), mjW0 s) := by
  rw [e_256]
  unfold f_256
  unfold b_256_0
  rw [xV_97, mx_246 h9, bI_some, if_pos rfl]; rfl
theorem mx_255 {d : Nat} {s : mjSt3} (h9 : s.1 97 = s_0.1 97) (a : Int32) : mjF (d + 2) 255 [.ref 97, .int a] (mjW0 s) = some (some (.int (-1)), mjW0 s) := by
  rw [e_255]
  unfold f_255
  unfold b_255_0
  rw [xg_97_96, h9, v_97_96, if_pos rfl]; rfl
theorem mx_251 {d : Nat} {s : mjSt3} (h9 : s.1 97 = s_0.1 97)  : mjF (d + 2) 251 [.ref 97] (mjW0 s) = some (some (.int (0)), mjW0 s) := by
  rw [e_251]
  unfold f_251
  unfold b_251_0
  rw [xg_97_96, h9, v_97_96, if_pos rfl]
/-! feed -/
theorem L203_S (R : mjR) (n : Nat) (a : Nat) (b c : Int32) (hp : mjH) : L_203_3 R (n + 1) a b c hp = b_203_3 R (L_203_3 R n) a b c hp := rfl
theorem L259_S (R : mjR) (n : Nat) (a : Nat) (b c : Int32) (hp : mjH) : L_259_2 R (n + 1) a b c hp = b_259_2 R (L_259_2 R n) a b c hp := rfl
theorem r_203 {R : mjR} {n : Nat} {s : mjSt3} {v sh t : Int32} (ht : s.1 0 1 = t) (h1 : ¬ sh < 0) (h2 : ¬ (3000 : Int32) ≤ t) (h3 : mj_in t 3000 = true) : ∃ s', L_203_3 R (n + 1) 0 v sh (mjW0 s) = L_203_3 R n 0 v (sh + (-8)) (mjW0 s') ∧ s'.1 0 1 = t + 1 ∧ s'.1 97 = s.1 97 := by
  rw [L203_S]
  unfold b_203_3
  rw [if_neg h1, xg_0_1, ht, if_neg h2, xg_0_0, xg_0_1, ht, xs_1, if_pos h3, xg_0_1, uI_ne _ _ _ _ (by decide), ht, xp_0_1]
  exact ⟨_, rfl, by rw [uI_same]; exact if_pos rfl, by rw [uI_ne _ _ _ _ (by decide), uI_ne _ _ _ _ (by decide)]⟩
theorem r_259 {R : mjR} {n : Nat} {s : mjSt3} {v sh t : Int32} (ht : s.1 97 1 = t) (h1 : ¬ sh < 0) (h3 : mj_in t 3000 = true) : ∃ s', L_259_2 R (n + 1) 97 v sh (mjW0 s) = L_259_2 R n 97 v (sh + (-1)) (mjW0 s') ∧ s'.1 97 1 = t + 1 := by
  rw [L259_S]
  unfold b_259_2
  rw [if_neg h1, xg_97_0, xg_97_1, ht, xs_98, if_pos h3, xg_97_1, uI_ne _ _ _ _ (by decide), ht, xp_97_1]
  exact ⟨_, rfl, by rw [uI_same]; exact if_pos rfl⟩
theorem q_203 {d : Nat} {s : mjSt3} {v t : Int32} (ht : s.1 0 1 = t) (hb : (decide (¬ (3000 : Int32) ≤ t) && decide (¬ (3000 : Int32) ≤ t + 1) && decide (¬ (3000 : Int32) ≤ t + 1 + 1) && decide (¬ (3000 : Int32) ≤ t + 1 + 1 + 1) && mj_in t 3000 && mj_in (t + 1) 3000 && mj_in (t + 1 + 1) 3000 && mj_in (t + 1 + 1 + 1) 3000) = true) : ∃ s', mjF (d + 1) 203 [.ref 0, .int v] (mjW0 s) = some (none, mjW0 s') ∧ s'.1 0 1 = t + 1 + 1 + 1 + 1 ∧ s'.1 97 = s.1 97 := by
  simp only [Bool.and_eq_true, decide_eq_true_eq] at hb
  obtain ⟨⟨⟨⟨⟨⟨⟨a0, a1⟩, a2⟩, a3⟩, b0⟩, b1⟩, b2⟩, b3⟩ := hb
  rw [e_203]
  unfold f_203
  unfold b_203_0
  rw [show mjN = 99999995 + 1 + 1 + 1 + 1 + 1 from rfl]
  obtain ⟨s1, e1, t1, m1⟩ := r_203 (R := mjF d) (n := 99999995 + 1 + 1 + 1 + 1) (v := v) (sh := 24) ht (by decide) a0 b0
  obtain ⟨s2, e2, t2, m2⟩ := r_203 (R := mjF d) (n := 99999995 + 1 + 1 + 1) (v := v) (sh := 24 + -8) t1 (by decide) a1 b1
  obtain ⟨s3, e3, t3, m3⟩ := r_203 (R := mjF d) (n := 99999995 + 1 + 1) (v := v) (sh := 24 + -8 + -8) t2 (by decide) a2 b2
  obtain ⟨s4, e4, t4, m4⟩ := r_203 (R := mjF d) (n := 99999995 + 1) (v := v) (sh := 24 + -8 + -8 + -8) t3 (by decide) a3 b3
  refine ⟨s4, ?_, t4, by rw [m4, m3, m2, m1]⟩
  rw [e1, e2, e3, e4, L203_S]
  unfold b_203_3
  rw [if_pos (by decide)]
theorem q_259 {d : Nat} {s : mjSt3} {v t : Int32} (ht : s.1 97 1 = t) (hb : (mj_in t 3000 && mj_in (t + 1) 3000 && mj_in (t + 1 + 1) 3000 && mj_in (t + 1 + 1 + 1) 3000) = true) : ∃ s', mjF (d + 1) 259 [.ref 97, .int v] (mjW0 s) = some (none, mjW0 s') ∧ s'.1 97 1 = t + 1 + 1 + 1 + 1 := by
  simp only [Bool.and_eq_true] at hb
  obtain ⟨⟨⟨b0, b1⟩, b2⟩, b3⟩ := hb
  rw [e_259]
  unfold f_259
  unfold b_259_0
  rw [show mjN = 99999995 + 1 + 1 + 1 + 1 + 1 from rfl]
  obtain ⟨s1, e1, t1⟩ := r_259 (R := mjF d) (n := 99999995 + 1 + 1 + 1 + 1) (v := v) (sh := 3) ht (by decide) b0
  obtain ⟨s2, e2, t2⟩ := r_259 (R := mjF d) (n := 99999995 + 1 + 1 + 1) (v := v) (sh := 3 + -1) t1 (by decide) b1
  obtain ⟨s3, e3, t3⟩ := r_259 (R := mjF d) (n := 99999995 + 1 + 1) (v := v) (sh := 3 + -1 + -1) t2 (by decide) b2
  obtain ⟨s4, e4, t4⟩ := r_259 (R := mjF d) (n := 99999995 + 1) (v := v) (sh := 3 + -1 + -1 + -1) t3 (by decide) b3
  refine ⟨s4, ?_, t4⟩
  rw [e1, e2, e3, e4, L259_S]
  unfold b_259_2
  rw [if_pos (by decide)]
theorem cx_202 {d : Nat} (a b c e f : Int32) : ∃ s', mjF (d + 2) 202 [.ref 0, .int a, .int b, .int c, .int e, .int f] (mjW0 s_0) = some (some (.int 20), mjW0 s') ∧ s'.1 97 = s_0.1 97 := by
  rw [e_202]
  unfold f_202
  unfold b_202_0
  rw [xg_0_1, v_0_1, if_pos (by decide)]
  obtain ⟨s1, e1, t1, m1⟩ := q_203 (d := d) (v := a) v_0_1 (by decide)
  obtain ⟨s2, e2, t2, m2⟩ := q_203 (d := d) (v := b) t1 (by decide)
  obtain ⟨s3, e3, t3, m3⟩ := q_203 (d := d) (v := c) t2 (by decide)
  obtain ⟨s4, e4, t4, m4⟩ := q_203 (d := d) (v := e) t3 (by decide)
  obtain ⟨s5, e5, t5, m5⟩ := q_203 (d := d) (v := f) t4 (by decide)
  refine ⟨s5, ?_, by rw [m5, m4, m3, m2, m1]⟩
  rw [xV_0, e1, bN_some, xV_0, e2, bN_some, xV_0, e3, bN_some, xV_0, e4, bN_some, xV_0, e5, bN_some, xg_0_1, t5]
  rfl
theorem mx_258 {d : Nat} {s : mjSt3} (h9 : s.1 97 = s_0.1 97) (a b c e f : Int32) : ∃ s', mjF (d + 2) 258 [.ref 97, .int a, .int b, .int c, .int e, .int f] (mjW0 s) = some (some (.int 20), mjW0 s') := by
  rw [e_258]
  unfold f_258
  unfold b_258_0
  have t0 : s.1 97 1 = 0 := by rw [h9, v_97_1]
  rw [xg_97_1, t0, if_pos (by decide)]
  obtain ⟨s1, e1, t1⟩ := q_259 (d := d) (v := a) t0 (by decide)
  obtain ⟨s2, e2, t2⟩ := q_259 (d := d) (v := b) t1 (by decide)
  obtain ⟨s3, e3, t3⟩ := q_259 (d := d) (v := c) t2 (by decide)
  obtain ⟨s4, e4, t4⟩ := q_259 (d := d) (v := e) t3 (by decide)
  obtain ⟨s5, e5, t5⟩ := q_259 (d := d) (v := f) t4 (by decide)
  refine ⟨s5, ?_⟩
  rw [xV_97, e1, bN_some, xV_97, e2, bN_some, xV_97, e3, bN_some, xV_97, e4, bN_some, xV_97, e5, bN_some, xg_97_1, t5]
  rfl
/-! load -/
theorem cx_204n {d : Nat} (a b : Int32) (h : ¬ a = 0) : mjF (d + 2) 204 [.ref 0, .int a, .int b] (mjW0 s_0) = some (some (.int (-1)), mjW0 s_0) := by
  rw [e_204]
  unfold f_204
  unfold b_204_0
  by_cases h1 : a < 0
  · rw [if_pos h1]; rfl
  · rw [if_neg h1, xg_0_1, v_0_1, if_neg (fun h2 => h (Int32.le_antisymm h2 (Int32.not_lt.mp h1)))]; rfl
theorem mx_260n {d : Nat} {s : mjSt3} (h9 : s.1 97 = s_0.1 97) (a b : Int32) (h : ¬ a = 0) : mjF (d + 2) 260 [.ref 97, .int a, .int b] (mjW0 s) = some (some (.int (-1)), mjW0 s) := by
  rw [e_260]
  unfold f_260
  unfold b_260_0
  by_cases h1 : a < 0
  · rw [if_pos h1]; rfl
  · rw [if_neg h1, xg_97_1, h9, v_97_1, if_neg (fun h2 => h (Int32.le_antisymm h2 (Int32.not_lt.mp h1)))]; rfl
def isM (hp : mjH) : Bool := match hp[(97 : Nat)]? with
  | some (.inr (c, _)) => c == 12
  | _ => false
theorem isM_ok {hp : mjH} (h : isM hp = true) (u : mjU) : rV hp 97 12 u = u := by
  unfold isM at h
  split at h
  · next c fs hx =>
    unfold rV
    rw [hx]
    dsimp only
    rw [h]
  · cases h
def two (A B : List Value) (i j : Nat) (hp : mjH) (R : mjR) : Bool := match R i A hp with
  | some (some (.int v), hp1) => match R j B hp1 with
    | some (some (.int u), _) => decide (v = u) && isM hp1
    | _ => false
  | _ => false
theorem two_ok {A B : List Value} {i j : Nat} {hp : mjH} {R : mjR} (h : two A B i j hp R = true) : ∃ v hp1 hp2, R i A hp = some (some (.int v), hp1) ∧ R j B hp1 = some (some (.int v), hp2) ∧ ∀ u, rV hp1 97 12 u = u := by
  unfold two at h
  split at h
  · next v hp1 e1 =>
    split at h
    · next u hp2 e2 =>
      simp only [Bool.and_eq_true, decide_eq_true_eq] at h
      obtain ⟨rfl, h3⟩ := h
      exact ⟨v, hp1, hp2, e1, e2, isM_ok h3⟩
    · cases h
  · cases h
theorem z_load0 : two [.ref 0, .int 0, .int 0] [.ref 97, .int 0, .int 0] 204 260 H_G (mjF 1999) = true := by decide +kernel
theorem z_load1 : two [.ref 0, .int 0, .int 1] [.ref 97, .int 0, .int 1] 204 260 H_G (mjF 1999) = true := by decide +kernel
theorem z_leaks : two [.ref 0] [.ref 97] 222 251 H_G (mjF 1999) = true := by decide +kernel
/-! leak: what learn leaves -/
def S_L : List mjSp := S_F.set 91 (.inr (10, [.ref 79, .ref 2, .ref 92, .int 0, .ref 93, .int 1, .ref 94, .ref 95, .ref 96, .int 0]))
theorem z_learn : mj_cku (mjF 1997 193 [.ref 91] H_G) none S_L = true := by decide +kernel
theorem T_okL : okL S_L T_0 = true := by decide +kernel
theorem q_193 : ∃ s', mjF 1997 193 [.ref 91] (mjW0 s_0) = some (none, mjW0 s') ∧ s'.1 91 9 = 0 ∧ s'.1 97 = s_0.1 97 := by
  rw [← H_G_eq]
  refine ⟨st3 S_L (mjRU (mjF 1997 193 [.ref 91] H_G)), ?_, rfl, rfl⟩
  have e := mj_pieceU z_learn
  rw [mjFz_HT T_okL] at e
  exact e
theorem cx_223 (a : Int32) : ∃ s', mjF 1999 223 [.ref 0, .int a] (mjW0 s_0) = some (some (.int (-1)), mjW0 s') ∧ s'.1 97 = s_0.1 97 := by
  obtain ⟨s', e1, e2, e3⟩ := q_193
  refine ⟨s', ?_, e3⟩
  rw [e_223]
  unfold f_223
  unfold b_223_0
  rw [xg_0_13, xV_91]
  have e4 : mjF 1998 199 [.ref 91, .int a] (mjW0 s_0) = some (some (.int (-1)), mjW0 s') := by
    rw [e_199]
    unfold f_199
    unfold b_199_0
    rw [xV_91, e1, bN_some]
    by_cases h : a < 0
    · rw [if_pos h]; rfl
    · rw [if_neg h, xg_91_9, e2, if_pos (Int32.not_lt.mp h)]; rfl
  rw [e4, bI_some]
/-! the law's one round -/
theorem lw_S (R : mjR) (L : Nat) (xs : Nat → Int32) (n : Nat) (a b : Nat) (i : Int32) (hp : mjH) : L_900_18 R L xs (n + 1) a b i hp = b_900_18 R L xs (L_900_18 R L xs n) a b i hp := rfl
theorem lw_end {R : mjR} {xs : Nat → Int32} {n a b : Nat} {hp : mjH} : b_900_764 R 6 xs (L_900_18 R 6 xs (n + 1)) a b 0 hp = some (some (.int 1), hp) := by
  unfold b_900_764
  rw [lw_S]
  unfold b_900_18
  rw [if_pos (by decide)]
theorem x_0 {xs : Nat → Int32} {k : Int32 → mjU} : aX 6 xs 0 k = k (xs 0) := rfl
theorem x_1 {xs : Nat → Int32} {k : Int32 → mjU} : aX 6 xs (0 + 1) k = k (xs 1) := rfl
theorem x_2 {xs : Nat → Int32} {k : Int32 → mjU} : aX 6 xs (0 + 2) k = k (xs 2) := rfl
theorem x_3 {xs : Nat → Int32} {k : Int32 → mjU} : aX 6 xs (0 + 3) k = k (xs 3) := rfl
theorem x_4 {xs : Nat → Int32} {k : Int32 → mjU} : aX 6 xs (0 + 4) k = k (xs 4) := rfl
theorem x_5 {xs : Nat → Int32} {k : Int32 → mjU} : aX 6 xs (0 + 5) k = k (xs 5) := rfl
theorem p_small (xs : Nat → Int32) (L : Nat) (hL : L < 6) : ∃ hpE, L_900_18 (mjF 1999) L xs mjN 0 97 0 H_G = some (some (.int 1), hpE) := by
  refine ⟨H_G, ?_⟩
  rw [show mjN = 99999999 + 1 from rfl, lw_S]
  unfold b_900_18
  rw [if_pos]
  match L, hL with
  | 0, _ => decide
  | 1, _ => decide
  | 2, _ => decide
  | 3, _ => decide
  | 4, _ => decide
  | 5, _ => decide
theorem p_six (xs : Nat → Int32) : ∃ hpE, L_900_18 (mjF 1999) 6 xs mjN 0 97 0 H_G = some (some (.int 1), hpE) := by
  rw [show mjN = 99999998 + 1 + 1 from rfl, lw_S]
  unfold b_900_18
  rw [if_neg (by decide), x_0]
  generalize hx : xs 0 &&& 31 = w
  by_cases h0 : w = 0
  · rw [if_pos h0]
    rw [H_G_eq]
    simp only [x_1, x_2, x_3, x_4, x_5]
    obtain ⟨s1, e1, m1⟩ := cx_202 (d := 1997) (xs 1) (xs 2) (xs 3) (xs 4) (xs 5)
    obtain ⟨s2, e2⟩ := mx_258 (d := 1997) m1 (xs 1) (xs 2) (xs 3) (xs 4) (xs 5)
    rw [xV_0, e1, bI_some]
    try simp only [x_1, x_2, x_3, x_4, x_5]
    rw [xV_97, e2, bI_some, if_pos rfl, lw_end]
    exact ⟨_, rfl⟩
  rw [if_neg h0]
  by_cases h1 : w = 1
  · rw [if_pos h1]
    simp only [x_1, x_2]
    have key : ∀ b : Int32, b = 0 ∨ b = 1 → ∃ v hp1 hp2, mjF 1999 204 [.ref 0, .int (xs 1), .int b] H_G = some (some (.int v), hp1) ∧ mjF 1999 260 [.ref 97, .int (xs 1), .int b] hp1 = some (some (.int v), hp2) ∧ ∀ u, rV hp1 97 12 u = u := by
      intro b hb
      by_cases h0 : xs 1 = 0
      · rw [h0]
        rcases hb with rfl | rfl
        · exact two_ok z_load0
        · exact two_ok z_load1
      · refine ⟨-1, mjW0 s_0, mjW0 s_0, ?_, mx_260n (d := 1997) rfl _ _ h0, fun u => xV_97⟩
        rw [H_G_eq]
        exact cx_204n (d := 1997) _ _ h0
    by_cases hb : xs 2 = 0
    · rw [if_pos hb]
      obtain ⟨v, hp1, hp2, e1, e2, e3⟩ := key 0 (Or.inl rfl)
      unfold b_900_210
      rw [e1, bI_some]
      try simp only [x_1, x_2]
      rw [if_pos hb]
      unfold b_900_232
      rw [e3, e2, bI_some, if_pos rfl, lw_end, H_G_eq, xV_0]
      exact ⟨_, rfl⟩
    · rw [if_neg hb]
      obtain ⟨v, hp1, hp2, e1, e2, e3⟩ := key 1 (Or.inr rfl)
      unfold b_900_210
      rw [e1, bI_some]
      try simp only [x_1, x_2]
      rw [if_neg hb]
      unfold b_900_232
      rw [e3, e2, bI_some, if_pos rfl, lw_end, H_G_eq, xV_0]
      exact ⟨_, rfl⟩
  rw [if_neg h1]
  by_cases h2 : w = 2
  · rw [if_pos h2]
    rw [H_G_eq]
    simp only [x_1]
    rw [xV_0, cx_206 (d := 1997), bI_some]
    try simp only [x_1]
    rw [xV_97, mx_336 (d := 1997) rfl, bI_some, if_pos rfl, lw_end]
    exact ⟨_, rfl⟩
  rw [if_neg h2]
  by_cases h3 : w = 3
  · rw [if_pos h3]
    rw [H_G_eq]
    simp only [x_1, x_2]
    rw [xV_0, cx_207 (d := 1997), bI_some]
    try simp only [x_1, x_2]
    rw [xV_97, mx_337 (d := 1997) rfl, bI_some, if_pos rfl, lw_end]
    exact ⟨_, rfl⟩
  rw [if_neg h3]
  by_cases h4 : w = 4
  · rw [if_pos h4]
    rw [H_G_eq]
    simp only [x_1, x_2, x_3]
    rw [xV_0, cx_208 (d := 1997), bI_some]
    try simp only [x_1, x_2, x_3]
    rw [xV_97, mx_339 (d := 1997) rfl, bI_some, if_pos rfl, lw_end]
    exact ⟨_, rfl⟩
  rw [if_neg h4]
  by_cases h5 : w = 5
  · rw [if_pos h5]
    rw [H_G_eq]
    simp only [x_1, x_2]
    rw [xV_0, cx_210 (d := 1997), bI_some]
    try simp only [x_1, x_2]
    rw [xV_97, mx_340 (d := 1997) rfl, bI_some, if_pos rfl, lw_end]
    exact ⟨_, rfl⟩
  rw [if_neg h5]
  by_cases h6 : w = 6
  · rw [if_pos h6]
    rw [H_G_eq]
    simp only [x_1]
    rw [xV_0, cx_211 (d := 1997), bI_some]
    try simp only [x_1]
    rw [xV_97, mx_229 (d := 1997) rfl, bI_some, if_pos rfl, lw_end]
    exact ⟨_, rfl⟩
  rw [if_neg h6]
  by_cases h7 : w = 7
  · rw [if_pos h7]
    rw [H_G_eq]
    simp only [x_1]
    rw [xV_0, cx_212 (d := 1997), bI_some]
    try simp only [x_1]
    rw [xV_97, mx_341 (d := 1997) rfl, bI_some, if_pos (st_eq _), lw_end]
    exact ⟨_, rfl⟩
  rw [if_neg h7]
  by_cases h8 : w = 8
  · rw [if_pos h8]
    rw [H_G_eq]
    simp only [x_1]
    rw [xV_0, cx_213 (d := 1997), bI_some]
    try simp only [x_1]
    rw [xV_97, mx_342 (d := 1997) rfl, bI_some, if_pos rfl, lw_end]
    exact ⟨_, rfl⟩
  rw [if_neg h8]
  by_cases h9 : w = 9
  · rw [if_pos h9]
    rw [H_G_eq]
    simp only [x_1, x_2]
    rw [xV_0, cx_214 (d := 1997), bI_some]
    try simp only [x_1, x_2]
    rw [xV_97, mx_343 (d := 1997) rfl, bI_some, if_pos rfl, lw_end]
    exact ⟨_, rfl⟩
  rw [if_neg h9]
  by_cases h10 : w = 10
  · rw [if_pos h10]
    rw [H_G_eq]
    simp only [x_1, x_2]
    rw [xV_0, cx_215 (d := 1997), bI_some]
    try simp only [x_1, x_2]
    rw [xV_97, mx_345 (d := 1997) rfl, bI_some, if_pos rfl, lw_end]
    exact ⟨_, rfl⟩
  rw [if_neg h10]
  by_cases h11 : w = 11
  · rw [if_pos h11]
    rw [H_G_eq]
    simp only [x_1, x_2]
    rw [xV_0, cx_216 (d := 1997), bI_some]
    try simp only [x_1, x_2]
    rw [xV_97, mx_346 (d := 1997) rfl, bI_some, if_pos rfl, lw_end]
    exact ⟨_, rfl⟩
  rw [if_neg h11]
  by_cases h12 : w = 12
  · rw [if_pos h12]
    rw [H_G_eq]
    simp only [x_1, x_2]
    rw [xV_0, cx_217 (d := 1997), bI_some]
    try simp only [x_1, x_2]
    rw [xV_97, mx_348 (d := 1997) rfl, bI_some, if_pos rfl, lw_end]
    exact ⟨_, rfl⟩
  rw [if_neg h12]
  by_cases h13 : w = 13
  · rw [if_pos h13]
    rw [H_G_eq]
    simp only [x_1, x_2]
    rw [xV_0, cx_218 (d := 1997), bI_some]
    try simp only [x_1, x_2]
    rw [xV_97, mx_349 (d := 1997) rfl, bI_some, if_pos rfl, lw_end]
    exact ⟨_, rfl⟩
  rw [if_neg h13]
  by_cases h14 : w = 14
  · rw [if_pos h14]
    rw [H_G_eq]
    simp only [x_1, x_2]
    rw [xV_0, cx_219 (d := 1997), bI_some]
    try simp only [x_1, x_2]
    rw [xV_97, mx_350 (d := 1997) rfl, bI_some, if_pos rfl, lw_end]
    exact ⟨_, rfl⟩
  rw [if_neg h14]
  by_cases h15 : w = 15
  · rw [if_pos h15]
    rw [H_G_eq]
    simp only [x_1, x_2]
    rw [xV_0, cx_220 (d := 1997), bI_some]
    try simp only [x_1, x_2]
    rw [xV_97, mx_245 (d := 1997) rfl, bI_some, if_pos rfl, lw_end]
    exact ⟨_, rfl⟩
  rw [if_neg h15]
  by_cases h16 : w = 16
  · rw [if_pos h16]
    rw [H_G_eq]
    simp only [x_1]
    rw [xV_0, cx_221 (d := 1997), bI_some]
    try simp only [x_1]
    rw [xV_97, mx_257 (d := 1997) rfl, bI_some, if_pos rfl, lw_end]
    exact ⟨_, rfl⟩
  rw [if_neg h16]
  by_cases h17 : w = 17
  · rw [if_pos h17]
    obtain ⟨v, hp1, hp2, e1, e2, e3⟩ := two_ok z_leaks
    have eV : ∀ u, rV H_G 0 11 u = u := fun u => by rw [H_G_eq]; exact xV_0
    rw [eV, e1, bI_some, e3, e2, bI_some, if_pos rfl, lw_end]
    exact ⟨_, rfl⟩
  rw [if_neg h17]
  by_cases h18 : w = 18
  · rw [if_pos h18]
    rw [H_G_eq]
    simp only [x_1]
    obtain ⟨s1, e1, m1⟩ := cx_223 (xs 1)
    rw [xV_0, e1, bI_some]
    try simp only [x_1]
    rw [xV_97, mx_255 (d := 1997) m1, bI_some, if_pos rfl, lw_end]
    exact ⟨_, rfl⟩
  rw [if_neg h18]
  by_cases h19 : w = 19
  · rw [if_pos h19]
    rw [H_G_eq]
    simp only [x_1, x_2]
    rw [xV_0, cx_224 (d := 1997), bI_some]
    try simp only [x_1, x_2]
    rw [xV_97, mx_256 (d := 1997) rfl, bI_some, if_pos rfl, lw_end]
    exact ⟨_, rfl⟩
  rw [if_neg h19]
  rw [lw_end]
  exact ⟨_, rfl⟩
theorem p_all (xs : Nat → Int32) (L : Nat) (hL : L ≤ 6) : ∃ hpE, L_900_18 (mjF 1999) L xs mjN 0 97 0 H_G = some (some (.int 1), hpE) := by
  by_cases h : L < 6
  · exact p_small xs L h
  · have e : L = 6 := by omega
    subst e
    exact p_six xs
