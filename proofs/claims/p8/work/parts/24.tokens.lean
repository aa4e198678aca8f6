/-! ===== the TOKENS' own methods as equations ===== -/
/-- the cursor is at c of n tokens -/
def Tk (s : mjSt3) (c n : Nat) : Prop := s.1 58 6 = nI c ∧ s.1 58 5 = nI n ∧ c < n ∧ n ≤ 3001
def tkGo (s : mjSt3) (c : Nat) : mjSt3 := uI s 58 (upd (s.1 58) 6 (nI c))
theorem tkGo_i (s : mjSt3) (c q : Nat) (h : ¬ q = 58) : (tkGo s c).1 q = s.1 q := if_neg h
theorem tkGo_f (s : mjSt3) (c j : Nat) (h : ¬ j = 6) : (tkGo s c).1 58 j = s.1 58 j := by
  unfold tkGo
  rw [uI_same]
  exact if_neg h
theorem tkGo_c (s : mjSt3) (c : Nat) : (tkGo s c).1 58 6 = nI c := by
  unfold tkGo
  rw [uI_same]
  exact if_pos rfl
theorem tkGo_2 (s : mjSt3) (c : Nat) : (tkGo s c).2 = s.2 := rfl
theorem tkGo_tk {s : mjSt3} {c n c' : Nat} (h : Tk s c n) (h2 : c' < n) : Tk (tkGo s c') c' n :=
  ⟨tkGo_c s c', (tkGo_f s c' 5 (by decide)).trans h.2.1, h2, h.2.2.2⟩
section MJK
variable {d c n : Nat} {s : mjSt3}
theorem x_is (h : Tk s c n) (k : Int32) : mjF (d + 1) 164 [.ref 58, .int k] (mjW0 s) = some (some (.int (if s.1 60 c = k then 1 else 0)), mjW0 s) := by
  obtain ⟨h1, h2, h3, h4⟩ := h
  rw [e_164]
  unfold f_164
  unfold b_164_0
  rw [xg_58_1, xg_58_6, h1, xa_60, if_pos (mj_in_nI (by omega) (by decide)), nI_clamp (by omega), ite_ans]
theorem x_kindNow (h : Tk s c n) : mjF (d + 1) 173 [.ref 58] (mjW0 s) = some (some (.int (s.1 60 c)), mjW0 s) := by
  obtain ⟨h1, h2, h3, h4⟩ := h
  rw [e_173]
  unfold f_173
  unfold b_173_0
  rw [xg_58_1, xg_58_6, h1, xa_60, if_pos (mj_in_nI (by omega) (by decide)), nI_clamp (by omega)]
theorem x_now (h : Tk s c n) : mjF (d + 1) 167 [.ref 58] (mjW0 s) = some (some (.int (nI c)), mjW0 s) := by
  rw [e_167]
  unfold f_167
  unfold b_167_0
  rw [xg_58_6, h.1]
theorem x_size (h : Tk s c n) : mjF (d + 1) 171 [.ref 58] (mjW0 s) = some (some (.int (nI n)), mjW0 s) := by
  rw [e_171]
  unfold f_171
  unfold b_171_0
  rw [xg_58_5, h.2.1]
theorem x_fine : mjF (d + 1) 172 [.ref 58] (mjW0 s) = some (some (.int (if s.1 58 7 = 0 then 1 else 0)), mjW0 s) := by
  rw [e_172]
  unfold f_172
  unfold b_172_0
  rw [xg_58_7, ite_ans]
theorem x_kindAt (h : Tk s c n) {k : Nat} (hk : k < n) : mjF (d + 1) 180 [.ref 58, .int (nI k)] (mjW0 s) = some (some (.int (s.1 60 k)), mjW0 s) := by
  obtain ⟨h1, h2, h3, h4⟩ := h
  rw [e_180]
  unfold f_180
  unfold b_180_0
  rw [if_neg (nI_pos (by omega)), xg_58_5, h2, if_neg (nI_ge hk (by omega)), xg_58_1, xa_60, if_pos (mj_in_nI (by omega) (by decide)), nI_clamp (by omega)]
theorem x_kindOut (h : Tk s c n) {k : Nat} (hk : n ≤ k) (hl : k < 2 ^ 31) : mjF (d + 1) 180 [.ref 58, .int (nI k)] (mjW0 s) = some (some (.int 0), mjW0 s) := by
  obtain ⟨h1, h2, h3, h4⟩ := h
  rw [e_180]
  unfold f_180
  unfold b_180_0
  rw [if_neg (nI_pos hl), xg_58_5, h2, if_pos (nI_le hk hl)]
  rfl
theorem x_placeAt (h : Tk s c n) {k : Nat} (hk : k < n) : mjF (d + 1) 168 [.ref 58, .int (nI k)] (mjW0 s) = some (some (.int (s.1 61 k)), mjW0 s) := by
  obtain ⟨h1, h2, h3, h4⟩ := h
  rw [e_168]
  unfold f_168
  unfold b_168_0
  rw [if_neg (nI_pos (by omega)), xg_58_5, h2, if_neg (nI_ge hk (by omega)), xg_58_2, xa_61, if_pos (mj_in_nI (by omega) (by decide)), nI_clamp (by omega)]
theorem x_keyAt (h : Tk s c n) {k : Nat} (hk : k < n) : mjF (d + 1) 170 [.ref 58, .int (nI k)] (mjW0 s) = some (some (.long (s.2.1 62 k)), mjW0 s) := by
  obtain ⟨h1, h2, h3, h4⟩ := h
  rw [e_170]
  unfold f_170
  unfold b_170_0
  rw [if_neg (nI_pos (by omega)), xg_58_5, h2, if_neg (nI_ge hk (by omega)), xg_58_3, xa_62, if_pos (mj_in_nI (by omega) (by decide)), nI_clamp (by omega)]
theorem x_argsAt (h : Tk s c n) {k : Nat} (hk : k < n) : mjF (d + 1) 181 [.ref 58, .int (nI k)] (mjW0 s) = some (some (.int (s.1 63 k)), mjW0 s) := by
  obtain ⟨h1, h2, h3, h4⟩ := h
  rw [e_181]
  unfold f_181
  unfold b_181_0
  rw [if_neg (nI_pos (by omega)), xg_58_5, h2, if_neg (nI_ge hk (by omega)), xg_58_4, xa_63, if_pos (mj_in_nI (by omega) (by decide)), nI_clamp (by omega)]
theorem x_setArgs (h : Tk s c n) {k : Nat} (hk : k < n) (v : Int32) : mjF (d + 1) 174 [.ref 58, .int (nI k), .int v] (mjW0 s) = some (none, mjW0 (uI s 63 (upd (s.1 63) k v))) := by
  obtain ⟨h1, h2, h3, h4⟩ := h
  rw [e_174]
  unfold f_174
  unfold b_174_0
  rw [if_neg (nI_pos (by omega)), xg_58_5, h2, if_neg (nI_ge hk (by omega)), xg_58_4, xs_63, if_pos (mj_in_nI (by omega) (by decide)), nI_clamp (by omega)]
theorem x_skip (h : Tk s c n) : mjF (d + 1) 166 [.ref 58] (mjW0 s) = some (none, mjW0 (if c + 1 < n then tkGo s (c + 1) else s)) := by
  obtain ⟨h1, h2, h3, h4⟩ := h
  rw [e_166]
  unfold f_166
  unfold b_166_0
  rw [xg_58_6, xg_58_5, h1, h2, show nI n - (1 : Int32) = nI (n - 1) from pk_sub (a := n) (b := 1) (by omega)]
  by_cases g : c + 1 < n
  · rw [if_neg (nI_ge (by omega) (by omega)), if_pos g, xg_58_6, h1, xp_58_6, nI_1]
    rfl
  · rw [if_pos (nI_le (by omega) (by omega)), if_neg g]
theorem x_goTo (h : Tk s c n) {k : Nat} (hk : k < n) (hf : s.1 58 7 = 0) : mjF (d + 1) 179 [.ref 58, .int (nI k)] (mjW0 s) = some (none, mjW0 (tkGo s k)) := by
  obtain ⟨h1, h2, h3, h4⟩ := h
  rw [e_179]
  unfold f_179
  unfold b_179_0
  rw [xg_58_7, hf, if_pos rfl, if_neg (nI_pos (by omega)), xg_58_5, h2, if_neg (nI_ge hk (by omega)), xp_58_6]
  rfl
theorem x_goStay (t : Int32) (hf : ¬ s.1 58 7 = 0) : mjF (d + 1) 179 [.ref 58, .int t] (mjW0 s) = some (none, mjW0 s) := by
  rw [e_179]
  unfold f_179
  unfold b_179_0
  rw [xg_58_7, if_neg hf]
/-- a FAULT is met at token k, if none was met; the cursor goes to the end -/
def tkBad (s : mjSt3) (n : Nat) (f p : Int32) : mjSt3 := tkGo (if s.1 58 7 = 0 then uI (uI s 58 (upd (s.1 58) 7 f)) 58 (upd (upd (s.1 58) 7 f) 8 p) else s) (n - 1)
theorem x_refuse (h : Tk s c n) (k : Int32) : mjF (d + 1) 165 [.ref 58, .int k] (mjW0 s) = some (none, mjW0 (tkBad s n (if s.1 60 c = 1 then 1 else k) (s.1 61 c))) := by
  obtain ⟨h1, h2, h3, h4⟩ := h
  have fin : ∀ s' : mjSt3, s'.1 58 5 = nI n → b_165_42 (mjF d) 58 (mjW0 s') = some (none, mjW0 (tkGo s' (n - 1))) := by
    intro s' e
    unfold b_165_42
    rw [xg_58_5, e, show nI n - (1 : Int32) = nI (n - 1) from pk_sub (a := n) (b := 1) (by omega), xp_58_6]
    rfl
  have mid : ∀ f : Int32, b_165_26 (mjF d) 58 58 f (mjW0 s) = some (none, mjW0 (tkGo (uI (uI s 58 (upd (s.1 58) 7 f)) 58 (upd (upd (s.1 58) 7 f) 8 (s.1 61 c))) (n - 1))) := by
    intro f
    unfold b_165_26
    have e6 : (uI s 58 (upd (s.1 58) 7 f)).1 58 6 = nI c := by
      rw [uI_same]
      exact (if_neg (by decide)).trans h1
    rw [xp_58_7, xg_58_2, xg_58_6, e6, xa_61, if_pos (mj_in_nI (by omega) (by decide)), nI_clamp (by omega), uI_ne _ _ _ _ (by decide), xp_58_8, uI_same]
    refine fin _ ?_
    rw [uI_same]
    exact (if_neg (by decide)).trans ((if_neg (by decide)).trans h2)
  rw [e_165]
  unfold f_165
  unfold b_165_0
  rw [xg_58_7]
  unfold tkBad
  by_cases hf : s.1 58 7 = 0
  · rw [if_pos hf, if_pos hf, xg_58_1, xg_58_6, h1, xa_60, if_pos (mj_in_nI (by omega) (by decide)), nI_clamp (by omega)]
    by_cases hb : s.1 60 c = 1
    · rw [if_pos hb, if_pos hb]; exact mid 1
    · rw [if_neg hb, if_neg hb]; exact mid k
  · rw [if_neg hf, if_neg hf]
    exact fin s h2
theorem x_refuseAt (h : Tk s c n) {t : Nat} (ht : t < n) (k : Int32) : mjF (d + 1) 178 [.ref 58, .int k, .int (nI t)] (mjW0 s) = some (none, mjW0 (tkBad s n k (s.1 61 t))) := by
  obtain ⟨h1, h2, h3, h4⟩ := h
  have fin : ∀ s' : mjSt3, s'.1 58 5 = nI n → b_178_34 (mjF d) 58 (mjW0 s') = some (none, mjW0 (tkGo s' (n - 1))) := by
    intro s' e
    unfold b_178_34
    rw [xg_58_5, e, show nI n - (1 : Int32) = nI (n - 1) from pk_sub (a := n) (b := 1) (by omega), xp_58_6]
    rfl
  rw [e_178]
  unfold f_178
  unfold b_178_0
  rw [xg_58_7]
  unfold tkBad
  by_cases hf : s.1 58 7 = 0
  · rw [if_pos hf, if_pos hf, if_neg (nI_pos (by omega)), xg_58_5, h2, if_neg (nI_ge ht (by omega)), xp_58_7, xg_58_2, xa_61, if_pos (mj_in_nI (by omega) (by decide)), nI_clamp (by omega), uI_ne _ _ _ _ (by decide), xp_58_8, uI_same]
    refine fin _ ?_
    rw [uI_same]
    exact (if_neg (by decide)).trans ((if_neg (by decide)).trans h2)
  · rw [if_neg hf, if_neg hf]
    exact fin s h2
theorem x_need (h : Tk s c n) {k : Int32} (hk : s.1 60 c = k) (h0 : ¬ k = 0) : mjF (d + 1) 169 [.ref 58, .int k] (mjW0 s) = some (none, mjW0 (tkGo s (c + 1))) := by
  obtain ⟨h1, h2, h3, h4⟩ := h
  rw [e_169]
  unfold f_169
  unfold b_169_0
  rw [xg_58_1, xg_58_6, h1, xa_60, if_pos (mj_in_nI (by omega) (by decide)), nI_clamp (by omega), if_pos hk, if_neg h0, xg_58_6, h1, xp_58_6, nI_1]
  rfl
theorem x_needNot (h : Tk s c n) {k : Int32} (hk : ¬ s.1 60 c = k) : mjF (d + 2) 169 [.ref 58, .int k] (mjW0 s) = some (none, mjW0 (tkBad s n (if s.1 60 c = 1 then 1 else 2) (s.1 61 c))) := by
  have r := x_refuse (d := d) h 2
  obtain ⟨h1, h2, h3, h4⟩ := h
  rw [e_169]
  unfold f_169
  unfold b_169_0
  rw [xg_58_1, xg_58_6, h1, xa_60, if_pos (mj_in_nI (by omega) (by decide)), nI_clamp (by omega), if_neg hk]
  unfold b_169_30
  rw [xV_58, r, bN_s]
theorem i10 (b : Bool) : ((if b = true then (1 : Int32) else 0) = 0) = (b = false) := by cases b <;> simp
theorem x_sum (h : Tk s c n) : mjF (d + 2) 176 [.ref 58] (mjW0 s) = some (some (.int (if s.1 60 c = 43 ∨ s.1 60 c = 45 then 1 else 0)), mjW0 s) := by
  rw [e_176]
  unfold f_176
  unfold b_176_0 b_176_18
  rw [xV_58, x_is h, bI_s]
  by_cases a : s.1 60 c = 43
  · rw [if_pos a, if_neg (by decide), if_pos (Or.inl a)]
  · rw [if_neg a, if_pos rfl, xV_58, x_is h, bI_s]
    by_cases b : s.1 60 c = 45
    · rw [if_pos b, if_neg (by decide), if_pos (Or.inr b)]
    · rw [if_neg b, if_pos rfl, if_neg (fun e => e.elim a b)]
theorem x_product (h : Tk s c n) : mjF (d + 2) 175 [.ref 58] (mjW0 s) = some (some (.int (if s.1 60 c = 42 ∨ s.1 60 c = 47 ∨ s.1 60 c = 37 then 1 else 0)), mjW0 s) := by
  rw [e_175]
  unfold f_175
  unfold b_175_0 b_175_27
  rw [xV_58, x_is h, bI_s]
  by_cases a : s.1 60 c = 42
  · rw [if_pos a, if_neg (by decide), if_pos (Or.inl a)]
  · rw [if_neg a, if_pos rfl, xV_58, x_is h, bI_s]
    by_cases b : s.1 60 c = 47
    · rw [if_pos b, if_neg (by decide), if_pos (Or.inr (Or.inl b))]
    · rw [if_neg b, if_pos rfl, xV_58, x_is h, bI_s]
      by_cases e : s.1 60 c = 37
      · rw [if_pos e, if_neg (by decide), if_pos (Or.inr (Or.inr e))]
      · rw [if_neg e, if_pos rfl, if_neg (fun g => g.elim a (fun g => g.elim b e))]
theorem x_compare (h : Tk s c n) : mjF (d + 2) 177 [.ref 58] (mjW0 s) = some (some (.int (if s.1 60 c = 200 ∨ s.1 60 c = 201 ∨ s.1 60 c = 60 then 1 else 0)), mjW0 s) := by
  rw [e_177]
  unfold f_177
  unfold b_177_0 b_177_29
  rw [xV_58, x_is h, bI_s]
  by_cases a : s.1 60 c = 200
  · rw [if_pos a, if_neg (by decide), if_pos (Or.inl a)]
  · rw [if_neg a, if_pos rfl, xV_58, x_is h, bI_s]
    by_cases b : s.1 60 c = 201
    · rw [if_pos b, if_neg (by decide), if_pos (Or.inr (Or.inl b))]
    · rw [if_neg b, if_pos rfl, xV_58, x_is h, bI_s]
      by_cases e : s.1 60 c = 60
      · rw [if_pos e, if_neg (by decide), if_pos (Or.inr (Or.inr e))]
      · rw [if_neg e, if_pos rfl, if_neg (fun g => g.elim a (fun g => g.elim b e))]
end MJK
