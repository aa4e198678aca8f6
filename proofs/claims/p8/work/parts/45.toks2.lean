/-! ===== the reader's small steps over tokens T: kind, place, name, value ===== -/
abbrev TT : Type := Nat → Int32 × Int32 × Int64 × Int32
/-- the class's rows hold T -/
def TH (T : TT) (N : Nat) (s : mjSt3) : Prop := s.1 58 5 = nI (N + 1) ∧ N ≤ 3000 ∧ (T N).1 = 0 ∧ ∀ k, k ≤ N → s.1 60 k = (T k).1 ∧ s.1 61 k = (T k).2.1
theorem TH.tb {T : TT} {N : Nat} {s : mjSt3} (h : TH T N s) : TB N s := ⟨h.1, h.2.1, (h.2.2.2 N (Nat.le_refl N)).1.trans h.2.2.1⟩
/-- the FAULT where a token can't stand -/
def F2 (T : TT) (c : Nat) : Nat × Nat := (if (T c).1 = 1 then 1 else 2, c)
theorem F2_1 (T : TT) (c : Nat) : nI (F2 T c).1 = if (T c).1 = 1 then 1 else 2 := by
  unfold F2
  by_cases h : (T c).1 = 1
  · simp only [if_pos h]; rfl
  · simp only [if_neg h]; rfl
section MJ45
variable {T : TT} {d N c : Nat} {s : mjSt3} {x : RS} {f p o v : Int32} {ag : Nat → Int32}
theorem u_is (hT : TH T N s) (hc : c ≤ N) (k : Int32) : mjF (d + 1) 164 [.ref 58, .int k] (mjW0 (eR s (c, f, p, o, v, ag))) = some (some (.int (if (T c).1 = k then 1 else 0)), mjW0 (eR s (c, f, p, o, v, ag))) := by
  rw [r_is hT.tb (show (c, f, p, o, v, ag).1 ≤ N from hc), (hT.2.2.2 c hc).1]
theorem u_kind (hT : TH T N s) (hc : c ≤ N) : mjF (d + 1) 173 [.ref 58] (mjW0 (eR s (c, f, p, o, v, ag))) = some (some (.int (T c).1), mjW0 (eR s (c, f, p, o, v, ag))) := by
  rw [r_kind hT.tb (show (c, f, p, o, v, ag).1 ≤ N from hc), (hT.2.2.2 c hc).1]
theorem u_skip (hT : TH T N s) (hc : c < N) : mjF (d + 1) 166 [.ref 58] (mjW0 (eR s (c, f, p, o, v, ag))) = some (none, mjW0 (eR s (c + 1, f, p, o, v, ag))) := by
  rw [r_skip hT.tb (show c ≤ N by omega)]
  unfold rSkip
  rw [if_pos (show c < N from hc)]
theorem u_skipN (hT : TH T N s) : mjF (d + 1) 166 [.ref 58] (mjW0 (eR s (N, f, p, o, v, ag))) = some (none, mjW0 (eR s (N, f, p, o, v, ag))) := by
  rw [r_skip hT.tb (Nat.le_refl N)]
  unfold rSkip
  rw [if_neg (Nat.lt_irrefl N)]
theorem u_ref (hT : TH T N s) (hc : c ≤ N) (k : Int32) : mjF (d + 1) 165 [.ref 58, .int k] (mjW0 (eR s (c, 0, p, o, v, ag))) = some (none, mjW0 (eR s (N, if (T c).1 = 1 then 1 else k, (T c).2.1, o, v, ag))) := by
  rw [r_ref hT.tb hc]
  unfold rRef
  rw [if_pos (show (0 : Int32) = 0 from rfl), (hT.2.2.2 c hc).1, (hT.2.2.2 c hc).2]
theorem u_ref2 (hT : TH T N s) (hc : c ≤ N) : mjF (d + 1) 165 [.ref 58, .int 2] (mjW0 (eR s (c, 0, p, o, v, ag))) = some (none, mjW0 (eR s (N, nI (F2 T c).1, (T (F2 T c).2).2.1, o, v, ag))) := by
  rw [u_ref hT hc, F2_1]
  rfl
theorem u_ref3 (hT : TH T N s) (hc : c ≤ N) (hk : ¬ (T c).1 = 1) : mjF (d + 1) 165 [.ref 58, .int 3] (mjW0 (eR s (c, 0, p, o, v, ag))) = some (none, mjW0 (eR s (N, nI 3, (T c).2.1, o, v, ag))) := by
  rw [u_ref hT hc, if_neg hk]
  rfl
theorem u_refN (hT : TH T N s) (hf : ¬ f = 0) (k : Int32) : mjF (d + 1) 165 [.ref 58, .int k] (mjW0 (eR s (N, f, p, o, v, ag))) = some (none, mjW0 (eR s (N, f, p, o, v, ag))) := by
  rw [r_ref hT.tb (Nat.le_refl N)]
  unfold rRef
  rw [if_neg (show ¬ f = 0 from hf)]
theorem u_need (hT : TH T N s) (hc : c ≤ N) {k : Int32} (hk : (T c).1 = k) (h0 : ¬ k = 0) : mjF (d + 2) 169 [.ref 58, .int k] (mjW0 (eR s (c, 0, p, o, v, ag))) = some (none, mjW0 (eR s (c + 1, 0, p, o, v, ag))) := by
  rw [r_need hT.tb hc]
  unfold rNeed
  rw [if_pos ⟨(hT.2.2.2 c hc).1.trans hk, h0⟩]
theorem u_need2 (hT : TH T N s) (hc : c ≤ N) {k : Int32} (hk : ¬ (T c).1 = k) : mjF (d + 2) 169 [.ref 58, .int k] (mjW0 (eR s (c, 0, p, o, v, ag))) = some (none, mjW0 (eR s (N, nI (F2 T c).1, (T (F2 T c).2).2.1, o, v, ag))) := by
  rw [r_need hT.tb hc]
  unfold rNeed
  rw [if_neg (fun q => hk ((hT.2.2.2 c hc).1.symm.trans q.1))]
  unfold rRef
  rw [if_pos (show (0 : Int32) = 0 from rfl), (hT.2.2.2 c hc).1, (hT.2.2.2 c hc).2, F2_1]
  rfl
theorem u_needN (hT : TH T N s) (hf : ¬ f = 0) (k : Int32) : mjF (d + 2) 169 [.ref 58, .int k] (mjW0 (eR s (N, f, p, o, v, ag))) = some (none, mjW0 (eR s (N, f, p, o, v, ag))) := by
  rw [r_need hT.tb (Nat.le_refl N)]
  unfold rNeed
  rw [if_neg (fun q => q.2 (q.1.symm.trans ((hT.2.2.2 N (Nat.le_refl N)).1.trans hT.2.2.1)))]
  unfold rRef
  rw [if_neg (show ¬ f = 0 from hf)]
/-- a kind that is asked for is not the end's -/
theorem lt_of (hT : TH T N s) (hc : c ≤ N) {k : Int32} (hk : (T c).1 = k) (h0 : ¬ k = 0) : c < N := by
  have : ¬ c = N := fun e => h0 (by rw [← hk, e]; exact hT.2.2.1)
  omega
/-- open, close -/
theorem u_open (hT : TH T N s) (hc : c ≤ N) {k : Int32} {q : Nat} (hk : (T c).1 = k) (h0 : ¬ k = 0) (hq : q < 12) : mjF (d + 3) 134 [.ref 64, .int k] (mjW0 (eR s (c, 0, p, nI q, v, ag))) = some (none, mjW0 (eR s (c + 1, 0, p, nI (q + 1), v, ag))) := by
  have hl := lt_of hT hc hk h0
  rw [e_134]
  unfold f_134 b_134_0
  rw [xg_64_0, xV_58, u_is hT hc, bI_s, i01, if_pos hk, xg_64_9, eR_o]
  rw [if_neg (show ¬ nI q = 12 from fun e => by have := (nI_eq (a := q) (b := 12) (by omega) (by omega)).mp e; omega)]
  rw [xg_64_9, eR_o, nI_1, xp_64_9, wR_o, xg_64_0, xV_58, u_skip hT hl, bN_s]
theorem u_open3 (hT : TH T N s) (hc : c ≤ N) {k : Int32} (hk : (T c).1 = k) (h1 : ¬ k = 1) : mjF (d + 3) 134 [.ref 64, .int k] (mjW0 (eR s (c, 0, p, nI 12, v, ag))) = some (none, mjW0 (eR s (N, nI 3, (T c).2.1, nI 12, v, ag))) := by
  rw [e_134]
  unfold f_134 b_134_0
  rw [xg_64_0, xV_58, u_is hT hc, bI_s, i01, if_pos hk, xg_64_9, eR_o, if_pos (show nI 12 = 12 from rfl), xg_64_0, xV_58, u_ref3 hT hc (by rw [hk]; exact h1), bN_s]
theorem u_open2 (hT : TH T N s) (hc : c ≤ N) {k : Int32} (hk : ¬ (T c).1 = k) : mjF (d + 3) 134 [.ref 64, .int k] (mjW0 (eR s (c, 0, p, o, v, ag))) = some (none, mjW0 (eR s (N, nI (F2 T c).1, (T (F2 T c).2).2.1, o, v, ag))) := by
  rw [e_134]
  unfold f_134 b_134_0
  rw [xg_64_0, xV_58, u_is hT hc, bI_s, i01, if_neg hk, xg_64_0, xV_58, u_ref2 hT hc, bN_s]
theorem u_openN (hT : TH T N s) (hf : ¬ f = 0) {k : Int32} (h0 : ¬ k = 0) : mjF (d + 3) 134 [.ref 64, .int k] (mjW0 (eR s (N, f, p, o, v, ag))) = some (none, mjW0 (eR s (N, f, p, o, v, ag))) := by
  rw [e_134]
  unfold f_134 b_134_0
  rw [xg_64_0, xV_58, u_is hT (Nat.le_refl N), bI_s, i01, if_neg (show ¬ (T N).1 = k from fun e => h0 (e.symm.trans hT.2.2.1)), xg_64_0, xV_58, u_refN hT hf, bN_s]
theorem u_close (hT : TH T N s) (hc : c ≤ N) {k : Int32} {q : Nat} (hk : (T c).1 = k) (h0 : ¬ k = 0) : mjF (d + 3) 138 [.ref 64, .int k] (mjW0 (eR s (c, 0, p, nI (q + 1), v, ag))) = some (none, mjW0 (eR s (c + 1, 0, p, nI q, v, ag))) := by
  rw [e_138]
  unfold f_138 b_138_0
  rw [xg_64_0, xV_58, u_need hT hc hk h0, bN_s, xg_64_9, eR_o, nI_pred, xp_64_9, wR_o]
theorem u_close2 (hT : TH T N s) (hc : c ≤ N) {k : Int32} (hk : ¬ (T c).1 = k) : mjF (d + 3) 138 [.ref 64, .int k] (mjW0 (eR s (c, 0, p, o, v, ag))) = some (none, mjW0 (eR s (N, nI (F2 T c).1, (T (F2 T c).2).2.1, o - 1, v, ag))) := by
  rw [e_138]
  unfold f_138 b_138_0
  rw [xg_64_0, xV_58, u_need2 hT hc hk, bN_s, xg_64_9, eR_o, xp_64_9, wR_o]
theorem u_closeN (hT : TH T N s) (hf : ¬ f = 0) (k : Int32) : mjF (d + 3) 138 [.ref 64, .int k] (mjW0 (eR s (N, f, p, o, v, ag))) = some (none, mjW0 (eR s (N, f, p, o - 1, v, ag))) := by
  rw [e_138]
  unfold f_138 b_138_0
  rw [xg_64_0, xV_58, u_needN hT hf, bN_s, xg_64_9, eR_o, xp_64_9, wR_o]
theorem F2_n0 (T : TT) (c : Nat) : ¬ nI (F2 T c).1 = 0 := by
  rw [F2_1]
  by_cases h : (T c).1 = 1
  · rw [if_pos h]; decide
  · rw [if_neg h]; decide
/-- one owner of a kind -/
theorem u_owner (hT : TH T N s) (hc : c ≤ N) {a : Nat} (ha : a < 5) (hk : (T c).1 = 12 ∨ (T c).1 = 13 ∨ (T c).1 = 3) : mjF (d + 2) 131 [.ref 64, .int (nI a)] (mjW0 (eR s (c, 0, p, o, v, ag))) = some (none, mjW0 (eR s (c + 1, 0, p, o, v, ag))) := by
  have hl : c < N := by
    rcases hk with h | h | h
    · exact lt_of hT hc h (by decide)
    · exact lt_of hT hc h (by decide)
    · exact lt_of hT hc h (by decide)
  have na : ¬ nI a = 5 := fun e => by have := (nI_eq (a := a) (b := 5) (by omega) (by omega)).mp e; omega
  rw [e_131]
  unfold f_131 b_131_0 b_131_46
  simp only [xg_64_0, xV_58, u_is hT hc, bI_s, i01, if_neg na, u_skip hT hl, bN_s]
  by_cases h12 : (T c).1 = 12
  · rw [if_pos h12]
  rw [if_neg h12]
  by_cases h13 : (T c).1 = 13
  · rw [if_pos h13]
  rw [if_neg h13, if_pos ((hk.resolve_left h12).resolve_left h13)]
theorem u_owner3 (hT : TH T N s) (hc : c ≤ N) (hk : (T c).1 = 12 ∨ (T c).1 = 13 ∨ (T c).1 = 3) : mjF (d + 2) 131 [.ref 64, .int 5] (mjW0 (eR s (c, 0, p, o, v, ag))) = some (none, mjW0 (eR s (N, nI 3, (T c).2.1, o, v, ag))) := by
  have h1 : ¬ (T c).1 = 1 := by rcases hk with h | h | h <;> rw [h] <;> decide
  rw [e_131]
  unfold f_131 b_131_0 b_131_46
  simp only [xg_64_0, xV_58, u_is hT hc, bI_s, i01, u_ref3 hT hc h1, bN_s, if_true]
  by_cases h12 : (T c).1 = 12
  · rw [if_pos h12]
  rw [if_neg h12]
  by_cases h13 : (T c).1 = 13
  · rw [if_pos h13]
  rw [if_neg h13, if_pos ((hk.resolve_left h12).resolve_left h13)]
theorem u_owner2 (hT : TH T N s) (hc : c ≤ N) (a : Int32) (hk : ¬ ((T c).1 = 12 ∨ (T c).1 = 13 ∨ (T c).1 = 3)) : mjF (d + 2) 131 [.ref 64, .int a] (mjW0 (eR s (c, 0, p, o, v, ag))) = some (none, mjW0 (eR s (N, nI (F2 T c).1, (T (F2 T c).2).2.1, o, v, ag))) := by
  rw [e_131]
  unfold f_131 b_131_0 b_131_46
  simp only [xg_64_0, xV_58, u_is hT hc, bI_s, i01, u_ref2 hT hc, bN_s]
  rw [if_neg (fun e => hk (Or.inl e)), if_neg (fun e => hk (Or.inr (Or.inl e))), if_neg (fun e => hk (Or.inr (Or.inr e)))]
theorem u_ownerN (hT : TH T N s) (hf : ¬ f = 0) (a : Int32) : mjF (d + 2) 131 [.ref 64, .int a] (mjW0 (eR s (N, f, p, o, v, ag))) = some (none, mjW0 (eR s (N, f, p, o, v, ag))) := by
  rw [e_131]
  unfold f_131 b_131_0 b_131_46
  simp only [xg_64_0, xV_58, u_is hT (Nat.le_refl N), bI_s, i01, u_refN hT hf, bN_s, hT.2.2.1]
  rw [if_neg (by decide), if_neg (by decide), if_neg (by decide)]
end MJ45
