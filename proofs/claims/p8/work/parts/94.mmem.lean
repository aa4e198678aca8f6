/-! ===== the reference: a MEMBER ===== -/
/-- the MEMBER md lies at M -/
def RM0 (T : TT) (s : mjSt3) (M C : Nat) (md : MD) : Prop := s.1 124 M = nI C ∧ s.1 126 M = md.2.2.2.2.2.2.2 ∧ s.1 127 M = (T md.2.1).2.1 ∧ s.2.1 132 M = (T md.2.1).2.2.1
def RM (T : TT) (s : mjSt3) (M C : Nat) (md : MD) : Prop := RM0 T s M C md ∧ s.1 125 M = (if md.2.2.1 = true then 1 else 0) ∧ RP T s M md.2.2.2.1 ∧ s.1 129 M = (if md.2.2.1 = true then nI md.2.2.2.2.2.2.1 else -1) ∧ s.1 131 M = (if md.2.2.1 = true then nI md.2.2.2.2.2.1 else 0) ∧ md.2.2.2.1.length ≤ 6
def chMm (b M C h j : Nat) : Prop := chS b h j ∨ (h = 97 ∧ j = 66) ∨ (h = 120 ∧ j = b) ∨ (h = 108 ∧ j = C) ∨ (124 ≤ h ∧ h ≤ 131 ∧ j = M) ∨ ((h = 133 ∨ h = 134) ∧ 6 * M ≤ j ∧ j < 6 * M + 6)
def chMmL (b M h j : Nat) : Prop := chEL b h j ∨ (h = 132 ∧ j = M) ∨ (h = 135 ∧ 6 * M ≤ j ∧ j < 6 * M + 6)
def offMm (b M C : Nat) : mjSt3 → mjSt3 → Prop := offG (chMm b M C) (chMmL b M)
section MJ94
variable {tx : Nat → Int32} {n b D k o N M C kk mm : Nat} {s s' : mjSt3} {W : List WF} {os : List Row} {ks : List Nat}
theorem offMm_S (h : offS b s s') : offMm b M C s s' := offG.mono h (fun _ _ q => Or.inl q) (fun _ _ q => Or.inl q)
theorem offMm_E (h : offE b s s') : offMm b M C s s' := offMm_S (offS_of h)
theorem offMm_P (h : offPa b M s s') : offMm b M C s s' := offG.mono h (fun x y q => by
  rcases q with q | q | q
  · exact Or.inl (Or.inl q)
  · unfold chMm; omega
  · unfold chMm; omega) (fun x y q => by
  rcases q with q | q
  · exact Or.inl q
  · unfold chMmL; omega)
theorem RM0.off {T : TT} {md : MD} {A B : Nat → Nat → Prop} (h : RM0 T s M C md) (r : offG A B s s') (h1 : ¬ A 124 M) (h2 : ¬ A 126 M) (h3 : ¬ A 127 M) (h4 : ¬ B 132 M) : RM0 T s' M C md := by
  obtain ⟨p1, p2, p3, p4⟩ := h
  exact ⟨by rw [r.1 _ _ h1, p1], by rw [r.1 _ _ h2, p2], by rw [r.1 _ _ h3, p3], by rw [r.2.1 _ _ h4, p4]⟩
theorem RP.offG {T : TT} {l : List (Nat × Nat × Int32)} {A B : Nat → Nat → Prop} (h : RP T s M l) (r : offG A B s s') (h1 : ¬ A 128 M) (h2 : ∀ j, ¬ A 133 j) (h3 : ∀ j, ¬ A 134 j) (h4 : ∀ j, ¬ B 135 j) : RP T s' M l := by
  refine ⟨?_, fun j p hp => ?_⟩
  · rw [r.1 _ _ h1, h.1]
  · rw [r.1 _ _ (h2 _), r.1 _ _ (h3 _), r.2.1 _ _ (h4 _)]
    exact h.2 j p hp
theorem idx400 {m : Nat} : (400 : Int32) * nI b + nI m = nI (400 * b + m) := by
  rw [show (400 : Int32) = nI 400 from rfl, pk_mul, nI_add]
/-- the rows that a MEMBER's NAME fills -/
def mmS (s : mjSt3) (b M C kk mm : Nat) (nm : Int64) (at' : Int32) : mjSt3 := uI (uI (uI (uI (uL (uI (uI s 120 (upd (s.1 120) b (nI (mm + 1)))) 108 (upd (s.1 108) C (nI (kk + 1)))) 132 (vp_updL (s.2.1 132) M nm)) 127 (upd (s.1 127) M at')) 128 (upd (s.1 128) M 0)) 129 (upd (s.1 129) M (-1))) 131 (upd (s.1 131) M 0)
theorem mmS_off {nm : Int64} {x : Int32} : offMm b M C s (mmS s b M C kk mm nm x) ∧ offG chRow chRowL s (mmS s b M C kk mm nm x) := by
  unfold mmS
  refine ⟨(((((offG.w (by unfold chMm; omega)).tr (offG.w (h := 108) (by unfold chMm; omega))).tr (offG.wl (h := 132) (by unfold chMmL; omega))).tr (offG.w (h := 127) (by unfold chMm; omega))).tr (offG.w (h := 128) (by unfold chMm; omega))).tr ((offG.w (h := 129) (by unfold chMm; omega)).tr (offG.w (h := 131) (by unfold chMm; omega))), (((((offG.w (by unfold chRow; omega)).tr (offG.w (h := 108) (by unfold chRow; omega))).tr (offG.wl (h := 132) (by unfold chRowL; omega))).tr (offG.w (h := 127) (by unfold chRow; omega))).tr (offG.w (h := 128) (by unfold chRow; omega))).tr ((offG.w (h := 129) (by unfold chRow; omega)).tr (offG.w (h := 131) (by unfold chRow; omega)))⟩
theorem mmS_at {nm : Int64} {x : Int32} : (mmS s b M C kk mm nm x).1 120 b = nI (mm + 1) ∧ (mmS s b M C kk mm nm x).1 108 C = nI (kk + 1) ∧ (mmS s b M C kk mm nm x).2.1 132 M = nm ∧ (mmS s b M C kk mm nm x).1 127 M = x ∧ (mmS s b M C kk mm nm x).1 128 M = 0 ∧ (mmS s b M C kk mm nm x).1 129 M = -1 ∧ (mmS s b M C kk mm nm x).1 131 M = 0 ∧ (mmS s b M C kk mm nm x).1 124 = s.1 124 ∧ (mmS s b M C kk mm nm x).1 126 = s.1 126 := by
  unfold mmS
  refine ⟨?_, ?_, ?_, ?_, ?_, ?_, ?_, rfl, rfl⟩
  · simp [uI_g, upd_g, uL_i]
  · simp [uI_g, upd_g, uL_i]
  · show vp_updL _ _ _ _ = _
    exact if_pos rfl
  · simp [uI_g, upd_g, uL_i]
  · simp [uI_g, upd_g, uL_i]
  · simp [uI_g, upd_g, uL_i]
  · simp [uI_g, upd_g, uL_i]
/-- readBody for a METHOD -/
theorem m_meth (h0 : (mTT tx n N).1 = 0) (hN : N ≤ 3000) (hM : M < 800) {l : List (Nat × Nat × Int32)} (hl : l.length ≤ 6) (ho : o ≤ 12) (hk : k ≤ N) (hos : 6 * os.length ≤ 7 * k) (hks : 4 * ks.length ≤ k) (h : MR tx n b s k o W os ks) (p : RP (mTT tx n) s M l) : match prS (mTT tx n) (N + 1) 30 0 o k l.length (800 * b + ks.length) os.length with
    | .inl e => ∃ s' x, b_275_380 (mjF (D + 13)) 97 (nI M) (mjW0 s) = some (none, mjW0 s') ∧ MZ (mTT tx n) b s' e x ∧ x ≤ 4720 ∧ offMm b M C s s'
    | .inr z => bB N k z ∧ ∃ s' W', b_275_380 (mjF (D + 13)) 97 (nI M) (mjW0 s) = some (none, mjW0 s') ∧ MR tx n b s' z.1 o W' (os ++ (z.2.2.2.1 ++ [oOver])) (ks ++ z.2.2.1) ∧ RP (mTT tx n) s' M l ∧ s'.1 129 M = nI os.length ∧ s'.1 131 M = nI z.2.1 ∧ s'.1 125 = s.1 125 ∧ s'.1 120 = s.1 120 ∧ s'.1 108 = s.1 108 ∧ (∀ md, RM0 (mTT tx n) s M C md → RM0 (mTT tx n) s' M C md) ∧ offMm b M C s s' := by
  have hb := h.2.1.1
  obtain ⟨t1, h1⟩ : ∃ t, t = uI s 97 (upd (s.1 97) 66 (nI M)) := ⟨_, rfl⟩
  have k1 : offG chRow chRowL s t1 := by rw [h1]; exact offG.w (by unfold chRow; omega)
  obtain ⟨t2, h2⟩ : ∃ t, t = uI t1 97 (upd (t1.1 97) 67 (nI l.length)) := ⟨_, rfl⟩
  have k2 : offG chRow chRowL t1 t2 := by rw [h2]; exact offG.w (by unfold chRow; omega)
  obtain ⟨t3, h3⟩ : ∃ t, t = uI t2 129 (upd (t2.1 129) M (nI os.length)) := ⟨_, rfl⟩
  have k3 : offG chRow chRowL t2 t3 := by rw [h3]; exact offG.w (by unfold chRow; omega)
  have m1 : offMm b M C s t1 := by rw [h1]; exact offG.w (by unfold chMm; omega)
  have m2 : offMm b M C t1 t2 := by rw [h2]; exact offG.w (by unfold chMm chS; omega)
  have m3 : offMm b M C t2 t3 := by rw [h3]; exact offG.w (by unfold chMm; omega)
  have q1 : ∀ x, ¬ x = 97 → t1.1 x = s.1 x := fun x e => by rw [h1]; exact uI_ne _ _ _ _ e
  have q2 : ∀ x, ¬ x = 97 → t2.1 x = s.1 x := fun x e => by rw [h2, uI_ne _ _ _ _ e, q1 x e]
  have q3 : ∀ x, ¬ x = 97 → ¬ x = 129 → t3.1 x = s.1 x := fun x e e2 => by rw [h3, uI_ne _ _ _ _ e2, q2 x e]
  have l3 : t3.2 = s.2 := by rw [h3, h2, h1]; rfl
  have a1 := h.keep k1
  have a2 := a1.keep k2
  have a3 := a2.keep k3
  have t67 : t3.1 97 67 = nI l.length := by rw [h3, uI_ne _ _ _ _ (by decide), h2, uI_same]; exact if_pos rfl
  have p3 : RP (mTT tx n) t3 M l := by
    unfold RP
    rw [q3 128 (by decide) (by decide), q3 133 (by decide) (by decide), q3 134 (by decide) (by decide), l3]; exact p
  have B := m_body (D := D) h0 hN ho hk hos hks (show l.length ≤ 16 by omega) a3 t67
  have pre : b_275_380 (mjF (D + 13)) 97 (nI M) (mjW0 s) = bN (mjF (D + 13) 279 [.ref 97] (mjW0 t3)) (fun hp11 => gR hp11 97 12 42 (fun v12 => gI hp11 97 12 67 (fun v13 => sI hp11 v12 (nI M) v13 (fun hp14 => some (none, hp14))))) := by
    unfold b_275_380
    rw [xg_97_61, h.2.1.2.1, if_pos (show (0 : Int32) ≤ 0 by decide), xp_97_66, ← h1, xg_97_39, xa_128, if_pos (mj_in_nI hM (by decide)), nI_clamp (by omega), q1 128 (by decide), p.1, xp_97_67, ← h2, xg_97_40, xg_97_33, xg_97_63, a2.2.1.2.2.1, xa_122, if_pos (mj_in_nI (by omega) (by decide)), nI_clamp (by omega), a2.2.2.2.1.1, xs_129, if_pos (mj_in_nI hM (by decide)), nI_clamp (by omega), ← h3, xV_97]
  have m03 : offMm b M C s t3 := m1.tr (m2.tr m3)
  cases hp : prS (mTT tx n) (N + 1) 30 0 o k l.length (800 * b + ks.length) os.length with
  | inl e =>
    rw [hp] at B
    obtain ⟨s4, x, e4, z4, hx, r4⟩ := B
    have k5 : offG chRow chRowL s4 (uI s4 131 (upd (s4.1 131) M (s4.1 97 67))) := offG.w (by unfold chRow; omega)
    refine ⟨_, x, ?_, z4.keep k5, hx, m03.tr ((offMm_S r4).tr (offG.w (by unfold chMm; omega)))⟩
    rw [pre, e4, bN_s, xg_97_42, xg_97_67, xs_131, if_pos (mj_in_nI hM (by decide)), nI_clamp (by omega)]
  | inr z =>
    rw [hp] at B
    obtain ⟨bb, s4, W4, e4, a4, f4, r4⟩ := B
    obtain ⟨t5, h5⟩ : ∃ t, t = uI s4 131 (upd (s4.1 131) M (nI z.2.1)) := ⟨_, rfl⟩
    have k5 : offG chRow chRowL s4 t5 := by rw [h5]; exact offG.w (by unfold chRow; omega)
    have m5 : offMm b M C s4 t5 := by rw [h5]; exact offG.w (by unfold chMm; omega)
    have q4 : ∀ x, 100 ≤ x → x ≤ 120 ∨ (123 ≤ x ∧ x ≤ 135) → s4.1 x = t3.1 x := fun x e e2 => by funext j; exact r4.1 x j (by unfold chS chE; omega)
    have l4 : ∀ x j, x = 132 ∨ x = 135 → s4.2.1 x j = t3.2.1 x j := fun x j e => r4.2.1 x j (by unfold chEL; omega)
    have q5 : ∀ x, ¬ x = 131 → t5.1 x = s4.1 x := fun x e => by rw [h5]; exact uI_ne _ _ _ _ e
    have l5 : t5.2 = s4.2 := by rw [h5]; rfl
    refine ⟨bb, t5, W4, ?_, a4.keep k5, ?_, ?_, ?_, ?_, ?_, ?_, fun md hm => ?_, m03.tr ((offMm_S r4).tr m5)⟩
    · rw [pre, e4, bN_s, xg_97_42, xg_97_67, f4, xs_131, if_pos (mj_in_nI hM (by decide)), nI_clamp (by omega), ← h5]
    · refine ⟨?_, fun j x hx => ?_⟩
      · rw [q5 _ (by decide), q4 128 (by omega) (by omega)]; exact p3.1
      · rw [q5 _ (by decide), q5 _ (by decide), l5, q4 133 (by omega) (by omega), q4 134 (by omega) (by omega), l4 135 _ (by omega)]; exact p3.2 j x hx
    · rw [q5 _ (by decide), q4 129 (by omega) (by omega), h3, uI_same]; exact if_pos rfl
    · rw [h5, uI_same]; exact if_pos rfl
    · rw [q5 _ (by decide), q4 125 (by omega) (by omega), q3 125 (by decide) (by decide)]
    · rw [q5 _ (by decide), q4 120 (by omega) (by omega), q3 120 (by decide) (by decide)]
    · rw [q5 _ (by decide), q4 108 (by omega) (by omega), q3 108 (by decide) (by decide)]
    · unfold RM0 at hm ⊢
      rw [q5 _ (by decide), q5 _ (by decide), q5 _ (by decide), l5, q4 124 (by omega) (by omega), q4 126 (by omega) (by omega), q4 127 (by omega) (by omega), l4 132 _ (by omega), q3 124 (by decide) (by decide), q3 126 (by decide) (by decide), q3 127 (by decide) (by decide), l3]
      exact hm
end MJ94
