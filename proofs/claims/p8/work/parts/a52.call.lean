/-! ===== the Coder: codeAll ===== -/
/-- what is known of the METHODS ahead of the Coder: by number, is it a METHOD, its EV (places left open), its BLOCK's token and what was read there, its PARAMS -/
def MBm (N q D : Nat) (isM : Nat → Bool) (Em : Nat → EV) (bt kq i0 : Nat → Nat) (zm : Nat → PB) (jm : Nat → JS) (s0 : mjSt3) : Prop := ∀ m, m ≤ 384 → s0.1 (q + 18) m = b2 (isM m) ∧ (isM m = true → (Em m).1 = (Em 384).1 ∧ (Em m).2.1 = (Em 384).2.1 ∧ (Em m).2.2.1 = (Em 384).2.2.1 ∧ s0.1 (q + 16) m = oI (Em m).2.2.2.2.1 ∧ (∀ c, (Em m).2.2.2.2.1 = some c → c < (Em m).2.1.length) ∧ s0.1 (q + 17) m = tyI (Em m).2.2.2.2.2.1 ∧ vT (Em m).2.1 (Em m).2.2.2.2.2.1 ∧ s0.1 70 m = nI (bt m) ∧ bt m ≤ N ∧ VD (jm m) ∧ (∃ fu oo, oo ≤ 12 ∧ prS (Em m).1 (N + 1) fu 0 oo (bt m) (jm m).2.2.2.1 (kq m) (i0 m) = .inr (zm m)) ∧ KT (Em m).2.2.2.1 (kq m) (zm m).2.2.1 ∧ AG s0 (zm m).2.2.2.2 ∧ i0 m + (zm m).2.2.2.1.length ≤ 100000 ∧ kq m + (zm m).2.2.1.length ≤ 100000 ∧ (∀ m', m < m' → m' ≤ 384 → isM m' = true → (zm m).1 ≤ bt m') ∧ (zm m).1 ≤ N ∧ ∀ s c, CB (Em 384).1 N q (Em 384).2.1 (Em 384).2.2.1 s → oC q s0 s → fne s c → c ≤ N → ∃ s5 c5, mjF (D + 1) 5 [.ref 75, .int (nI m)] (mjW0 s) = some (none, mjW0 s5) ∧ VSr (Em 384).1 N (Em 384).2.1 (jm m).2.2.1 (jm m).2.2.2.1 s5 ∧ oSt q s s5 ∧ fne s5 c5 ∧ c5 ≤ N ∧ ∀ h, ¬ h = 58 → ¬ h = 75 → ¬ h = 77 → ¬ h = 78 → s5.1 h = s.1 h)
/-- the METHODS below M have their code -/
def GCm (q : Nat) (isM : Nat → Bool) (Em : Nat → EV) (i0 : Nat → Nat) (zm : Nat → PB) (jm : Nat → JS) (s : mjSt3) (M cs : Nat) : Prop := ∀ m, m < M → isM m = true → ∃ c j' l, jrun (evP (Em m) (psOf (Em m) (i0 m) c (zm m).2.2.2.1 (jm m))) (zm m).2.2.2.1 (jm m) = some (j', l) ∧ s.1 (q + 23) m = nI c ∧ CL q s c (l ++ [(0, 0, -1), (9, 0, -1)]) ∧ c + l.length + 2 ≤ cs
section MJA52
variable {N q D : Nat} {isM : Nat → Bool} {Em : Nat → EV} {bt kq i0 : Nat → Nat} {zm : Nat → PB} {jm : Nat → JS} {s0 : mjSt3}
theorem L4_S (R : mjR) (n a : Nat) (b : Int32) (hp : mjH) : L_4_23 R (n + 1) a b hp = b_4_23 R (L_4_23 R n) a b hp := rfl
theorem n_4l {T : TT} {L : List CD} {tr : Bool} {s : mjSt3} {d n : Nat} (B : BC T N q L tr s) (k : Int32) : L_4_23 (mjF (d + 1)) (n + 1) 75 k (mjW0 s) = some (none, mjW0 s) := by
  rw [L4_S]
  unfold b_4_23
  rw [xg_75_0, xV_58, j_fineB B.2.1, bI_s, if_pos rfl, ite_self]
theorem lq_4 (hD : 136 ≤ D + 1) (H : MBm N q D isM Em bt kq i0 zm jm s0) : ∀ (r m n cs c : Nat) (s : mjSt3), m + r = 385 → r < n → CB (Em 384).1 N q (Em 384).2.1 (Em 384).2.2.1 s → oC q s0 s → fne s c → c ≤ N → s.1 (q + 24) 3 = nI cs → (∀ m', m ≤ m' → m' ≤ 384 → isM m' = true → cs ≤ bt m') → cs ≤ N → GCm q isM Em i0 zm jm s m cs → (∃ s' c' cs', L_4_23 (mjF (D + 1)) n 75 (nI m) (mjW0 s) = some (none, mjW0 s') ∧ CB (Em 384).1 N q (Em 384).2.1 (Em 384).2.2.1 s' ∧ oC q s0 s' ∧ fne s' c' ∧ c' ≤ N ∧ s'.1 (q + 24) 3 = nI cs' ∧ cs' ≤ N ∧ GCm q isM Em i0 zm jm s' 385 cs') ∨ (∃ s' m', L_4_23 (mjF (D + 1)) n 75 (nI m) (mjW0 s) = some (none, mjW0 s') ∧ BC (Em 384).1 N q (Em 384).2.1 (Em 384).2.2.1 s' ∧ oC q s0 s' ∧ m' ≤ 384 ∧ isM m' = true ∧ jrun (Em m') (zm m').2.2.2.1 (jm m') = none)
  | r, m, 0, cs, c, s, e, hr, C, o, f, hc, sz, hb, hcs, G => by omega
  | 0, m, n + 1, cs, c, s, e, hr, C, o, f, hc, sz, hb, hcs, G => by
    refine Or.inl ⟨s, c, cs, ?_, C, o, f, hc, sz, hcs, by rw [show 385 = m by omega]; exact G⟩
    rw [L4_S]
    unfold b_4_23
    rw [show m = 385 by omega, if_pos (by decide)]
  | r + 1, m, n + 1, cs, c, s, e, hr, C, o, f, hc, sz, hb, hcs, G => by
    have hq' : q = 2 ∨ q = 30 := C.pq
    obtain ⟨h18, HM⟩ := H m (by omega)
    have h18' : s.1 (q + 18) m = b2 (isM m) := by rw [o.r (by omega)]; exact h18
    cases im : isM m with
    | false =>
      rw [im] at h18'
      have pre : L_4_23 (mjF (D + 1)) (n + 1) 75 (nI m) (mjW0 s) = L_4_23 (mjF (D + 1)) n 75 (nI (m + 1)) (mjW0 s) := by
        rw [L4_S]
        unfold b_4_23 b_4_142
        rw [if_neg (show ¬ (384 : Int32) < nI m from nI_nlt (a := 384) (by omega) (by omega)), xg_75_0, xV_58, j_fine f, bI_s, if_neg (by decide), xg_75_4, C.2.2.2.2.2.2.1, ymg_4 C.pq, wya_18 C.pq (by omega), h18', if_pos (show b2 false = 0 from rfl), nI_1]
      rw [pre]
      refine lq_4 hD H r (m + 1) n cs c s (by omega) (by omega) C o f hc sz (fun m' a b => hb m' (by omega) b) hcs (fun m' a b => ?_)
      by_cases g : m' = m
      · rw [g, im] at b; cases b
      · exact G m' (by omega) b
    | true =>
      rw [im] at h18'
      obtain ⟨t1, t2, t3, t4, t5, t6, t7, t8, t9, t10, ⟨fu, oo, hoo, t11⟩, t12, t13, t14, t15, t16, t18, t17⟩ := HM im
      obtain ⟨s5, c5, u1, u2, u3, u4, u5, u6⟩ := t17 s c C o f hc
      have zl := prS_lt fu 0 oo _ _ _ _ _ (by omega) t11
      have hT := C.1.1.1
      have hN := hT.2.1
      have bcs := hb m (Nat.le_refl _) (by omega) im
      obtain ⟨E, hE'⟩ : ∃ E : EV, E = evP (Em m) (psOf (Em m) (i0 m) cs (zm m).2.2.2.1 (jm m)) := ⟨_, rfl⟩
      have E1 : E.1 = (Em m).1 := by rw [hE']; rfl
      have E2 : E.2.1 = (Em m).2.1 := by rw [hE']; rfl
      have E3 : E.2.2.1 = (Em m).2.2.1 := by rw [hE']; rfl
      have E4 : E.2.2.2.1 = (Em m).2.2.2.1 := by rw [hE']; rfl
      have E5 : E.2.2.2.2.1 = (Em m).2.2.2.2.1 := by rw [hE']; rfl
      have E6 : E.2.2.2.2.2.1 = (Em m).2.2.2.2.2.1 := by rw [hE']; rfl
      have X := x_4s (E := E) (k23 := L_4_23 (mjF (D + 1)) n) (D := D) (m := m) (j := jm m) (z := zm m) (bt := bt m) (kq := kq m) (i := i0 m) (fu := fu) hoo hD (by rw [E1, E2, E3, t1, t2, t3]; exact C) f sz (by omega) h18' u1 (by rw [E1, E2, t1, t2]; exact u2) u3 u4 u5 u6 (by rw [E5, o.r (by omega)]; exact t4) (by rw [E5, E2]; exact t5) (by rw [E6, o.r (by omega)]; exact t6) (by rw [E2, E6]; exact t7) (by rw [o.r (by omega)]; exact t8) t9 t10 (by rw [E1]; exact t11) (by rw [E4]; exact t12) (by unfold AG; rw [o.r (by omega)]; exact t13) (by rw [hE']; exact PS_of _ _ _) (by omega) t14 t15
      rw [E1, E2, E3, t1, t2, t3] at X
      rcases X with ⟨s', j', l, g1, g2, g3, g4, g5, g6, g7, g8, g9, g10, g11⟩ | ⟨s', g1, g2, g3, g4⟩
      · have pre : L_4_23 (mjF (D + 1)) (n + 1) 75 (nI m) (mjW0 s) = L_4_23 (mjF (D + 1)) n 75 (nI (m + 1)) (mjW0 s') := by rw [L4_S]; exact g1
        rw [pre]
        refine lq_4 hD H r (m + 1) n (cs + l.length + 2) (zm m).1 s' (by omega) (by omega) g3 (o.tr g10) g4 g5 g6 (fun m' a b c => by have := t16 m' (by omega) b c; omega) (by omega) (fun m' a b => ?_)
        by_cases g : m' = m
        · subst g
          refine ⟨cs, j', l, by rw [← hE']; exact g2, by rw [g9, upd_g, if_pos rfl], g7, by omega⟩
        · obtain ⟨c1, j1, l1, k1, k2, k3, k4⟩ := G m' (by omega) b
          refine ⟨c1, j1, l1, k1, by rw [g9, upd_g, if_neg g]; exact k2, k3.keep (g8.mono ?_), by omega⟩
          rw [List.length_append]
          show c1 + (l1.length + 2) ≤ cs
          omega
      · obtain ⟨n', rfl⟩ : ∃ n', n = n' + 1 := ⟨n - 1, by omega⟩
        have pre : L_4_23 (mjF (D + 1)) (n' + 1 + 1) 75 (nI m) (mjW0 s) = some (none, mjW0 s') := by rw [L4_S, g1, n_4l g3]
        refine Or.inr ⟨s', m, pre, g3, o.tr g4, by omega, im, ?_⟩
        have al := jrun_al (E := Em m) (ps := psOf (Em m) (i0 m) cs (zm m).2.2.2.1 (jm m)) (zm m).2.2.2.1 (jm m)
        rw [← hE', g2] at al
        cases h2 : jrun (Em m) (zm m).2.2.2.1 (jm m) with
        | none => rfl
        | some x => rw [h2] at al; exact al.elim
end MJA52
