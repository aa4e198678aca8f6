/-! ===== the reference's judge: all BLOCKS; judgeAll ===== -/
/-- all that judging changes in bank b -/
def chJA (b h j : Nat) : Prop := (h = 97 ∧ (j = 61 ∨ j = 62 ∨ j = 82 ∨ j = 87 ∨ j = 88 ∨ j = 92 ∨ j = 95 ∨ j = 132 ∨ j = 133)) ∨ ((h = 109 ∨ h = 110) ∧ 16 * b ≤ j ∧ j < 16 * b + 16) ∨ ((h = 117 ∨ h = 118) ∧ 128 * b ≤ j ∧ j < 128 * b + 128) ∨ (h = 119 ∧ 784 * b ≤ j ∧ j < 784 * b + 784) ∨ (h = 130 ∧ 400 * b ≤ j ∧ j < 400 * b + 400) ∨ (h = 139 ∧ 800 * b ≤ j ∧ j < 800 * b + 800) ∨ (h = 142 ∧ 800 * b ≤ j / 5 ∧ j / 5 < 800 * b + 800) ∨ (h = 145 ∧ 5000 * b ≤ j ∧ j < 5000 * b + 5000) ∨ (155 ≤ h ∧ h ≤ 157) ∨ (159 ≤ h ∧ h ≤ 163) ∨ h = 165 ∨ h = 166 ∨ h = 183 ∨ (h = 184 ∧ 6400 * b ≤ j ∧ j < 6400 * b + 6400)
def oJA (b : Nat) : mjSt3 → mjSt3 → Prop := offG (chJA b) (fun h _ => h = 158)
section MJB17
variable {T : TT} {N b kb m d : Nat} {t : PT} {rs : List RcM} {z : PB} {tr : Bool} {s s' : mjSt3}
theorem oBA.JA (o : oBA b s s') : oJA b s s' := offG.mono o (fun x y w => by
  rcases w with w | w | w | w | w | w | w | w
  · exact Or.inl (w)
  · exact Or.inr (Or.inr (Or.inr (Or.inr (Or.inr (Or.inr (Or.inr (Or.inl (⟨w.1, w.2.1, w.2.2⟩))))))))
  · exact Or.inr (Or.inr (Or.inr (Or.inr (Or.inr (Or.inr (Or.inr (Or.inr (Or.inl (w)))))))))
  · exact Or.inr (Or.inr (Or.inr (Or.inr (Or.inr (Or.inr (Or.inr (Or.inr (Or.inr (Or.inl (w))))))))))
  · exact Or.inr (Or.inr (Or.inr (Or.inr (Or.inr (Or.inr (Or.inr (Or.inr (Or.inr (Or.inr (Or.inl (w)))))))))))
  · exact Or.inr (Or.inr (Or.inr (Or.inr (Or.inr (Or.inr (Or.inr (Or.inr (Or.inr (Or.inr (Or.inr (Or.inl (w))))))))))))
  · exact Or.inr (Or.inr (Or.inr (Or.inr (Or.inr (Or.inl (w))))))
  · exact Or.inr (Or.inr (Or.inr (Or.inr (Or.inr (Or.inr (Or.inl (w)))))))) (fun _ _ x => x)
theorem oPs.JA (o : oPs b s s') : oJA b s s' := offG.mono o (fun x y w => by
  rcases w with w | w | w | w
  · exact Or.inr (Or.inl (w))
  · exact Or.inr (Or.inr (Or.inr (Or.inr (Or.inl (w)))))
  · exact Or.inr (Or.inr (Or.inr (Or.inr (Or.inr (Or.inr (Or.inr (Or.inr (Or.inr (Or.inr (Or.inr (Or.inr (Or.inl (w)))))))))))))
  · exact Or.inr (Or.inr (Or.inr (Or.inr (Or.inr (Or.inr (Or.inr (Or.inr (Or.inr (Or.inr (Or.inr (Or.inr (Or.inr (w)))))))))))))) (fun _ _ x => x.elim)
theorem oJG.JA (o : oJG b s s') : oJA b s s' := offG.mono o (fun x y w => by
  rcases w with w | w | w | w | w | w | w
  · exact Or.inl (⟨w.1, by have := w.2; omega⟩)
  · exact Or.inr (Or.inr (Or.inl (w)))
  · exact Or.inr (Or.inr (Or.inr (Or.inl (w))))
  · exact Or.inr (Or.inr (Or.inr (Or.inr (Or.inr (Or.inl (w))))))
  · exact Or.inr (Or.inr (Or.inr (Or.inr (Or.inr (Or.inr (Or.inl (w)))))))
  · exact Or.inr (Or.inr (Or.inr (Or.inr (Or.inr (Or.inr (Or.inr (Or.inr (Or.inr (Or.inr (Or.inl (w)))))))))))
  · exact Or.inr (Or.inr (Or.inr (Or.inr (Or.inr (Or.inr (Or.inr (Or.inr (Or.inr (Or.inr (Or.inr (Or.inl (w))))))))))))) (fun _ _ x => x.elim)
theorem L299b_S (R : mjR) (n a : Nat) (w : Int32) (hp : mjH) : L_299_245 R (n + 1) a w hp = b_299_245 R (L_299_245 R n) a w hp := rfl
theorem b299_bad (R : mjR) (B : bR0 s) : b_299_295 R 97 (mjW0 s) = some (none, mjW0 s) := by
  unfold b_299_295
  rw [xg_97_61, if_neg B.ng]
theorem L299_bad (R : mjR) (B : bR0 s) (hb : b ≤ 1) (h63 : s.1 97 63 = nI b) (n : Nat) (w : Int32) : L_299_245 R (n + 1) 97 w (mjW0 s) = some (none, mjW0 s) := by
  rw [L299b_S]
  unfold b_299_245
  rw [xg_97_63, xg_97_31, xg_97_63, h63, wa_120 (by omega), xg_97_61, if_neg B.ng, ite_self]
  exact b299_bad R B
theorem lq_299b (H : HBd T N b t rs kb z tr) : ∀ (r m n : Nat) (s : mjSt3), m + r = nMem t.1 → r + 1 < n → JBI T N b t rs z tr (fun x => x < m) s → gR0 s → ∃ s', L_299_245 (mjF (d + 8)) n 97 (nI (400 * b + m)) (mjW0 s) = some (none, mjW0 s') ∧ oBA b s s' ∧ (((∀ x, m ≤ x → x ≤ 384 → isMT t.1 x = true → ¬ jrun (EvR T b t tr x) (zT rs z x).2.2.2.1 (jmT T t.1 x) = none) ∧ gR0 s' ∧ JBI T N b t rs z tr (fun _ => True) s') ∨ ((∃ x, x ≤ 384 ∧ isMT t.1 x = true ∧ jrun (EvR T b t tr x) (zT rs z x).2.2.2.1 (jmT T t.1 x) = none) ∧ bR0 s'))
  | r, m, 0, s, e, hr, I, g => by omega
  | 0, m, n + 1, s, e, hr, I, g => by
    have hb := H.2.2.2.2.2.2
    have m384 := H.2.2.2.2.1
    have J := I.1.1.1
    have pre : L_299_245 (mjF (d + 8)) (n + 1) 97 (nI (400 * b + m)) (mjW0 s) = bN (mjF (d + 8) 322 [.ref 97, .int (mR b (moM 384))] (mjW0 s)) (fun hp2 => some (none, hp2)) := by
      rw [L299b_S]
      unfold b_299_245
      rw [xg_97_63, xg_97_31, xg_97_63, J.1.2, wa_120 (by omega), J.2.1.2.1, show (400 : Int32) * nI b + nI (nMem t.1) = nI (400 * b + nMem t.1) by rw [show (400 : Int32) = nI 400 from rfl, nI_mul, nI_add], if_pos (nI_le (show 400 * b + nMem t.1 ≤ 400 * b + m by omega) (by omega))]
      unfold b_299_295
      rw [xg_97_61, if_pos (show s.1 97 61 = 0 from g), xV_97]
      rfl
    obtain ⟨s', a1, a2, a3⟩ := x_bd (d := d) (m := 384) (D := fun x => x < m) H (Nat.le_refl _) (isMT_384 _) (show ¬ 384 < m by omega) I g
    refine ⟨s', by rw [pre, a1, bN_s], a2, ?_⟩
    rcases a3 with ⟨h1, h2, h3⟩ | ⟨h1, h2⟩
    · refine Or.inl ⟨fun x hx hx' ix => ?_, h2, h3.cg (fun x ix => ⟨fun _ => trivial, fun _ => ?_⟩)⟩
      · by_cases e' : x = 384
        · rw [e']; exact h1
        · have := (isMT_lt ix e').1
          omega
      · by_cases e' : x = 384
        · exact Or.inr e'
        · have := (isMT_lt ix e').1
          exact Or.inl (by omega)
    · exact Or.inr ⟨⟨384, Nat.le_refl _, isMT_384 _, h1⟩, h2⟩
  | r + 1, m, n + 1, s, e, hr, I, g => by
    have hb := H.2.2.2.2.2.2
    have m384 := H.2.2.2.2.1
    have J := I.1.1.1
    have hm : m < nMem t.1 := by omega
    have pre : L_299_245 (mjF (d + 8)) (n + 1) 97 (nI (400 * b + m)) (mjW0 s) = (if b2 (mSM t.1 m) = (1 : Int32) then bN (mjF (d + 8) 322 [.ref 97, .int (nI (400 * b + m))] (mjW0 s)) (fun hp8 => L_299_245 (mjF (d + 8)) n 97 (nI (400 * b + (m + 1))) hp8) else L_299_245 (mjF (d + 8)) n 97 (nI (400 * b + (m + 1))) (mjW0 s)) := by
      rw [L299b_S]
      unfold b_299_245
      rw [xg_97_63, xg_97_31, xg_97_63, J.1.2, wa_120 (by omega), J.2.1.2.1, show (400 : Int32) * nI b + nI (nMem t.1) = nI (400 * b + nMem t.1) by rw [show (400 : Int32) = nI 400 from rfl, nI_mul, nI_add], if_neg (nI_ge (show 400 * b + m < 400 * b + nMem t.1 by omega) (by omega)), xg_97_61, if_pos (show s.1 97 61 = 0 from g), xg_97_36, wa_125 (by omega), J.sort hm, xV_97]
      unfold b_299_289
      rw [nI_1]
      rfl
    have e384 : ¬ m = 384 := by omega
    cases ms : mSM t.1 m with
    | false =>
      have im : ¬ isMT t.1 m = true := fun h => by
        have := (isMT_lt h e384).2
        rw [ms] at this
        cases this
      obtain ⟨s', a1, a2, a3⟩ := lq_299b H r (m + 1) n s (by omega) (by omega) (I.cg (fun x ix => ⟨fun h => (show x < m + 1 by have h' : x < m := h; omega), fun h => (show x < m by
        have h' : x < m + 1 := h
        by_cases q : x = m
        · rw [q] at ix; exact absurd ix im
        · omega)⟩)) g
      refine ⟨s', ?_, a2, ?_⟩
      · rw [pre, ms, if_neg (show ¬ b2 false = (1 : Int32) by decide)]
        exact a1
      · rcases a3 with ⟨h1, h2⟩ | h
        · refine Or.inl ⟨fun x hx hx' ix => ?_, h2⟩
          by_cases q : x = m
          · rw [q] at ix; exact absurd ix im
          · exact h1 x (by omega) hx' ix
        · exact Or.inr h
    | true =>
      have im : isMT t.1 m = true := by
        unfold isMT
        rw [decide_eq_true hm, ms]
        exact Bool.or_true _
      obtain ⟨s1, a1, a2, a3⟩ := x_bd (d := d) (m := m) (D := fun x => x < m) H (by omega) im (show ¬ m < m by omega) I g
      rw [show moM m = some m from if_neg e384] at a1
      have a1' : mjF (d + 8) 322 [.ref 97, .int (nI (400 * b + m))] (mjW0 s) = some (none, mjW0 s1) := a1
      have pre2 : L_299_245 (mjF (d + 8)) (n + 1) 97 (nI (400 * b + m)) (mjW0 s) = L_299_245 (mjF (d + 8)) n 97 (nI (400 * b + (m + 1))) (mjW0 s1) := by
        rw [pre, ms, if_pos (show b2 true = (1 : Int32) by decide), a1', bN_s]
      rcases a3 with ⟨h1, h2, h3⟩ | ⟨h1, h2⟩
      · obtain ⟨s', b1, b2', b3⟩ := lq_299b H r (m + 1) n s1 (by omega) (by omega) (h3.cg (fun x ix => ⟨fun h => (show x < m + 1 by rcases h with h | h <;> omega), fun h => (show x < m ∨ x = m by have h' : x < m + 1 := h; omega)⟩)) h2
        refine ⟨s', pre2.trans b1, offG.tr a2 b2', ?_⟩
        rcases b3 with ⟨k1, k2⟩ | k
        · refine Or.inl ⟨fun x hx hx' ix => ?_, k2⟩
          by_cases q : x = m
          · rw [q]; exact h1
          · exact k1 x (by omega) hx' ix
        · exact Or.inr k
      · cases n with
        | zero => omega
        | succ n =>
          refine ⟨s1, pre2.trans (L299_bad _ h2 hb (by rw [a2.1 97 63 (by omega)]; exact J.1.2) n _), a2, Or.inr ⟨⟨m, by omega, im, h1⟩, h2⟩⟩
/-- judgeAll -/
theorem x_299 (R : TRc T N (800 * b) t rs kb z) (X : TRx t rs) (O : OSt t.2.2.2.1 (mmD t.1) t.2.2.2.2.2) (hN : N ≤ 3000) (h0 : (T N).1 = 0) (ho : t.2.2.2.1.length < 5000) (J : RJ T N b t.2.2.1 t.1 s) (ht : s.1 97 129 = b2 tr) (g : gR0 s) (OR : ∀ (i : Nat) (r : Row), t.2.2.2.1[i]? = some r → Rw s (5000 * b + i) r) (h123 : s.1 123 b = nI t.2.2.2.2.2) : ∃ s', mjF (d + 9) 299 [.ref 97] (mjW0 s) = some (none, mjW0 s') ∧ oJA b s s' ∧ ((OKz T (800 * b) t rs z tr ∧ gR0 s' ∧ HBd T N b t rs kb z tr ∧ JBI T N b t rs z tr (fun _ => True) s') ∨ (¬ OKz T (800 * b) t rs z tr ∧ bR0 s')) := by
  have hb := J.b1
  have hk0 : 800 * b ≤ 1000 := by omega
  have hmj := mjN_v
  have OD := ORD_of R X rfl hb hN
  have Pi := R.pfi
  have Pm := R.pfm hN hk0 h0
  obtain ⟨s1, a1, o1, G1, i1, q1⟩ := x_299a (d := d + 2) (tr := tr) ⟨J, ht⟩ Pi Pm OD g
  by_cases g1 : gR0 s1
  · have ok := i1.mp g1
    obtain ⟨Ac, S1, V1⟩ := q1 g1
    obtain ⟨s2, c1, o2, P2⟩ := lq_299p (d := d + 6) Ac t.1.length 0 mjN s1 (by omega) (by have := J.len; omega) S1.1 V1 (fun x hx => by omega)
    have r2 : ∀ h, ¬ (h = 109 ∨ h = 110 ∨ h = 130 ∨ h = 183 ∨ h = 184) → s2.1 h = s1.1 h := fun h hh => o2.r hh
    have J2 := o2.J S1.1
    have hh : ∀ m, m < nMem t.1 → hmM t.1 m < t.1.length := fun m hm => (J.mem hm).2
    have S2 : BS T N b t.2.2.1 t.1 tr s2 := by
      refine ⟨⟨J2, ?_, ?_, by rw [r2 97 (by decide)]; exact S1.2.2.2⟩, ⟨fun x hx => (V1.1 x hx).cg2 (r2 126 (by decide)) (r2 133 (by decide)) (r2 138 (by decide)) (r2 139 (by decide)) (r2 142 (by decide)), fun x hx => (V1.2 x hx).cg (r2 105 (by decide)) (r2 138 (by decide)) (r2 139 (by decide)) (r2 142 (by decide))⟩, PLr_of Ac hh P2⟩
      · unfold WIT; rw [r2 119 (by decide)]; exact S1.2.1
      · unfold IRr; rw [r2 117 (by decide), r2 118 (by decide)]; exact S1.2.2.1
    have FXs : FX T N b t.2.2.1 t.1 tr := ⟨Ac, OD, Pm, fun m hm => by
      obtain ⟨c, i, e1, e2, e3⟩ := fm_ex hm
      rw [e3]
      exact (ok.2.2.2.2.1 c e1).2 i e2, h0⟩
    have h6 : ∀ m, m < nMem t.1 → (psM t.1 m).length ≤ 6 := fun m hm => (J.p6 hm).2
    have H : HBd T N b t rs kb z tr := ⟨fun m hm im => BDf_of R X rfl hb hN h6 hm im, fun m m' hm hm' im im' ne => BDx_of R X O rfl hb hN h6 hm hm' im im' ne, FXs, ho, J.n384, J.2.2.2.1, hb⟩
    have rw2 : ∀ (i : Nat) (r : Row), t.2.2.2.1[i]? = some r → Rw s2 (5000 * b + i) r := by
      intro i r hi
      obtain ⟨w1, w2, w3, w4, w5⟩ := OR i r hi
      have q : ∀ h, 143 ≤ h ∧ h ≤ 146 → s2.1 h = s.1 h := fun h hh => (r2 h (by omega)).trans (funext fun y => o1.1 h y (by unfold bkP; omega))
      have q5 : s2.2.1 147 = s.2.1 147 := by rw [o2.l]; exact funext fun y => o1.2.1 147 y (fun e => e)
      exact ⟨by rw [q 143 (by omega)]; exact w1, by rw [q 144 (by omega)]; exact w2, by rw [q 145 (by omega)]; exact w3, by rw [q 146 (by omega)]; exact w4, by rw [q5]; exact w5⟩
    have I2 : JBI T N b t rs z tr (fun x => x < 0) s2 := by
      refine ⟨S2, ?_, fun m hm im => ?_⟩
      · rw [r2 123 (by decide), o1.1 123 b (by unfold bkP; omega)]
        exact h123
      · obtain ⟨_, _, _, f4, _⟩ := H.1 m hm im
        refine ⟨rw2 _ _ f4.ov.1, fun h => absurd h (Nat.not_lt_zero _), fun _ k r hk => rw2 _ _ (f4.ov.2 k r hk)⟩
    have g2 : gR0 s2 := by unfold gR0; rw [r2 97 (by decide)]; exact g1
    obtain ⟨s', b1, b2', b3⟩ := lq_299b (d := d) H (nMem t.1) 0 mjN s2 (by omega) (by have := J.n384; omega) I2 g2
    refine ⟨s', ?_, offG.tr (oJG.JA o1) (offG.tr (oPs.JA o2) (oBA.JA b2')), ?_⟩
    · have a1' : mjF (d + 9) 299 [.ref 97] (mjW0 s) = b_299_208 (mjF (d + 8)) 97 (nI (16 * b)) (nI t.1.length) (mjW0 s1) := a1
      rw [a1']
      unfold b_299_208
      rw [xg_97_61, if_pos (show s1.1 97 61 ≤ 0 by rw [show s1.1 97 61 = 0 from g1]; exact Int32.le_refl _)]
      exact c1.trans b1
    · rcases b3 with ⟨k1, k2, k3⟩ | ⟨⟨x, x1, x2, x3⟩, k2⟩
      · exact Or.inl ⟨⟨ok, fun m hm im => k1 m (Nat.zero_le _) hm im⟩, k2, H, k3⟩
      · exact Or.inr ⟨fun oz => oz.2 x x1 x2 x3, k2⟩
  · have B1 : bR0 s1 := G1.ng g1
    refine ⟨s1, ?_, oJG.JA o1, Or.inr ⟨fun oz => g1 (i1.mpr oz.1), B1⟩⟩
    have a1' : mjF (d + 9) 299 [.ref 97] (mjW0 s) = b_299_208 (mjF (d + 8)) 97 (nI (16 * b)) (nI t.1.length) (mjW0 s1) := a1
    rw [a1']
    unfold b_299_208
    rw [xg_97_61, if_neg B1]
end MJB17
