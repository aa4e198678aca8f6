/-! ===== the reference judges the orders of a BLOCK ===== -/
def oJw (b i en lo hi : Nat) : mjSt3 → mjSt3 → Prop := offG (fun h j => (h = 97 ∧ (j = 61 ∨ j = 62 ∨ j = 82 ∨ j = 87 ∨ j = 88 ∨ j = 92 ∨ j = 95)) ∨ (h = 145 ∧ 5000 * b + i ≤ j ∧ j < 5000 * b + en) ∨ (155 ≤ h ∧ h ≤ 157) ∨ (159 ≤ h ∧ h ≤ 163) ∨ h = 165 ∨ h = 166 ∨ (h = 139 ∧ lo ≤ j ∧ j < hi) ∨ (h = 142 ∧ lo ≤ j / 5 ∧ j / 5 < hi)) (fun h _ => h = 158)
/-- orders from i on, judged -/
def JDG (E : EV) (b : Nat) (s : mjSt3) (i : Nat) (os : List Row) (j : JS) : Prop := ∀ (k : Nat) (r : Row), os[k]? = some r → ∀ j1 l1, jrun E (os.take k) j = some (j1, l1) → Rw s (5000 * b + (i + k)) (r.1, r.2.1, nA E r j1, r.2.2.2.1, r.2.2.2.2) ∧ (r.1 = 7 ∨ r.1 = 14 → ∀ kk, kdE E r.2.2.1 = some kk → TKr E.2.1 b s r.2.2.1 (kk + 2))
section MJB09
variable {d N b kq i en lo hi : Nat} {ks zk : List Nat} {L : List CD} {s s' : mjSt3} {E : EV} {j : JS} {x : WS} {mm : Option Nat}
theorem hx_mono (r : Row) (x : HS) : x.1 ≤ (hxE r x).1 := by
  unfold hxE
  by_cases h1 : r.1 = 3 ∨ r.1 = 4 ∨ r.1 = 5 ∨ r.1 = 6
  · rw [if_pos h1]; exact Nat.le_refl _
  rw [if_neg h1]
  by_cases h2 : r.1 = 7
  · rw [if_pos h2]; exact Nat.le_succ _
  rw [if_neg h2]
  by_cases h3 : r.1 = 9
  · rw [if_pos h3]; exact Nat.le_refl _
  rw [if_neg h3]
  by_cases h4 : r.1 = 14
  · rw [if_pos h4]; exact Nat.le_succ _
  rw [if_neg h4]
  by_cases h5 : r.1 = 11
  · rw [if_pos h5]; exact Nat.le_refl _
  rw [if_neg h5]
  by_cases h6 : r.1 = 12
  · rw [if_pos h6]; exact Nat.le_refl _
  rw [if_neg h6]
  by_cases h7 : r.1 = 13
  · rw [if_pos h7]; exact Nat.le_refl _
  rw [if_neg h7]
  exact Nat.le_refl _
theorem nxW_mono (r : Row) (i : Nat) (x : WS) : x.1.1 ≤ (nxW r i x).1.1 ∧ (nxW r i x).2.2.2.2 ≤ x.2.2.2.2 + 1 ∧ ((nxW r i x).2.2.1 = i ∨ (nxW r i x).2.2.1 = x.2.2.1) := by
  unfold nxW
  by_cases h1 : r.1 = 15
  · rw [if_pos h1]; exact ⟨Nat.le_refl _, Nat.le_succ _, Or.inl rfl⟩
  rw [if_neg h1]
  by_cases h2 : r.1 = 16
  · rw [if_pos h2]; exact ⟨Nat.le_refl _, Nat.le_succ _, Or.inl rfl⟩
  rw [if_neg h2]
  by_cases h3 : r.1 = 17
  · rw [if_pos h3]; exact ⟨Nat.le_refl _, Nat.le_succ _, Or.inr rfl⟩
  rw [if_neg h3]
  by_cases h4 : r.1 = 18
  · rw [if_pos h4]; exact ⟨Nat.le_refl _, Nat.le_succ _, Or.inr rfl⟩
  rw [if_neg h4]
  by_cases h5 : r.1 = 19
  · rw [if_pos h5]
    refine ⟨?_, Nat.le_succ _, Or.inr rfl⟩
    by_cases q : r.2.2.1 = -1
    · rw [if_pos q]; exact Nat.le_refl _
    · rw [if_neg q]; exact Nat.le_succ _
  rw [if_neg h5]
  by_cases h6 : r.1 = 20
  · rw [if_pos h6]; exact ⟨Nat.le_refl _, Nat.le_succ _, Or.inr rfl⟩
  rw [if_neg h6]
  by_cases h7 : r.1 = 21 ∨ r.1 = 24 ∨ r.1 = 28 ∨ r.1 = 25
  · rw [if_pos h7]; exact ⟨Nat.le_refl _, Nat.le_succ _, Or.inr rfl⟩
  rw [if_neg h7]
  by_cases h8 : r.1 = 1 ∨ r.1 = 2 ∨ r.1 = 22 ∨ r.1 = 23
  · rw [if_pos h8]; exact ⟨Nat.le_refl _, Nat.le_succ _, Or.inr rfl⟩
  rw [if_neg h8]
  by_cases h9 : r.1 = 26
  · rw [if_pos h9]; exact ⟨Nat.le_refl _, Nat.le_refl _, Or.inr rfl⟩
  rw [if_neg h9]
  by_cases h10 : r.1 = 27
  · rw [if_pos h10]; exact ⟨Nat.le_refl _, Nat.le_trans (Nat.sub_le _ _) (Nat.le_succ _), Or.inr rfl⟩
  rw [if_neg h10]
  exact ⟨hx_mono r x.1, Nat.le_succ _, Or.inr rfl⟩
theorem fdW_mono : ∀ (l : List Row) (i : Nat) (x : WS), x.1.1 ≤ (fdW l i x).1.1
  | [], _, _ => Nat.le_refl _
  | r :: l, i, x => Nat.le_trans (nxW_mono r i x).1 (fdW_mono l (i + 1) (nxW r i x))
theorem okW_28 {r : Row} (ok : okW r x) (h : r.1 = 28) : ¬ r.2.2.1 = 0 := by
  rcases ok with ok | ⟨hr, _⟩ | ⟨hr, _⟩ | ⟨hr, _⟩ | ⟨hr, _⟩ | ⟨hr, _⟩ | ⟨_, h28, _⟩ | hr | ⟨hr, _⟩ | ⟨hr, _⟩
  · rcases ok.1 with hr | hr | hr | hr | hr | hr | hr | hr | hr | hr | hr | hr | hr <;> exact absurd (hr.symm.trans h) (by decide)
  · exact absurd (hr.symm.trans h) (by decide)
  · exact absurd (hr.symm.trans h) (by decide)
  · rcases hr with hr | hr <;> exact absurd (hr.1.symm.trans h) (by decide)
  · exact absurd (hr.symm.trans h) (by decide)
  · exact absurd (hr.symm.trans h) (by decide)
  · exact h28 h
  · rcases hr with hr | hr | hr | hr <;> exact absurd (hr.symm.trans h) (by decide)
  · exact absurd (hr.symm.trans h) (by decide)
  · exact absurd (hr.symm.trans h) (by decide)
theorem oJd.W (o : oJd (5000 * b + i) lo hi s s') (h : i < en) : oJw b i en lo hi s s' := offG.mono o (fun x y z => by
  rcases z with z | z | z
  · exact Or.inl z
  · exact Or.inr (Or.inl ⟨z.1, by omega, by omega⟩)
  · exact Or.inr (Or.inr z)) (fun _ _ x => x)
theorem oJw.mono {i' lo' : Nat} (o : oJw b i' en lo' hi s s') (h : i ≤ i') (h2 : lo ≤ lo') : oJw b i en lo hi s s' := offG.mono o (fun x y z => by
  rcases z with z | z | z | z | z | z | z | z
  · exact Or.inl z
  · exact Or.inr (Or.inl ⟨z.1, by omega, z.2.2⟩)
  · exact Or.inr (Or.inr (Or.inl z))
  · exact Or.inr (Or.inr (Or.inr (Or.inl z)))
  · exact Or.inr (Or.inr (Or.inr (Or.inr (Or.inl z))))
  · exact Or.inr (Or.inr (Or.inr (Or.inr (Or.inr (Or.inl z)))))
  · exact Or.inr (Or.inr (Or.inr (Or.inr (Or.inr (Or.inr (Or.inl ⟨z.1, Nat.le_trans h2 z.2.1, z.2.2⟩))))))
  · exact Or.inr (Or.inr (Or.inr (Or.inr (Or.inr (Or.inr (Or.inr (⟨z.1, Nat.le_trans h2 z.2.1, z.2.2⟩)))))))) (fun _ _ x => x)
theorem TKr.keepW {ti : Int32} {ty i' : Nat} {T : TT} (hn : HN T N L) (K : TKr L b s ti ty) (o : oJw b i' en lo hi s s') (h : ∀ k, k < 1600 → ti = nI k → ¬ (lo ≤ k ∧ k < hi)) : TKr L b s' ti ty := by
  match ty, K with
  | 0, K => exact K
  | 1, K => exact K.elim
  | kk + 2, ⟨v, k, k1, k2, k3, k4, k5⟩ =>
    have n5 := (vK.n5 hn (v.cl hn)).2
    have out := h k k1 k2
    refine ⟨v, k, k1, k2, ?_, ?_, fun a ha => ?_⟩
    · rw [o.1 138 k (by omega)]; exact k3
    · rw [o.1 139 k (by omega)]; exact k4
    · rw [o.1 142 (5 * k + a) (by omega)]; exact k5 a ha
theorem L322_S (R : mjR) (n a : Nat) (b : Int32) (hp : mjH) : L_322_158 R (n + 1) a b hp = b_322_158 R (L_322_158 R n) a b hp := rfl
theorem lq_322 (F : FX E.1 N b ks E.2.1 E.2.2.1) (B : BK E.1 N b ks E.2.1 lo hi kq zk) (hkt : E.2.2.2.1 = ktL (800 * b) ks) (hlen : kq + zk.length ≤ 100000) (en5 : en < 5000) : ∀ (os : List Row) (i n : Nat) (s : mjSt3) (j : JS) (x : WS), i + os.length = en → os.length + 1 < n → BS E.1 N b ks E.2.1 E.2.2.1 s → gR0 s → NW E b mm s → BR E.2.1 b s j x (kq + zk.length) → (∀ (k : Nat) (r : Row), os[k]? = some r → Rw s (5000 * b + (i + k)) r) → (s.1 143 (5000 * b + en) = 28 ∧ s.1 145 (5000 * b + en) = 0) → sdW os i x → (fdW os i x).1.1 ≤ kq + zk.length → kq ≤ x.1.1 → (x.2.2.1 < i ∨ x.2.2.1 = en) → j.2.2.2.2.1 + os.length ≤ 30000 → ∃ s', L_322_158 (mjF (d + 7)) n 97 (nI (5000 * b + i)) (mjW0 s) = some (none, mjW0 s') ∧ oJw b i en x.1.1 (kq + zk.length) s s' ∧ match jrun E os j with
    | none => bR0 s'
    | some _ => gR0 s' ∧ BS E.1 N b ks E.2.1 E.2.2.1 s' ∧ JDG E b s' i os j
  | os, i, 0, s, j, x, e, hn, S, g, W, R, rows, last, sc, fd, hX, lx, dp => by omega
  | [], i, n + 1, s, j, x, e, hn, S, g, W, R, rows, last, sc, fd, hX, lx, dp => by
    have hb := S.1.1.b1
    have ei : i = en := e
    refine ⟨s, ?_, offG.rf, g, S, fun k r hk => by cases hk⟩
    rw [L322_S]
    unfold b_322_158
    rw [xg_97_61, if_pos (show s.1 97 61 = 0 from g), xg_97_54, wa_143 (by omega), ei, last.1, if_pos rfl, xg_97_56, wa_145 (by omega), last.2, if_pos rfl]
  | r :: os, i, n + 1, s, j, x, e, hn, S, g, W, R, rows, last, sc, fd, hX, lx, dp => by
    have hb := S.1.1.b1
    have hN := S.1.1.2.2.2.2.2.1
    have el : i + (os.length + 1) = en := e
    have dl : j.2.2.2.2.1 + (os.length + 1) ≤ 30000 := dp
    have hn' : os.length + 1 + 1 < n + 1 := hn
    have row : Rw s (5000 * b + i) r := rows 0 r rfl
    have mono := nxW_mono r i x
    have fm := fdW_mono os (i + 1) (nxW r i x)
    have fd' : (fdW os (i + 1) (nxW r i x)).1.1 ≤ kq + zk.length := fd
    obtain ⟨s1, a1, a2, a3⟩ := j_all (d := d) F B hkt S g W R row (by omega) sc.1 hX (by omega) hlen (by omega) (by omega) (by omega)
    have o1 : oJw b i en x.1.1 (kq + zk.length) s s1 := oJd.W a2 (by omega)
    have pre : L_322_158 (mjF (d + 7)) (n + 1) 97 (nI (5000 * b + i)) (mjW0 s) = L_322_158 (mjF (d + 7)) n 97 (nI (5000 * b + (i + 1))) (mjW0 s1) := by
      have nx : b_322_185 (mjF (d + 7)) (L_322_158 (mjF (d + 7)) n) 97 (nI (5000 * b + i)) (mjW0 s) = L_322_158 (mjF (d + 7)) n 97 (nI (5000 * b + (i + 1))) (mjW0 s1) := by
        unfold b_322_185
        rw [xV_97, a1, bN_s, nI_1]
        rfl
      rw [L322_S]
      unfold b_322_158
      rw [xg_97_61, if_pos (show s.1 97 61 = 0 from g), xg_97_54, wa_143 (by omega), row.1, xg_97_56, wa_145 (by omega), row.2.2.1, nx]
      by_cases q : r.1 = 28
      · rw [if_pos q, if_neg (okW_28 sc.1 q)]
      · rw [if_neg q]
    cases hj : jrow E r j with
    | none =>
      rw [hj] at a3
      refine ⟨s1, ?_, o1, ?_⟩
      · rw [pre]
        cases n with
        | zero => omega
        | succ n =>
          rw [L322_S]
          unfold b_322_158
          rw [xg_97_61, if_neg a3.ng]
      · have : jrun E (r :: os) j = none := by
          show (match jrow E r j with
            | none => none
            | some (j1, c1) => match jrun E os j1 with
              | none => none
              | some (j2, c2) => some (j2, c1 ++ c2)) = none
          rw [hj]
        rw [this]
        exact a3
    | some y =>
      obtain ⟨j1, c1⟩ := y
      rw [hj] at a3
      obtain ⟨g1, S1, R1, A1, K1⟩ := a3
      have keep : ∀ k, ¬ k = 5000 * b + i → s1.1 143 k = s.1 143 k ∧ s1.1 144 k = s.1 144 k ∧ s1.1 145 k = s.1 145 k ∧ s1.1 146 k = s.1 146 k ∧ s1.2.1 147 k = s.2.1 147 k := fun k hk => ⟨a2.1 143 k (by omega), a2.1 144 k (by omega), a2.1 145 k (by omega), a2.1 146 k (by omega), a2.2.1 147 k (show ¬ (147 : Nat) = 158 by decide)⟩
      have W1 : NW E b mm s1 := ⟨by rw [a2.1 97 132 (by omega)]; exact W.1, by rw [a2.1 97 133 (by omega)]; exact W.2.1, W.2.2⟩
      have dd : j1.2.2.2.2.1 ≤ j.2.2.2.2.1 + 1 := by
        have e1 := R1.2.2.2.1.2
        have e2 := R.2.2.2.1.2
        omega
      obtain ⟨s', b1, b2', b3⟩ := lq_322 F B hkt hlen en5 os (i + 1) n s1 j1 (nxW r i x) (by omega) (by omega) S1 g1 W1 R1 (fun k r' hk => by
        have := rows (k + 1) r' hk
        rw [show i + (k + 1) = i + 1 + k by omega] at this
        obtain ⟨k1, k2, k3, k4, k5⟩ := keep (5000 * b + (i + 1 + k)) (by omega)
        exact ⟨by rw [k1]; exact this.1, by rw [k2]; exact this.2.1, by rw [k3]; exact this.2.2.1, by rw [k4]; exact this.2.2.2.1, by rw [k5]; exact this.2.2.2.2⟩) (by
        obtain ⟨k1, _, k3, _⟩ := keep (5000 * b + en) (by omega)
        exact ⟨by rw [k1]; exact last.1, by rw [k3]; exact last.2⟩) sc.2 fd' (by omega) (by omega) (by omega)
      refine ⟨s', pre.trans b1, offG.tr o1 (oJw.mono b2' (by omega) mono.1), ?_⟩
      have ejr : jrun E (r :: os) j = match jrun E os j1 with
          | none => none
          | some (j2, c2) => some (j2, c1 ++ c2) := by
        show (match jrow E r j with
          | none => none
          | some (j1, c1) => match jrun E os j1 with
            | none => none
            | some (j2, c2) => some (j2, c1 ++ c2)) = _
        rw [hj]
      rw [ejr]
      cases hjr : jrun E os j1 with
      | none =>
        rw [hjr] at b3
        exact b3
      | some y2 =>
        obtain ⟨j2, c2⟩ := y2
        rw [hjr] at b3
        obtain ⟨g2, S2, D2⟩ := b3
        refine ⟨g2, S2, fun k r' hk => ?_⟩
        cases k with
        | zero =>
          intro j3 l3 hj3
          have er : r' = r := by
            have : some r = some r' := hk
            exact (Option.some.inj this).symm
          have ej : j3 = j := by
            have : some (j, ([] : List Ins)) = some (j3, l3) := hj3
            have := Option.some.inj this
            rw [Prod.mk.injEq] at this
            exact this.1.symm
          rw [er, ej]
          refine ⟨⟨?_, ?_, ?_, ?_, ?_⟩, fun h kk hkk => ?_⟩
          · rw [b2'.1 143 _ (by omega), a2.1 143 _ (by omega)]; exact row.1
          · rw [b2'.1 144 _ (by omega), a2.1 144 _ (by omega)]; exact row.2.1
          · rw [b2'.1 145 _ (by omega)]; exact A1
          · rw [b2'.1 146 _ (by omega), a2.1 146 _ (by omega)]; exact row.2.2.2.1
          · rw [b2'.2.1 147 _ (show ¬ (147 : Nat) = 158 by decide), a2.2.1 147 _ (show ¬ (147 : Nat) = 158 by decide)]; exact row.2.2.2.2
          · have hE : isE r := by rcases h with h | h <;> (unfold isE; rw [h]; decide)
            have okE : okEr 60 20 120 r x.1 := by
              rcases sc.1 with ok | ⟨hr, _⟩ | ⟨hr, _⟩ | ⟨hr, _⟩ | ⟨hr, _⟩ | ⟨hr, _⟩ | ⟨hr, _⟩ | hr | ⟨hr, _⟩ | ⟨hr, _⟩
              · exact ok
              · rcases h with h | h <;> exact absurd (hr.symm.trans h) (by decide)
              · rcases h with h | h <;> exact absurd (hr.symm.trans h) (by decide)
              · rcases h with h | h <;> rcases hr with hr | hr <;> exact absurd (hr.1.symm.trans h) (by decide)
              · rcases h with h | h <;> exact absurd (hr.symm.trans h) (by decide)
              · rcases h with h | h <;> exact absurd (hr.symm.trans h) (by decide)
              · rcases h with h | h <;> rcases hr with hr | hr | hr | hr <;> exact absurd (hr.symm.trans h) (by decide)
              · rcases h with h | h <;> rcases hr with hr | hr | hr | hr <;> exact absurd (hr.symm.trans h) (by decide)
              · rcases h with h | h <;> exact absurd (hr.symm.trans h) (by decide)
              · rcases h with h | h <;> exact absurd (hr.symm.trans h) (by decide)
            have ha := okE.2.1 h
            have X1 : (nxW r i x).1.1 = x.1.1 + 1 := by
              rw [nxW_E hE]
              show (hxE r x.1).1 = x.1.1 + 1
              rcases h with h | h
              · unfold hxE
                rw [h, if_neg (by decide), if_pos rfl]
              · rw [hx_14 h]
            refine TKr.keepW hN (K1 h kk hkk) b2' (fun k hk e => ?_)
            rw [ha] at e
            have := (nI_eq (by omega) (by omega)).mp e
            omega
        | succ k =>
          intro j3 l3 hj3
          have hj4 : (match jrow E r j with
            | none => none
            | some (j1, c1) => match jrun E (os.take k) j1 with
              | none => none
              | some (j2, c2) => some (j2, c1 ++ c2)) = some (j3, l3) := hj3
          rw [hj] at hj4
          dsimp only at hj4
          cases hq : jrun E (os.take k) j1 with
          | none => rw [hq] at hj4; cases hj4
          | some y3 =>
            obtain ⟨j5, l5⟩ := y3
            rw [hq] at hj4
            have e5 : j5 = j3 := by
              have := Option.some.inj hj4
              rw [Prod.mk.injEq] at this
              exact this.1
            rw [e5] at hq
            have := D2 k r' hk j3 l5 hq
            rw [show i + (k + 1) = i + 1 + k by omega]
            exact this
end MJB09
