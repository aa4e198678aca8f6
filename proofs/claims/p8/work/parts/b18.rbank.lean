/-! ===== the reference's banks: what was judged stands in one bank ===== -/
def inB (b h j : Nat) : Prop := ((h = 100 ∨ (120 ≤ h ∧ h ≤ 123)) ∧ j = b) ∨ (102 ≤ h ∧ h ≤ 110 ∧ 16 * b ≤ j ∧ j < 16 * b + 16) ∨ (h = 112 ∧ 80 * b ≤ j ∧ j < 80 * b + 80) ∨ (115 ≤ h ∧ h ≤ 118 ∧ 128 * b ≤ j ∧ j < 128 * b + 128) ∨ (h = 119 ∧ 784 * b ≤ j ∧ j < 784 * b + 784) ∨ (124 ≤ h ∧ h ≤ 131 ∧ 400 * b ≤ j ∧ j < 400 * b + 400) ∨ ((h = 133 ∨ h = 134) ∧ 2400 * b ≤ j ∧ j < 2400 * b + 2400) ∨ (137 ≤ h ∧ h ≤ 139 ∧ 800 * b ≤ j ∧ j < 800 * b + 800) ∨ ((h = 141 ∨ h = 142) ∧ 4000 * b ≤ j ∧ j < 4000 * b + 4000) ∨ (143 ≤ h ∧ h ≤ 146 ∧ 5000 * b ≤ j ∧ j < 5000 * b + 5000) ∨ (h = 184 ∧ 6400 * b ≤ j ∧ j < 6400 * b + 6400)
def inBL (b h j : Nat) : Prop := (h = 101 ∧ 16 * b ≤ j ∧ j < 16 * b + 16) ∨ (h = 111 ∧ 80 * b ≤ j ∧ j < 80 * b + 80) ∨ ((h = 113 ∨ h = 114) ∧ 128 * b ≤ j ∧ j < 128 * b + 128) ∨ (h = 132 ∧ 400 * b ≤ j ∧ j < 400 * b + 400) ∨ (h = 135 ∧ 2400 * b ≤ j ∧ j < 2400 * b + 2400) ∨ (h = 136 ∧ 800 * b ≤ j ∧ j < 800 * b + 800) ∨ (h = 140 ∧ 4000 * b ≤ j ∧ j < 4000 * b + 4000) ∨ (h = 147 ∧ 5000 * b ≤ j ∧ j < 5000 * b + 5000)
/-- bank b is the same, and so is what the judge was told -/
def SBq (b : Nat) (s s' : mjSt3) : Prop := (s'.1 97 63 = s.1 97 63 ∧ s'.1 97 129 = s.1 97 129) ∧ (∀ h j, inB b h j → s'.1 h j = s.1 h j) ∧ ∀ h j, inBL b h j → s'.2.1 h j = s.2.1 h j
theorem inB.i0 {b h : Nat} (h1 : h = 100 ∨ (120 ≤ h ∧ h ≤ 123)) : inB b h b := Or.inl ⟨h1, rfl⟩
theorem inB.i1 {b h j : Nat} (h1 : 102 ≤ h ∧ h ≤ 110) (h2 : 16 * b ≤ j) (h3 : j < 16 * b + 16) : inB b h j := Or.inr (Or.inl (⟨h1.1, h1.2, h2, h3⟩))
theorem inB.i2 {b h j : Nat} (h1 : h = 112) (h2 : 80 * b ≤ j) (h3 : j < 80 * b + 80) : inB b h j := Or.inr (Or.inr (Or.inl (⟨h1, h2, h3⟩)))
theorem inB.i3 {b h j : Nat} (h1 : 115 ≤ h ∧ h ≤ 118) (h2 : 128 * b ≤ j) (h3 : j < 128 * b + 128) : inB b h j := Or.inr (Or.inr (Or.inr (Or.inl (⟨h1.1, h1.2, h2, h3⟩))))
theorem inB.i4 {b h j : Nat} (h1 : h = 119) (h2 : 784 * b ≤ j) (h3 : j < 784 * b + 784) : inB b h j := Or.inr (Or.inr (Or.inr (Or.inr (Or.inl (⟨h1, h2, h3⟩)))))
theorem inB.i5 {b h j : Nat} (h1 : 124 ≤ h ∧ h ≤ 131) (h2 : 400 * b ≤ j) (h3 : j < 400 * b + 400) : inB b h j := Or.inr (Or.inr (Or.inr (Or.inr (Or.inr (Or.inl (⟨h1.1, h1.2, h2, h3⟩))))))
theorem inB.i6 {b h j : Nat} (h1 : h = 133 ∨ h = 134) (h2 : 2400 * b ≤ j) (h3 : j < 2400 * b + 2400) : inB b h j := Or.inr (Or.inr (Or.inr (Or.inr (Or.inr (Or.inr (Or.inl (⟨h1, h2, h3⟩)))))))
theorem inB.i7 {b h j : Nat} (h1 : 137 ≤ h ∧ h ≤ 139) (h2 : 800 * b ≤ j) (h3 : j < 800 * b + 800) : inB b h j := Or.inr (Or.inr (Or.inr (Or.inr (Or.inr (Or.inr (Or.inr (Or.inl (⟨h1.1, h1.2, h2, h3⟩))))))))
theorem inB.i8 {b h j : Nat} (h1 : h = 141 ∨ h = 142) (h2 : 4000 * b ≤ j) (h3 : j < 4000 * b + 4000) : inB b h j := Or.inr (Or.inr (Or.inr (Or.inr (Or.inr (Or.inr (Or.inr (Or.inr (Or.inl (⟨h1, h2, h3⟩)))))))))
theorem inB.i9 {b h j : Nat} (h1 : 143 ≤ h ∧ h ≤ 146) (h2 : 5000 * b ≤ j) (h3 : j < 5000 * b + 5000) : inB b h j := Or.inr (Or.inr (Or.inr (Or.inr (Or.inr (Or.inr (Or.inr (Or.inr (Or.inr (Or.inl (⟨h1.1, h1.2, h2, h3⟩))))))))))
theorem inB.i10 {b h j : Nat} (h1 : h = 184) (h2 : 6400 * b ≤ j) (h3 : j < 6400 * b + 6400) : inB b h j := Or.inr (Or.inr (Or.inr (Or.inr (Or.inr (Or.inr (Or.inr (Or.inr (Or.inr (Or.inr (⟨h1, h2, h3⟩))))))))))
theorem inBL.i0 {b h j : Nat} (h1 : h = 101) (h2 : 16 * b ≤ j) (h3 : j < 16 * b + 16) : inBL b h j := Or.inl (⟨h1, h2, h3⟩)
theorem inBL.i1 {b h j : Nat} (h1 : h = 111) (h2 : 80 * b ≤ j) (h3 : j < 80 * b + 80) : inBL b h j := Or.inr (Or.inl (⟨h1, h2, h3⟩))
theorem inBL.i2 {b h j : Nat} (h1 : h = 113 ∨ h = 114) (h2 : 128 * b ≤ j) (h3 : j < 128 * b + 128) : inBL b h j := Or.inr (Or.inr (Or.inl (⟨h1, h2, h3⟩)))
theorem inBL.i3 {b h j : Nat} (h1 : h = 132) (h2 : 400 * b ≤ j) (h3 : j < 400 * b + 400) : inBL b h j := Or.inr (Or.inr (Or.inr (Or.inl (⟨h1, h2, h3⟩))))
theorem inBL.i4 {b h j : Nat} (h1 : h = 135) (h2 : 2400 * b ≤ j) (h3 : j < 2400 * b + 2400) : inBL b h j := Or.inr (Or.inr (Or.inr (Or.inr (Or.inl (⟨h1, h2, h3⟩)))))
theorem inBL.i5 {b h j : Nat} (h1 : h = 136) (h2 : 800 * b ≤ j) (h3 : j < 800 * b + 800) : inBL b h j := Or.inr (Or.inr (Or.inr (Or.inr (Or.inr (Or.inl (⟨h1, h2, h3⟩))))))
theorem inBL.i6 {b h j : Nat} (h1 : h = 140) (h2 : 4000 * b ≤ j) (h3 : j < 4000 * b + 4000) : inBL b h j := Or.inr (Or.inr (Or.inr (Or.inr (Or.inr (Or.inr (Or.inl (⟨h1, h2, h3⟩)))))))
theorem inBL.i7 {b h j : Nat} (h1 : h = 147) (h2 : 5000 * b ≤ j) (h3 : j < 5000 * b + 5000) : inBL b h j := Or.inr (Or.inr (Or.inr (Or.inr (Or.inr (Or.inr (Or.inr (⟨h1, h2, h3⟩)))))))
section MJB18
variable {T : TT} {N b kb m c k : Nat} {t : PT} {ks : List Nat} {L : List CD} {rs : List RcM} {z : PB} {tr : Bool} {s s' : mjSt3} {D : Nat → Prop} {ti : Int32} {ty : Nat}
theorem TyI.bk2 {u : Nat} (h : TyI T b ks u ti) (l : ks.length ≤ 750) (hb : b ≤ 1) : ∀ k, k < 1600 → ti = nI k → 800 * b ≤ k ∧ k < 800 * b + 800 := by
  intro k hk e
  rcases h with ⟨_, h⟩ | ⟨_, i, h1, h2⟩
  · exact absurd (e.symm.trans h) (nI_m1 (by omega))
  · have hi := (List.getElem?_eq_some_iff.mp h1).1
    have := (nI_eq (by omega) (by omega)).mp (e.symm.trans h2)
    omega
theorem TKr.loc (hn : HN T N L) (K : TKr L b s ti ty) (ht : ∀ k, k < 1600 → ti = nI k → 800 * b ≤ k ∧ k < 800 * b + 800) (e : SBq b s s') : TKr L b s' ti ty := by
  match ty, K with
  | 0, K => exact K
  | 1, K => exact K.elim
  | kk + 2, ⟨v, k, k1, k2, k3, k4, k5⟩ =>
    have n5 := (vK.n5 hn (v.cl hn)).2
    have w := ht k k1 k2
    refine ⟨v, k, k1, k2, ?_, ?_, fun a ha => ?_⟩
    · rw [e.2.1 138 k (inB.i7 (by decide) (by omega) (by omega))]; exact k3
    · rw [e.2.1 139 k (inB.i7 (by decide) (by omega) (by omega))]; exact k4
    · rw [e.2.1 142 (5 * k + a) (inB.i8 (by decide) (by omega) (by omega))]; exact k5 a ha
theorem RJ.loc (J : RJ T N b ks L s) (e : SBq b s s') : RJ T N b ks L s' := by
  have hb := J.b1
  have m384 := J.n384
  have h16 := J.len
  obtain ⟨⟨e63, e129⟩, q, l⟩ := e
  obtain ⟨⟨a1, a2⟩, ⟨b1, b2, b3⟩, c1, c750, d1⟩ := J
  refine ⟨⟨a1, by rw [e63]; exact a2⟩, ⟨by rw [q 100 b (inB.i0 (by decide))]; exact b1, by rw [q 120 b (inB.i0 (by decide))]; exact b2, fun c E hc => ?_⟩, fun i t ht => ?_, c750, d1⟩
  · have cl := (List.getElem?_eq_some_iff.mp hc).1
    have tk := nMem_take hc
    obtain ⟨⟨x1, x2, x3, x4, x5, x6, x7, x8, x9⟩, y, zz⟩ := b3 c E hc
    refine ⟨⟨by rw [l 101 _ (inBL.i0 (by decide) (by omega) (by omega))]; exact x1, by rw [q 102 _ (inB.i1 (by decide) (by omega) (by omega))]; exact x2, ?_, fun e => ?_, fun e => ?_, ?_, by rw [q 107 _ (inB.i1 (by decide) (by omega) (by omega))]; exact x7, x8, x9⟩, by rw [q 108 _ (inB.i1 (by decide) (by omega) (by omega))]; exact y, fun j md hj => ?_⟩
    · refine ⟨by rw [q 104 _ (inB.i1 (by decide) (by omega) (by omega))]; exact x3.1, fun j hj => ?_⟩
      rw [l 111 _ (inBL.i1 (by decide) (by omega) (by omega)), q 112 _ (inB.i2 (by decide) (by omega) (by omega))]
      exact x3.2 j hj
    · rw [q 103 _ (inB.i1 (by decide) (by omega) (by omega)), q 105 _ (inB.i1 (by decide) (by omega) (by omega))]; exact x4 e
    · rw [q 103 _ (inB.i1 (by decide) (by omega) (by omega)), q 105 _ (inB.i1 (by decide) (by omega) (by omega))]; exact x5 e
    · refine ⟨by rw [q 106 _ (inB.i1 (by decide) (by omega) (by omega))]; exact x6.1, fun j hj => ?_⟩
      rw [l 113 _ (inBL.i2 (by decide) (by omega) (by omega)), q 115 _ (inB.i3 (by decide) (by omega) (by omega)), l 114 _ (inBL.i2 (by decide) (by omega) (by omega)), q 116 _ (inB.i3 (by decide) (by omega) (by omega))]
      exact x6.2 j hj
    · have jl := (List.getElem?_eq_some_iff.mp hj).1
      obtain ⟨⟨w1, w2, w3, w4⟩, w5, ⟨w6, w7⟩, w8, w9, w10⟩ := zz j md hj
      refine ⟨⟨by rw [q 124 _ (inB.i5 (by decide) (by omega) (by omega))]; exact w1, by rw [q 126 _ (inB.i5 (by decide) (by omega) (by omega))]; exact w2, by rw [q 127 _ (inB.i5 (by decide) (by omega) (by omega))]; exact w3, by rw [l 132 _ (inBL.i3 (by decide) (by omega) (by omega))]; exact w4⟩, by rw [q 125 _ (inB.i5 (by decide) (by omega) (by omega))]; exact w5, ⟨by rw [q 128 _ (inB.i5 (by decide) (by omega) (by omega))]; exact w6, fun x p hp => ?_⟩, by rw [q 129 _ (inB.i5 (by decide) (by omega) (by omega))]; exact w8, by rw [q 131 _ (inB.i5 (by decide) (by omega) (by omega))]; exact w9, w10⟩
      have xl := (List.getElem?_eq_some_iff.mp hp).1
      rw [q 133 _ (inB.i6 (by decide) (by omega) (by omega)), q 134 _ (inB.i6 (by decide) (by omega) (by omega)), l 135 _ (inBL.i4 (by decide) (by omega) (by omega))]
      exact w7 x p hp
  · have il := (List.getElem?_eq_some_iff.mp ht).1
    obtain ⟨w1, w2, w3, w4, w5⟩ := c1 i t ht
    refine ⟨w1, by rw [l 136 _ (inBL.i5 (by decide) (by omega) (by omega))]; exact w2, by rw [q 137 _ (inB.i7 (by decide) (by omega) (by omega))]; exact w3, by rw [q 138 _ (inB.i7 (by decide) (by omega) (by omega))]; exact w4, fun x hx => ?_⟩
    rw [l 140 _ (inBL.i6 (by decide) (by omega) (by omega)), q 141 _ (inB.i8 (by decide) (by omega) (by omega))]
    exact w5 x hx
theorem BS.loc (F : FX T N b ks L tr) (B : BS T N b ks L tr s) (e : SBq b s s') : BS T N b ks L tr s' := by
  obtain ⟨⟨J, W, I, tt⟩, Q, P⟩ := B
  have hb := J.b1
  have m384 := J.n384
  have h16 := J.len
  have l750 := J.2.2.2.1
  have hn := J.2.2.2.2.2.1
  have q := e.2.1
  obtain ⟨O1, O2, O3⟩ := F.2.1
  refine ⟨⟨J.loc e, fun c hc a ha x hx => ?_, fun c hc i hi => ?_, by rw [e.1.2]; exact tt⟩, ⟨fun m hm => ⟨?_, fun i hi => ?_⟩, fun c hc => ?_⟩, fun c hc => ?_, fun m hm => ?_, fun c hc m hm ms v => ?_⟩
  · have r1 := rwR_lt ha
    have r2 := rwR_lt hx
    rw [q 119 _ (inB.i4 (by decide) (by omega) (by omega))]
    exact W c hc a ha x hx
  · have i8 : inL L c ≤ 8 := (J.hd hc).2.2.2.2.2.2.2.2
    rw [q 117 _ (inB.i3 (by decide) (by omega) (by omega)), q 118 _ (inB.i3 (by decide) (by omega) (by omega))]
    exact I c hc i hi
  · obtain ⟨M1, _⟩ := J.mem hm
    rw [q 126 _ (inB.i5 (by decide) (by omega) (by omega))]
    refine ((Q.1 m hm).1).loc hn ?_ e
    rw [show s.1 126 (400 * b + m) = (mdM L m).2.2.2.2.2.2.2 from M1.1.2.1]
    exact (O1 m hm).1.bk2 l750 hb
  · obtain ⟨M1, _⟩ := J.mem hm
    have p6 := (J.p6 hm).2
    obtain ⟨p, hp⟩ : ∃ p, (psM L m)[i]? = some p := ⟨_, List.getElem?_eq_getElem hi⟩
    rw [q 133 _ (inB.i6 (by decide) (by omega) (by omega))]
    refine ((Q.1 m hm).2 i hi).loc hn ?_ e
    rw [show s.1 133 (6 * (400 * b + m) + i) = p.2.2 from (M1.2.2.1.2 i p hp).1]
    exact ((O1 m hm).2 i p hp).1.bk2 l750 hb
  · have A := Q.2 c hc
    unfold ABr at A ⊢
    rw [q 105 _ (inB.i1 (by decide) (by omega) (by omega))]
    cases ha : abT T L c with
    | none => rw [ha] at A; exact A
    | some kk =>
      rw [ha] at A
      obtain ⟨v, k, k1, k2, k3, k4, k5⟩ := A
      have n5 := (vK.n5 hn (v.cl hn)).2
      have zr : ¬ (hC L c).2.2.1 = 0 := fun e => by unfold abT at ha; rw [if_pos e] at ha; cases ha
      obtain ⟨_, i, i1, i2⟩ := (J.hd hc).2.2.2.2.1 zr
      have hi := (List.getElem?_eq_some_iff.mp i1).1
      have ek := (nI_eq (show k < 2 ^ 31 by omega) (show 800 * b + i < 2 ^ 31 by omega)).mp (k2.symm.trans i2)
      refine ⟨v, k, k1, k2, ?_, ?_, fun a ha => ?_⟩
      · rw [q 138 k (inB.i7 (by decide) (by omega) (by omega))]; exact k3
      · rw [q 139 k (inB.i7 (by decide) (by omega) (by omega))]; exact k4
      · rw [q 142 (5 * k + a) (inB.i8 (by decide) (by omega) (by omega))]; exact k5 a ha
  · rw [q 109 _ (inB.i1 (by decide) (by omega) (by omega)), q 110 _ (inB.i1 (by decide) (by omega) (by omega))]; exact P.1 c hc
  · rw [q 130 _ (inB.i5 (by decide) (by omega) (by omega))]; exact P.2.1 m hm
  · have n4 := num_384 F.1 J hm ms
    rw [q 184 _ (inB.i10 (by decide) (by omega) (by omega))]
    exact P.2.2 c hc m hm ms v
theorem Rw.loc {i : Nat} {r : Row} (h : Rw s (5000 * b + i) r) (hi : i < 5000) (e : SBq b s s') : Rw s' (5000 * b + i) r := ⟨by rw [e.2.1 143 _ (inB.i9 (by decide) (by omega) (by omega))]; exact h.1, by rw [e.2.1 144 _ (inB.i9 (by decide) (by omega) (by omega))]; exact h.2.1, by rw [e.2.1 145 _ (inB.i9 (by decide) (by omega) (by omega))]; exact h.2.2.1, by rw [e.2.1 146 _ (inB.i9 (by decide) (by omega) (by omega))]; exact h.2.2.2.1, by rw [e.2.2 147 _ (inBL.i7 (by decide) (by omega) (by omega))]; exact h.2.2.2.2⟩
theorem JBI.loc (H : HBd T N b t rs kb z tr) (I : JBI T N b t rs z tr D s) (e : SBq b s s') : JBI T N b t rs z tr D s' := by
  have hb := H.2.2.2.2.2.2
  have o5 := H.2.2.2.1
  have k75 := H.2.2.2.2.2.1
  have hn := I.1.1.1.2.2.2.2.2.1
  refine ⟨I.1.loc H.2.2.1 e, by rw [e.2.1 123 b (inB.i0 (by decide))]; exact I.2.1, fun m hm im => ?_⟩
  obtain ⟨f1, f2, f3, f4, f5⟩ := H.1 m hm im
  obtain ⟨i1, i2, i3⟩ := I.2.2 m hm im
  have en := (List.getElem?_eq_some_iff.mp f4.ov.1).1
  refine ⟨Rw.loc i1 (by omega) e, fun hd => ?_, fun hd k r hk => ?_⟩
  · intro k r hk j1 l1 hj
    have kl := (List.getElem?_eq_some_iff.mp hk).1
    obtain ⟨a1, a2⟩ := i2 hd k r hk j1 l1 hj
    refine ⟨Rw.loc a1 (by omega) e, fun h kk hkk => ?_⟩
    have K := a2 h kk hkk
    rw [(EvR_1 m).2] at K ⊢
    refine K.loc hn (fun y hy ey => ?_) e
    obtain ⟨X, x1, x2, x3⟩ := sdW_kd _ _ _ f1 k r hk h
    have x2' : kqT T rs kb m ≤ X := x2
    obtain ⟨u, hu⟩ : ∃ u, (zT rs z m).2.2.1[X - kqT T rs kb m]? = some u := ⟨_, List.getElem?_eq_getElem (by omega)⟩
    have w := f3.2.1.2 _ u hu
    have b0 := f3.2.1.1
    have := (List.getElem?_eq_some_iff.mp w).1
    rw [x1] at ey
    have := (nI_eq (by omega) (by omega)).mp ey
    omega
  · have kl := (List.getElem?_eq_some_iff.mp hk).1
    exact Rw.loc (i3 hd k r hk) (by omega) e
end MJB18
