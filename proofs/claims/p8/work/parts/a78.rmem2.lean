/-! ===== the reference's judge: judgeMembers, all of it ===== -/
def QV (T : TT) (L : List CD) (b m : Nat) (s : mjSt3) : Prop := (∀ x, x < m → TMr T L b s x) ∧ ∀ x, x < L.length → ABr T L b s x
section MJA78
variable {T : TT} {d N b k t c n m : Nat} {ks : List Nat} {L : List CD} {s s' : mjSt3} {tr : Bool}
theorem QV.o61 (V : QV T L b m s) (o : o61 s s') (hn : HN T N L) : QV T L b m s' := ⟨fun x hx => (V.1 x hx).o61 o hn, fun x hx => (V.2 x hx).o61 o⟩
theorem i4m (b c : Nat) : nI c + (400 : Int32) * nI b = nI (400 * b + c) := by rw [show (400 : Int32) = nI 400 from rfl, nI_mul, nI_ad, Nat.add_comm]
theorem RJ.mn (J : RJ T N b ks L s) (hm : m < nMem L) : s.2.1 132 (400 * b + m) = nkM T L m := (J.mem hm).1.1.2.2.2
theorem lq_309k (hm : m < nMem L) {ci : Int32} {k36 : Nat → Int32 → Int32 → mjH → mjU} : ∀ (r x n : Nat) (s : mjSt3), x + r = m → r < n → RJ T N b ks L s → GR s → ∃ s', L_309_96 (mjF (d + 1)) k36 n 97 ci (nI (400 * b + m)) (nI (400 * b + x)) (mjW0 s) = L_309_139 (mjF (d + 1)) k36 mjN 97 ci (nI (400 * b + m)) (nI (6 * (400 * b + m) + 0)) (mjW0 s') ∧ o61 s s' ∧ GR s' ∧ (gR0 s' ↔ gR0 s ∧ ∀ y, x ≤ y → y < m → ¬ nkM T L y = nkM T L m)
  | r, x, 0, s, e, hr, J, g => by omega
  | 0, x, n + 1, s, e, hr, J, g => by
    refine ⟨s, ?_, offG.rf, g, ⟨fun q => ⟨q, fun y h1 h2 => by omega⟩, fun q => q.1⟩⟩
    rw [L309_96]
    unfold b_309_96
    rw [if_pos (show nI (400 * b + m) ≤ nI (400 * b + x) by rw [show m = x by omega]; exact Int32.le_refl _), i6]
    rfl
  | r + 1, x, n + 1, s, e, hr, J, g => by
    have hb := J.b1
    have m384 := J.n384
    rw [L309_96]
    unfold b_309_96 b_309_128
    rw [if_neg (show ¬ nI (400 * b + m) ≤ nI (400 * b + x) from nI_ge (by omega) (by omega)), xg_97_43, wa_132 (by omega), J.mn (show x < nMem L by omega), xg_97_43, wa_132 (by omega), J.mn hm, nI_1, show 400 * b + x + 1 = 400 * b + (x + 1) by omega]
    by_cases q : nkM T L x = nkM T L m
    · rw [if_pos ((lg_cmp_eq _ _).mpr q), xg_97_38, wa_127 (by omega), xV_97]
      obtain ⟨z, a1, a2, a3⟩ := x_268 (d := d) g (a := 4) (by decide) (s.1 127 (400 * b + m))
      rw [a1, bN_s]
      obtain ⟨s', b1, b2', b3, b4⟩ := lq_309k hm (ci := ci) (k36 := k36) r (x + 1) n z (by omega) (by omega) (o61.J a2 J) (Or.inr a3)
      exact ⟨s', b1, a2.tr b2', b3, ⟨fun y => absurd (b4.mp y).1 a3.ng, fun y => absurd q (y.2 x (Nat.le_refl _) (by omega))⟩⟩
    · rw [if_neg (fun y => q ((lg_cmp_eq _ _).mp y))]
      obtain ⟨s', b1, b2', b3, b4⟩ := lq_309k hm (ci := ci) (k36 := k36) r (x + 1) n s (by omega) (by omega) J g
      refine ⟨s', b1, b2', b3, b4.trans ⟨fun y => ⟨y.1, fun w h1 h2 => ?_⟩, fun y => ⟨y.1, fun w h1 h2 => y.2 w (by omega) h2⟩⟩⟩
      by_cases e' : w = x
      · rw [e']; exact q
      · exact y.2 w (by omega) h2
theorem omT_iff {i : Nat} (hi : i < mcL L c) : omT T L c (nkM T L (fmL L c + i)) = some (fmL L c + i) ↔ ∀ y, fmL L c ≤ y → y < fmL L c + i → ¬ nkM T L y = nkM T L (fmL L c + i) := by
  unfold omT
  constructor
  · intro h y h1 h2 e
    cases hf : fnd (fun j => decide (nkM T L (fmL L c + j) = nkM T L (fmL L c + i))) (mcL L c) with
    | none => rw [hf] at h; cases h
    | some j =>
      rw [hf] at h
      have h' : fmL L c + j = fmL L c + i := by simpa using h
      obtain ⟨f1, f2, f3⟩ := fnd_some.mp hf
      have := f3 (y - fmL L c) (by omega)
      rw [show fmL L c + (y - fmL L c) = y by omega] at this
      exact of_decide_eq_false this e
  · intro h
    have hf : fnd (fun j => decide (nkM T L (fmL L c + j) = nkM T L (fmL L c + i))) (mcL L c) = some i := fnd_some.mpr ⟨hi, decide_eq_true rfl, fun j hj => decide_eq_false (h (fmL L c + j) (by omega) (by omega))⟩
    rw [hf]
theorem lq_309 (O : ORD T b ks L) (P0 : PFm T N L) (hc : c < L.length) : ∀ (r i n : Nat) (s : mjSt3), i + r = mcL L c → r < n → SJ T N b ks L tr s → GR s → (gR0 s → QV T L b (fmL L c + i) s) → ∃ s', L_309_36 (mjF (d + 4)) n 97 (nI (16 * b + c)) (nI (400 * b + (fmL L c + i))) (mjW0 s) = some (none, mjW0 s') ∧ SJ T N b ks L tr s' ∧ GR s' ∧ (gR0 s' ↔ gR0 s ∧ ∀ x, i ≤ x → x < mcL L c → OKm T L tr (fmL L c + x)) ∧ (gR0 s' → QV T L b (fmL L c + mcL L c) s') ∧ oTy (bkP b) s s'
  | r, i, 0, s, e, hr, S, g, V => by omega
  | 0, i, n + 1, s, e, hr, S, g, V => by
    have J := S.1
    have hb := J.b1
    have h16 := J.len
    have m384 := J.n384
    obtain ⟨E, hE⟩ : ∃ E, L[c]? = some E := ⟨_, List.getElem?_eq_getElem hc⟩
    have mc : mcL L c = E.2.length := by unfold mcL; rw [hE]
    have tk := nMem_take hE
    have v107 : s.1 107 (16 * b + c) = nI (fmL L c) := (J.hd hc).2.2.2.2.2.2.1
    have v108 : s.1 108 (16 * b + c) = nI (mcL L c) := by rw [mc]; exact (J.2.1.2.2 c E hE).2.1
    refine ⟨s, ?_, S, g, ⟨fun x => ⟨x, fun y h1 h2 => by omega⟩, fun x => x.1⟩, fun x => by rw [show mcL L c = i by omega]; exact V x, offG.rf⟩
    rw [L309_36]
    unfold b_309_36
    rw [xg_97_18, wa_107 (by omega), v107, xg_97_63, J.1.2, xg_97_19, wa_108 (by omega), v108, i4m, nI_ad, if_pos (nI_le (by omega) (by unfold fmL at *; omega))]
  | r + 1, i, n + 1, s, e, hr, S, g, V => by
    have J := S.1
    have hb := J.b1
    have h16 := J.len
    have hn := J.2.2.2.2.2.1
    have m384 := J.n384
    obtain ⟨E, hE⟩ : ∃ E, L[c]? = some E := ⟨_, List.getElem?_eq_getElem hc⟩
    have mc : mcL L c = E.2.length := by unfold mcL; rw [hE]
    have tk : fmL L c + E.2.length ≤ nMem L := nMem_take hE
    have v107 : s.1 107 (16 * b + c) = nI (fmL L c) := (J.hd hc).2.2.2.2.2.2.1
    have v108 : s.1 108 (16 * b + c) = nI (mcL L c) := by rw [mc]; exact (J.2.1.2.2 c E hE).2.1
    obtain ⟨m, em⟩ : ∃ m, m = fmL L c + i := ⟨_, rfl⟩
    have hm : m < nMem L := by omega
    have hma : hmM L m = c := by rw [em]; exact hm_at hc (by omega)
    obtain ⟨M1, _⟩ := J.mem hm
    have v126 : s.1 126 (400 * b + m) = (mdM L m).2.2.2.2.2.2.2 := M1.1.2.1
    obtain ⟨O1, O2, O3⟩ := O
    have ty1 := (O1 m hm).1
    have pf := P0 m hm
    rw [← em]
    rw [L309_36]
    unfold b_309_36
    rw [xg_97_18, wa_107 (by omega), v107, xg_97_63, J.1.2, xg_97_19, wa_108 (by omega), v108, i4m, nI_ad, if_neg (nI_ge (by omega) (by omega)), xg_97_61]
    by_cases g0 : s.1 97 61 = 0
    · have hh : ∀ x, some c = some x → x < L.length := fun x e => by cases e; exact hc
      obtain ⟨s1, e1, o1, g1, j1, r1⟩ := x_313 (d := d) (h := some c) J S.2.1 S.2.2.1 S.2.2.2 hh ty1 pf.1 g
      have S1 := S.ty o1
      have v107' : s1.1 107 (16 * b + c) = nI (fmL L c) := (S1.1.hd hc).2.2.2.2.2.2.1
      obtain ⟨s2, e2, o2, g2, j2⟩ := lq_309k (d := d + 3) hm (ci := nI (16 * b + c)) (k36 := L_309_36 (mjF (d + 4)) n) i (fmL L c) mjN s1 (by omega) (by have := mjN_v; omega) S1.1 g1
      have S2 : SJ T N b ks L tr s2 := S1.ty (o61.Ty (P := fun _ => False) o2)
      have V2 : gR0 s2 → PV T L b m 0 s2 := by
        intro x
        have x1 := (j2.mp x).1
        have V0 := V g0
        rw [← em] at V0
        have V1 : PV T L b m 0 s1 := by
          refine ⟨fun y hy => ?_, ?_, fun y hy => by omega, fun y hy => ?_⟩
          · have K := V0.1 y hy
            obtain ⟨N1, _⟩ := J.mem (show y < nMem L by omega)
            obtain ⟨q1, q2⟩ := O2 y m hy hm
            refine ⟨?_, fun j hj => ?_⟩
            · rw [o1.r (by decide) (by decide) (by decide)]
              have k1 := K.1
              rw [show s.1 126 (400 * b + y) = (mdM L y).2.2.2.2.2.2.2 from N1.1.2.1] at k1 ⊢
              exact keepT J ty1 (O1 y (by omega)).1 (by omega) o1 k1
            · rw [o1.r (by decide) (by decide) (by decide)]
              obtain ⟨u, hu⟩ : ∃ u, (psM L y)[j]? = some u := ⟨_, List.getElem?_eq_getElem hj⟩
              have k2 := K.2 j hj
              rw [(N1.2.2.1.2 j u hu).1] at k2 ⊢
              have := q2 j u hu
              exact keepT J ty1 ((O1 y (by omega)).2 j u hu).1 (by omega) o1 k2
          · have k1 := r1 x1
            rw [o1.r (by decide) (by decide) (by decide), v126]
            unfold tyM
            rw [hma]
            exact k1
          · exact keepA J ty1 hy (fun z => ((O3 y hy z).1 m hm).1) o1 (V0.2 y hy)
        exact V1.o61 o2 hn
      have p6 := (J.p6 hm).2
      obtain ⟨s3, e3, S3, g3, j3, V3, o3⟩ := lq_309p (d := d) (tr := tr) ⟨O1, O2, O3⟩ P0 hm (k36 := L_309_36 (mjF (d + 4)) n) (psM L m).length 0 mjN s2 (by omega) (by have := mjN_v; omega) S2 g2 V2
      rw [hma] at e3
      obtain ⟨s', b1, b2', b3, b4, b5, b6⟩ := lq_309 ⟨O1, O2, O3⟩ P0 hc r (i + 1) n s3 (by omega) (by omega) S3 g3 (fun x => by
        have V4 := V3 x
        refine ⟨fun y hy => ?_, V4.2.2.2⟩
        by_cases e' : y = m
        · rw [e']; exact ⟨V4.2.1, V4.2.2.1⟩
        · exact V4.1 y (by omega))
      refine ⟨s', ?_, b2', b3, ?_, b5, (oTy.mono o1 (TyI.bk ty1 J.2.2.2.1 J.b1)).tr ((o61.Ty o2).tr (o3.tr b6))⟩
      · rw [if_pos g0, xg_97_37, wa_126 (by omega), v126, xV_97, show nI (16 * b + c) = cR b (some c) from rfl, e1, bN_s, show cR b (some c) = nI (16 * b + c) from rfl, xg_97_18, wa_107 (by omega), v107', xg_97_63, S1.1.1.2, i4m, e2, e3, em]
        exact b1
      · rw [b4, j3, j2, j1]
        have om := omT_iff (T := T) (L := L) (c := c) (show i < mcL L c by omega)
        rw [← em] at om
        have ok : OKm T L tr m ↔ tyOK T L tr (some c) (mdM L m).1 ∧ (∀ y, fmL L c ≤ y → y < m → ¬ nkM T L y = nkM T L m) ∧ ∀ x, x < (psM L m).length → OKp T L tr m x := by
          unfold OKm
          rw [hma, om]
        constructor
        · intro ⟨⟨⟨⟨x1, x2⟩, x3⟩, x4⟩, x5⟩
          refine ⟨x1, fun y h1 h2 => ?_⟩
          by_cases e' : y = i
          · rw [e', ← em]; exact ok.mpr ⟨x2, x3, fun x hx => x4 x (Nat.zero_le _) hx⟩
          · exact x5 y (by omega) h2
        · intro ⟨x1, x2⟩
          have y0 := x2 i (Nat.le_refl _) (by omega)
          rw [← em] at y0
          obtain ⟨y1, y2, y3⟩ := ok.mp y0
          exact ⟨⟨⟨⟨x1, y1⟩, y2⟩, fun x _ hx => y3 x hx⟩, fun y h1 h2 => x2 y (by omega) h2⟩
    · rw [if_neg g0]
      exact ⟨s, rfl, S, g, ⟨fun x => absurd x g0, fun x => absurd x.1 g0⟩, fun x => absurd x g0, offG.rf⟩
/-- judgeMembers -/
theorem x_309 (O : ORD T b ks L) (P0 : PFm T N L) (hc : c < L.length) (S : SJ T N b ks L tr s) (g : gR0 s) (V : QV T L b (fmL L c) s) : ∃ s', mjF (d + 5) 309 [.ref 97, .int (nI (16 * b + c))] (mjW0 s) = some (none, mjW0 s') ∧ SJ T N b ks L tr s' ∧ GR s' ∧ (gR0 s' ↔ OKd T L tr c) ∧ (gR0 s' → QV T L b (fmL L c + mcL L c) s') ∧ oTy (bkP b) s s' := by
  have J := S.1
  have hb := J.b1
  have h16 := J.len
  have hn := J.2.2.2.2.2.1
  have m24 : mcL L c ≤ 24 := by
    obtain ⟨E, hE⟩ : ∃ E, L[c]? = some E := ⟨_, List.getElem?_eq_getElem hc⟩
    unfold mcL
    rw [hE]
    exact J.2.2.2.2.1 c E hE
  -- the MEMBERS
  have rest : ∀ z, o61 s z → GR z → mjF (d + 5) 309 [.ref 97, .int (nI (16 * b + c))] (mjW0 s) = b_309_20 (mjF (d + 4)) 97 (nI (16 * b + c)) (mjW0 z) → (gR0 z ↔ ∀ k, abT T L c = some k → (tr || nsT T L (some c) k) = true) → ∃ s', mjF (d + 5) 309 [.ref 97, .int (nI (16 * b + c))] (mjW0 s) = some (none, mjW0 s') ∧ SJ T N b ks L tr s' ∧ GR s' ∧ (gR0 s' ↔ OKd T L tr c) ∧ (gR0 s' → QV T L b (fmL L c + mcL L c) s') ∧ oTy (bkP b) s s' := by
    intro z oz gz pre iz
    have Sz : SJ T N b ks L tr z := S.ty (o61.Ty (P := fun _ => False) oz)
    have v107 : z.1 107 (16 * b + c) = nI (fmL L c) := (Sz.1.hd hc).2.2.2.2.2.2.1
    obtain ⟨s', b1, b2', b3, b4, b5, b6⟩ := lq_309 (d := d) O P0 hc (mcL L c) 0 mjN z (by omega) (by have := mjN_v; omega) Sz gz (fun _ => V.o61 oz hn)
    refine ⟨s', ?_, b2', b3, ?_, b5, (o61.Ty oz).tr b6⟩
    · rw [pre]
      unfold b_309_20
      rw [xg_97_18, wa_107 (by omega), v107, xg_97_63, Sz.1.1.2, i4m]
      exact b1
    · rw [b4, iz]
      exact ⟨fun x => ⟨x.1, fun i hi => x.2 i (Nat.zero_le _) hi⟩, fun x => ⟨x.1, fun i _ hi => x.2 i hi⟩⟩
  have A := V.2 c hc
  unfold ABr at A
  cases ha : abT T L c with
  | none =>
    rw [ha] at A
    have A' : s.1 105 (16 * b + c) = -1 := A
    refine rest s offG.rf (Or.inl g) ?_ ⟨fun _ k hk => (by rw [ha] at hk; cases hk), fun _ => g⟩
    rw [e_309]
    unfold f_309 b_309_0
    rw [xg_97_16, wa_105 (by omega), A', if_pos (by decide)]
  | some kk =>
    rw [ha] at A
    obtain ⟨v, k, k1, k2, k3, k4⟩ := A
    obtain ⟨z, a1, a2, a3, a4⟩ := x_310 (d := d + 1) (h := some c) J S.2.1 S.2.2.1 S.2.2.2 (fun x e => by cases e; exact hc) k1 v (Or.inl g) (fun _ => ⟨k4, k3⟩) (fun e => by cases e)
    refine rest z a2 a3 ?_ ?_
    · rw [e_309]
      unfold f_309 b_309_0
      rw [xg_97_16, wa_105 (by omega), k2, if_neg (nI_pos (by omega)), xg_97_16, wa_105 (by omega), k2, xV_97, show nI (16 * b + c) = cR b (some c) from rfl, a1, bN_s]
    · rw [a4]
      exact ⟨fun x k' hk => by rw [ha] at hk; cases hk; exact x.2, fun x => ⟨g, x kk ha⟩⟩
end MJA78
