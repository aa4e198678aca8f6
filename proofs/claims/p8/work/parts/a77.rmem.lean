/-! ===== the reference's judge: judgeMembers ===== -/
def SJ (T : TT) (N b : Nat) (ks : List Nat) (L : List CD) (tr : Bool) (s : mjSt3) : Prop := RJ T N b ks L s ∧ WIT b s L.length (knF T L) ∧ IRr T L b s ∧ s.1 97 129 = b2 tr
section MJA77
variable {T : TT} {d N b k t c n m : Nat} {ks : List Nat} {L : List CD} {s s' : mjSt3} {tr : Bool} {P : Nat → Prop}
theorem SJ.ty (S : SJ T N b ks L tr s) (o : oTy P s s') : SJ T N b ks L tr s' := by
  obtain ⟨a, w, i, t⟩ := S
  refine ⟨oTy.J o a, ?_, ?_, by rw [o.f (by decide) (by decide)]; exact t⟩
  · unfold WIT; rw [o.r (by decide) (by decide) (by decide)]; exact w
  · unfold IRr; rw [o.r (by decide) (by decide) (by decide), o.r (by decide) (by decide) (by decide)]; exact i
/-- TYPES judged ahead of PARAM i of MEMBER m -/
def PV (T : TT) (L : List CD) (b m i : Nat) (s : mjSt3) : Prop := (∀ x, x < m → TMr T L b s x) ∧ TKr L b s (s.1 126 (400 * b + m)) (tyM T L m) ∧ (∀ x, x < i → TKr L b s (s.1 133 (6 * (400 * b + m) + x)) (pyT T L m x)) ∧ ∀ x, x < L.length → ABr T L b s x
theorem TMr.o61 (K : TMr T L b s m) (o : o61 s s') (hn : HN T N L) : TMr T L b s' m := by
  have o' : oTy (fun _ => False) s s' := o61.Ty o
  refine ⟨?_, fun i hi => ?_⟩
  · rw [o'.r (by decide) (by decide) (by decide)]; exact K.1.keep hn o' (fun _ _ _ h => h)
  · rw [o'.r (by decide) (by decide) (by decide)]; exact (K.2 i hi).keep hn o' (fun _ _ _ h => h)
theorem ABr.o61 (A : ABr T L b s c) (o : o61 s s') : ABr T L b s' c := A.cg (funext fun j => o.1 105 j (by omega)) (funext fun j => o.1 138 j (by omega)) (funext fun j => o.1 139 j (by omega)) (funext fun j => o.1 142 j (by omega))
theorem PV.o61 {i : Nat} (V : PV T L b m i s) (o : o61 s s') (hn : HN T N L) : PV T L b m i s' := by
  have o' : oTy (fun _ => False) s s' := o61.Ty o
  refine ⟨fun x hx => (V.1 x hx).o61 o hn, ?_, fun x hx => ?_, fun x hx => (V.2.2.2 x hx).o61 o⟩
  · rw [o'.r (by decide) (by decide) (by decide)]; exact V.2.1.keep hn o' (fun _ _ _ h => h)
  · rw [o'.r (by decide) (by decide) (by decide)]; exact (V.2.2.1 x hx).keep hn o' (fun _ _ _ h => h)
theorem i6m (b c : Nat) : (6 : Int32) * nI b + nI c = nI (6 * b + c) := by rw [show (6 : Int32) = nI 6 from rfl, nI_mul, nI_ad]
theorem i6 (b : Nat) : (6 : Int32) * nI b = nI (6 * b) := by rw [show (6 : Int32) = nI 6 from rfl, nI_mul]
theorem L309_178 (R : mjR) (k : Nat → Int32 → Int32 → mjH → mjU) (k' : Nat → Int32 → Int32 → Int32 → mjH → mjU) (n a : Nat) (b e f g : Int32) (hp : mjH) : L_309_178 R k k' (n + 1) a b e f g hp = b_309_178 R k k' (L_309_178 R k k' n) a b e f g hp := rfl
theorem L309_139 (R : mjR) (k : Nat → Int32 → Int32 → mjH → mjU) (n a : Nat) (b e f : Int32) (hp : mjH) : L_309_139 R k (n + 1) a b e f hp = b_309_139 R k (L_309_139 R k n) a b e f hp := rfl
theorem L309_96 (R : mjR) (k : Nat → Int32 → Int32 → mjH → mjU) (n a : Nat) (b e f : Int32) (hp : mjH) : L_309_96 R k (n + 1) a b e f hp = b_309_96 R k (L_309_96 R k n) a b e f hp := rfl
theorem L309_36 (R : mjR) (n a : Nat) (b e : Int32) (hp : mjH) : L_309_36 R (n + 1) a b e hp = b_309_36 R (L_309_36 R n) a b e hp := rfl
/-- a PARAM's NAME -/
theorem RJ.pn (J : RJ T N b ks L s) (hm : m < nMem L) {i : Nat} (hi : i < (psM L m).length) : s.2.1 135 (6 * (400 * b + m) + i) = kyT T (pnT L m i) := by
  obtain ⟨p, hp⟩ : ∃ p, (psM L m)[i]? = some p := ⟨_, List.getElem?_eq_getElem hi⟩
  have := ((J.mem hm).1.2.2.1.2 i p hp).2.2
  unfold pnT
  rw [hp]
  exact this
theorem RJ.p6 (J : RJ T N b ks L s) (hm : m < nMem L) : s.1 128 (400 * b + m) = nI (psM L m).length ∧ (psM L m).length ≤ 6 := ⟨(J.mem hm).1.2.2.1.1, (J.mem hm).1.2.2.2.2.2⟩
theorem lq_309q (hm : m < nMem L) {i : Nat} (hi : i < (psM L m).length) {ci : Int32} {k36 : Nat → Int32 → Int32 → mjH → mjU} {k139 : Nat → Int32 → Int32 → Int32 → mjH → mjU} : ∀ (r j n : Nat) (s : mjSt3), j + r = i → r < n → RJ T N b ks L s → GR s → ∃ s', L_309_178 (mjF (d + 1)) k36 k139 n 97 ci (nI (400 * b + m)) (nI (6 * (400 * b + m) + i)) (nI (6 * (400 * b + m) + j)) (mjW0 s) = k139 97 ci (nI (400 * b + m)) (nI (6 * (400 * b + m) + (i + 1))) (mjW0 s') ∧ o61 s s' ∧ GR s' ∧ (gR0 s' ↔ gR0 s ∧ ∀ x, j ≤ x → x < i → ¬ kyT T (pnT L m x) = kyT T (pnT L m i))
  | r, j, 0, s, e, hr, J, g => by omega
  | 0, j, n + 1, s, e, hr, J, g => by
    refine ⟨s, ?_, offG.rf, g, ⟨fun x => ⟨x, fun y h1 h2 => by omega⟩, fun x => x.1⟩⟩
    rw [L309_178]
    unfold b_309_178
    rw [if_pos (show nI (6 * (400 * b + m) + i) ≤ nI (6 * (400 * b + m) + j) by rw [show i = j by omega]; exact Int32.le_refl _), nI_1]
    rfl
  | r + 1, j, n + 1, s, e, hr, J, g => by
    have hb := J.b1
    have m384 := J.n384
    have p6 := (J.p6 hm).2
    rw [L309_178]
    unfold b_309_178 b_309_212
    rw [if_neg (show ¬ nI (6 * (400 * b + m) + i) ≤ nI (6 * (400 * b + m) + j) from nI_ge (by omega) (by omega)), xg_97_46, wa_135 (by omega), J.pn hm (show j < (psM L m).length by omega), xg_97_46, wa_135 (by omega), J.pn hm hi, nI_1, show 6 * (400 * b + m) + j + 1 = 6 * (400 * b + m) + (j + 1) by omega]
    by_cases q : kyT T (pnT L m j) = kyT T (pnT L m i)
    · rw [if_pos ((lg_cmp_eq _ _).mpr q), xg_97_45, wa_134 (by omega), xV_97]
      obtain ⟨z, a1, a2, a3⟩ := x_268 (d := d) g (a := 4) (by decide) (s.1 134 (6 * (400 * b + m) + i))
      rw [a1, bN_s]
      obtain ⟨s', b1, b2', b3, b4⟩ := lq_309q hm hi (ci := ci) (k36 := k36) (k139 := k139) r (j + 1) n z (by omega) (by omega) (o61.J a2 J) (Or.inr a3)
      exact ⟨s', b1, a2.tr b2', b3, ⟨fun x => absurd (b4.mp x).1 a3.ng, fun x => absurd q (x.2 j (Nat.le_refl _) (by omega))⟩⟩
    · rw [if_neg (fun x => q ((lg_cmp_eq _ _).mp x))]
      obtain ⟨s', b1, b2', b3, b4⟩ := lq_309q hm hi (ci := ci) (k36 := k36) (k139 := k139) r (j + 1) n s (by omega) (by omega) J g
      refine ⟨s', b1, b2', b3, b4.trans ⟨fun x => ⟨x.1, fun y h1 h2 => ?_⟩, fun x => ⟨x.1, fun y h1 h2 => x.2 y (by omega) h2⟩⟩⟩
      by_cases e' : y = j
      · rw [e']; exact q
      · exact x.2 y (by omega) h2
theorem OKp_iff {i : Nat} (hi : i < (psM L m).length) : OKp T L tr m i ↔ tyOK T L tr (some (hmM L m)) (match (psM L m)[i]? with
    | some p => p.1
    | none => 0) ∧ ∀ x, x < i → ¬ kyT T (pnT L m x) = kyT T (pnT L m i) := by
  obtain ⟨p, hp⟩ : ∃ p, (psM L m)[i]? = some p := ⟨_, List.getElem?_eq_getElem hi⟩
  have e : pnT L m i = p.2.1 := by unfold pnT; rw [hp]
  rw [e, hp]
  dsimp only
  constructor
  · intro h
    obtain ⟨a, b⟩ := h p hp
    refine ⟨a, fun x hx => ?_⟩
    obtain ⟨q, hq⟩ : ∃ q, (psM L m)[x]? = some q := ⟨_, List.getElem?_eq_getElem (show x < (psM L m).length by omega)⟩
    have e2 : pnT L m x = q.2.1 := by unfold pnT; rw [hq]
    rw [e2]
    exact b x q hx hq
  · intro ⟨a, b⟩ p' hp'
    rw [hp] at hp'
    cases hp'
    refine ⟨a, fun j q hj hq => ?_⟩
    have := b j hj
    unfold pnT at this
    rw [hq] at this
    exact this
/-- PARAMS -/
theorem lq_309p (O : ORD T b ks L) (P0 : PFm T N L) (hm : m < nMem L) {k36 : Nat → Int32 → Int32 → mjH → mjU} : ∀ (r i n : Nat) (s : mjSt3), i + r = (psM L m).length → r < n → SJ T N b ks L tr s → GR s → (gR0 s → PV T L b m i s) → ∃ s', L_309_139 (mjF (d + 4)) k36 n 97 (nI (16 * b + hmM L m)) (nI (400 * b + m)) (nI (6 * (400 * b + m) + i)) (mjW0 s) = k36 97 (nI (16 * b + hmM L m)) (nI (400 * b + (m + 1))) (mjW0 s') ∧ SJ T N b ks L tr s' ∧ GR s' ∧ (gR0 s' ↔ gR0 s ∧ ∀ x, i ≤ x → x < (psM L m).length → OKp T L tr m x) ∧ (gR0 s' → PV T L b m (psM L m).length s') ∧ oTy (bkP b) s s'
  | r, i, 0, s, e, hr, S, g, V => by omega
  | 0, i, n + 1, s, e, hr, S, g, V => by
    have J := S.1
    have hb := J.b1
    have m384 := J.n384
    have p6 := J.p6 hm
    refine ⟨s, ?_, S, g, ⟨fun x => ⟨x, fun y h1 h2 => by omega⟩, fun x => x.1⟩, fun x => by rw [show (psM L m).length = i by omega]; exact V x, offG.rf⟩
    rw [L309_139]
    unfold b_309_139 b_309_224
    rw [xg_97_39, wa_128 (by omega), p6.1, i6m, if_pos (nI_le (by omega) (by omega)), nI_1]
    rfl
  | r + 1, i, n + 1, s, e, hr, S, g, V => by
    have J := S.1
    have hb := J.b1
    have hn := J.2.2.2.2.2.1
    have m384 := J.n384
    have p6 := J.p6 hm
    have hi : i < (psM L m).length := by omega
    obtain ⟨M1, hc⟩ := J.mem hm
    obtain ⟨p, hp⟩ : ∃ p, (psM L m)[i]? = some p := ⟨_, List.getElem?_eq_getElem hi⟩
    have v133 : s.1 133 (6 * (400 * b + m) + i) = p.2.2 := (M1.2.2.1.2 i p hp).1
    obtain ⟨O1, O2, O3⟩ := O
    obtain ⟨ty1, ty2, ty3⟩ := (O1 m hm).2 i p hp
    have pf := (P0 m hm).2.2.2.2.2 i p hp
    rw [L309_139]
    unfold b_309_139 b_309_224
    rw [xg_97_39, wa_128 (by omega), p6.1, i6m, if_neg (nI_ge (by omega) (by omega)), xg_97_61]
    by_cases g0 : s.1 97 61 = 0
    · have hh : ∀ c, some (hmM L m) = some c → c < L.length := fun c e => by cases e; exact hc
      obtain ⟨s1, e1, o1, g1, j1, r1⟩ := x_313 (d := d) (h := some (hmM L m)) J S.2.1 S.2.2.1 S.2.2.2 hh ty1 pf.1 g
      have S1 := S.ty o1
      obtain ⟨s2, e2, o2, g2, j2⟩ := lq_309q (d := d + 3) hm hi (ci := nI (16 * b + hmM L m)) (k36 := k36) (k139 := L_309_139 (mjF (d + 4)) k36 n) i 0 mjN s1 (by omega) (by have := mjN_v; omega) S1.1 g1
      have S2 : SJ T N b ks L tr s2 := S1.ty (o61.Ty (P := fun _ => False) o2)
      have V2 : gR0 s2 → PV T L b m (i + 1) s2 := by
        intro x
        have x1 := (j2.mp x).1
        have V0 := V g0
        have V1 : PV T L b m (i + 1) s1 := by
          refine ⟨fun y hy => ?_, ?_, fun y hy => ?_, fun y hy => ?_⟩
          · have K := V0.1 y hy
            obtain ⟨N1, _⟩ := J.mem (show y < nMem L by omega)
            obtain ⟨q1, q2⟩ := O2 y m hy hm
            refine ⟨?_, fun j hj => ?_⟩
            · rw [o1.r (by decide) (by decide) (by decide)]
              have k1 := K.1
              rw [show s.1 126 (400 * b + y) = (mdM L y).2.2.2.2.2.2.2 from N1.1.2.1] at k1 ⊢
              exact keepT J ty1 (O1 y (by omega)).1 (by omega) o1 k1
            · rw [o1.r (by decide) (by decide) (by decide)]
              obtain ⟨u, hu⟩ : ∃ u, (psM L y)[j]? = some u := ⟨_, List.getElem?_eq_getElem hj⟩
              have k2 := K.2 j hj
              rw [(N1.2.2.1.2 j u hu).1] at k2 ⊢
              have := q2 j u hu
              exact keepT J ty1 ((O1 y (by omega)).2 j u hu).1 (by omega) o1 k2
          · rw [o1.r (by decide) (by decide) (by decide)]
            have k1 := V0.2.1
            rw [show s.1 126 (400 * b + m) = (mdM L m).2.2.2.2.2.2.2 from M1.1.2.1] at k1 ⊢
            exact keepT J ty1 (O1 m hm).1 (by omega) o1 k1
          · by_cases e' : y = i
            · subst e'
              have k1 := r1 x1
              rw [o1.r (by decide) (by decide) (by decide), v133]
              unfold pyT
              rw [hp]
              exact k1
            · rw [o1.r (by decide) (by decide) (by decide)]
              obtain ⟨u, hu⟩ : ∃ u, (psM L m)[y]? = some u := ⟨_, List.getElem?_eq_getElem (show y < (psM L m).length by omega)⟩
              have k2 := V0.2.2.1 y (by omega)
              rw [(M1.2.2.1.2 y u hu).1] at k2 ⊢
              have := ty3 y u (by omega) hu
              exact keepT J ty1 ((O1 m hm).2 y u hu).1 (by omega) o1 k2
          · exact keepA J ty1 hy (fun z => ((O3 y hy z).1 m hm).2 i p hp) o1 (V0.2.2.2 y hy)
        exact V1.o61 o2 hn
      obtain ⟨s', b1, b2', b3, b4, b5, b6⟩ := lq_309p ⟨O1, O2, O3⟩ P0 hm (k36 := k36) r (i + 1) n s2 (by omega) (by omega) S2 g2 V2
      refine ⟨s', ?_, b2', b3, ?_, b5, (oTy.mono o1 (TyI.bk ty1 J.2.2.2.1 J.b1)).tr ((o61.Ty o2).tr b6)⟩
      · rw [if_pos g0, xg_97_44, wa_133 (by omega), v133, xV_97, show nI (16 * b + hmM L m) = cR b (some (hmM L m)) from rfl, e1, bN_s, i6, show nI (6 * (400 * b + m)) = nI (6 * (400 * b + m) + 0) from rfl, show cR b (some (hmM L m)) = nI (16 * b + hmM L m) from rfl, e2]
        exact b1
      · rw [b4, j2, j1]
        have io := OKp_iff (T := T) (L := L) (tr := tr) hi
        rw [hp] at io
        dsimp only at io
        constructor
        · intro ⟨⟨⟨x1, x2⟩, x3⟩, x4⟩
          refine ⟨x1, fun y h1 h2 => ?_⟩
          by_cases e' : y = i
          · rw [e']; exact io.mpr ⟨x2, fun x hx => x3 x (Nat.zero_le _) hx⟩
          · exact x4 y (by omega) h2
        · intro ⟨x1, x2⟩
          obtain ⟨y1, y2⟩ := io.mp (x2 i (Nat.le_refl _) hi)
          exact ⟨⟨⟨x1, y1⟩, fun x _ hx => y2 x hx⟩, fun y h1 h2 => x2 y (by omega) h2⟩
    · rw [if_neg g0]
      refine ⟨s, ?_, S, g, ⟨fun x => absurd x g0, fun x => absurd x.1 g0⟩, fun x => absurd x g0, offG.rf⟩
      rw [nI_1]
      rfl
end MJA77
