/-! ===== the reference's judge: judgeKind, TYPES ===== -/
/-- a TYPE's number as the reader gave it: -1, or the KIND's -/
def TyI (T : TT) (b : Nat) (ks : List Nat) (t : Nat) (ti : Int32) : Prop := ((T t).1 = 10 ∧ ti = -1) ∨ (¬ (T t).1 = 10 ∧ ∃ i, ks[i]? = some t ∧ ti = nI (800 * b + i))
/-- a TYPE that was judged: 0 int, k + 2 a KIND -/
def TKr (L : List CD) (b : Nat) (s : mjSt3) (ti : Int32) (ty : Nat) : Prop := match ty with
  | 0 => ti = -1
  | 1 => False
  | kk + 2 => vK L kk ∧ ∃ k, k < 1600 ∧ ti = nI k ∧ s.1 138 k = nI (nmL L (cK kk)) ∧ KRr b s k (nmL L (cK kk)) kk
/-- all that the judging of TYPES changes; only KINDS of these numbers -/
def oTy (P : Nat → Prop) : mjSt3 → mjSt3 → Prop := offG (fun h j => (h = 97 ∧ (j = 61 ∨ j = 62)) ∨ (h = 139 ∧ P j) ∨ (h = 142 ∧ P (j / 5))) (fun _ _ => False)
section MJA70
variable {T : TT} {d N b k t c n kk : Nat} {ks : List Nat} {L : List CD} {s s' : mjSt3} {h : Option Nat} {tr : Bool} {P Q : Nat → Prop} {ti : Int32}
theorem oNm.Ty (o : oNm k s s') : oTy (fun x => x = k) s s' := offG.mono o (fun x y z => by
  rcases z with z | z | z
  · exact Or.inl z
  · exact Or.inr (Or.inl z)
  · refine Or.inr (Or.inr ⟨z.1, ?_⟩)
    show y / 5 = k
    omega) (fun _ _ z => z)
theorem oTy.mono (o : oTy P s s') (h : ∀ x, P x → Q x) : oTy Q s s' := offG.mono o (fun x y z => z.elim Or.inl (fun z => z.elim (fun z => Or.inr (Or.inl ⟨z.1, h _ z.2⟩)) (fun z => Or.inr (Or.inr ⟨z.1, h _ z.2⟩)))) (fun _ _ z => z)
theorem o61.Ty (o : o61 s s') : oTy P s s' := offG.mono o (fun _ _ z => Or.inl z) (fun _ _ z => z)
theorem oTy.l (o : oTy P s s') : s'.2 = s.2 := Prod.ext (funext fun x => funext fun j => o.2.1 x j (fun e => e)) o.2.2
theorem oTy.r (o : oTy P s s') {h : Nat} (h1 : ¬ h = 97) (h2 : ¬ h = 139) (h3 : ¬ h = 142) : s'.1 h = s.1 h := funext fun j => o.1 h j (fun e => e.elim (fun e => h1 e.1) (fun e => e.elim (fun e => h2 e.1) (fun e => h3 e.1)))
theorem oTy.f (o : oTy P s s') {j : Nat} (h1 : ¬ j = 61) (h2 : ¬ j = 62) : s'.1 97 j = s.1 97 j := o.1 97 j (fun e => e.elim (fun e => e.2.elim h1 h2) (fun e => e.elim (fun e => absurd e.1 (by decide)) (fun e => absurd e.1 (by decide))))
theorem oTy.J (o : oTy P s s') (J : RJ T N b ks L s) : RJ T N b ks L s' := J.off (o.f (by decide) (by decide)) (fun x hx => o.r (by omega) (by omega) (by omega)) (by rw [o.l])
theorem KRr.keep {m : Nat} (K : KRr b s k m kk) (hm : m ≤ 5) (o : oTy P s s') (hk : ¬ P k) : KRr b s' k m kk := by
  refine ⟨?_, fun i hi => ?_⟩
  · rw [o.1 139 k (fun e => e.elim (fun e => absurd e.1 (by decide)) (fun e => e.elim (fun e => hk e.2) (fun e => absurd e.1 (by decide))))]
    exact K.1
  · rw [o.1 142 (5 * k + i) (fun e => e.elim (fun e => absurd e.1 (by decide)) (fun e => e.elim (fun e => absurd e.1 (by decide)) (fun e => hk (by
      have := e.2
      rw [show (5 * k + i) / 5 = k by omega] at this
      exact this))))]
    exact K.2 i hi
theorem TKr.keep (hn : HN T N L) {ty : Nat} (K : TKr L b s ti ty) (o : oTy P s s') (hk : ∀ k, k < 1600 → ti = nI k → ¬ P k) : TKr L b s' ti ty := by
  match ty, K with
  | 0, K => exact K
  | kk + 2, ⟨v, k, k1, k2, k3, k4⟩ => exact ⟨v, k, k1, k2, by rw [o.r (by decide) (by decide) (by decide)]; exact k3, k4.keep (vK.n5 hn (vK.cl hn v)).2 o (hk k k1 k2)⟩
theorem x_310n (g : bR0 s) {ti ci : Int32} : mjF (d + 1) 310 [.ref 97, .int ti, .int ci] (mjW0 s) = some (none, mjW0 s) := by
  have g' : ¬ s.1 97 61 ≤ 0 := g
  rw [e_310]
  unfold f_310 b_310_0
  rw [xg_97_129, xg_97_61, if_neg g', ite_self]
theorem kd_vK (hn : HN T N L) (hh : ∀ c, h = some c → c < L.length) {beh : Bool} (hk : kdT T L h beh t = some kk) : vK L kk ∧ cntO T 6 (t + 2) = nmL L (cK kk) ∧ (h = none → ∀ i, i < nmL L (cK kk) → oK kk i = 5) := by
  unfold kdT at hk
  cases hc : clsK T L (kyT T t) with
  | none => rw [hc] at hk; cases hk
  | some e =>
    rw [hc] at hk
    dsimp only at hk
    have he : e < L.length := fnd_lt hc
    have n5 := vK.n5 hn he
    by_cases g : cntO T 6 (t + 2) = (hC L e).2.1
    · rw [if_pos g] at hk
      cases hf : fnd (fun i => decide (owT T L h beh (t + 2 + 2 * i) = none)) (hC L e).2.1 with
      | some i => rw [hf] at hk; cases hk
      | none =>
        rw [hf] at hk
        cases hk
        have fl : ∀ i, i < nmL L e → (owT T L h beh (t + 2 + 2 * i)).getD 0 ≤ 6 := by
          intro i hi
          cases ho : owT T L h beh (t + 2 + 2 * i) with
          | none => show 0 ≤ 6; omega
          | some x => exact owT_le hn hh ho
        have f8 : ∀ i, i < nmL L e → (owT T L h beh (t + 2 + 2 * i)).getD 0 < 8 := fun i hi => by have := fl i hi; omega
        have ec : cK (mkK e (hC L e).2.1 (fun i => (owT T L h beh (t + 2 + 2 * i)).getD 0)) = e := mkK_c n5.2 f8
        refine ⟨⟨e, _, he, rfl, fl⟩, by rw [ec]; exact g, fun hn0 i hi => ?_⟩
        rw [ec] at hi
        show oK (mkK e (nmL L e) _) i = 5
        rw [mkK_o n5.2 f8 hi]
        have nn := of_decide_eq_false (fnd_none.mp hf i hi)
        subst hn0
        unfold owT at nn ⊢
        by_cases g13 : (T (t + 2 + 2 * i)).1 = 13
        · rw [if_pos g13]; rfl
        · rw [if_neg g13] at nn
          exact absurd rfl nn
    · rw [if_neg g] at hk; cases hk
/-- judgeKind of a TYPE -/
theorem x_313 (J : RJ T N b ks L s) (W : WIT b s L.length (knF T L)) (I : IRr T L b s) (htr : s.1 97 129 = b2 tr) (hh : ∀ c, h = some c → c < L.length) (hT : TyI T b ks t ti) (hk : TYk T N t) (g : GR s) : ∃ s', mjF (d + 4) 313 [.ref 97, .int ti, .int (cR b h)] (mjW0 s) = some (none, mjW0 s') ∧ oTy (fun x => ti = nI x ∧ x < 1600) s s' ∧ GR s' ∧ (gR0 s' ↔ gR0 s ∧ tyOK T L tr h t) ∧ (gR0 s' → TKr L b s' ti (tyT T L h t)) := by
  have hb := J.b1
  have hn := J.2.2.2.2.2.1
  rw [e_313]
  unfold f_313 b_313_0
  rcases hT with ⟨a1, a2⟩ | ⟨a1, i, a2, a3⟩
  · rw [a2, if_neg (show ¬ (0 : Int32) ≤ -1 by decide)]
    refine ⟨s, rfl, offG.rf, g, ⟨fun x => ⟨x, fun e => absurd a1 e⟩, fun x => x.1⟩, fun _ => ?_⟩
    unfold tyT
    rw [if_pos a1]
    rfl
  · have hi := (List.getElem?_eq_some_iff.mp a2).1
    have l750 := J.2.2.2.1
    have Kk := J.2.2.1 i t a2
    have KD : KDk T N t := by
      rcases hk with ⟨x, _⟩ | ⟨_, x⟩
      · exact absurd x a1
      · exact x
    have k16 : 800 * b + i < 1600 := by omega
    rw [a3, if_pos (nI_pos' (by omega)), xV_97]
    obtain ⟨s1, e1, o1, g1, i1, r1⟩ := x_302 (d := d) (beh := false) J hh k16 KD Kk g
    rw [show (0 : Int32) = b2 false from rfl, e1, bN_s, xV_97]
    have J1 := oNm.J o1 J
    have o1' : oTy (fun x => nI (800 * b + i) = nI x ∧ x < 1600) s s1 := (oNm.Ty o1).mono (fun x hx => by subst hx; exact ⟨rfl, k16⟩)
    have r119 : ∀ x, ¬ x = 97 → ¬ x = 139 → ¬ x = 142 → s1.1 x = s.1 x := fun x h1 h2 h3 => o1'.r h1 h2 h3
    have W1 : WIT b s1 L.length (knF T L) := by unfold WIT; rw [r119 119 (by decide) (by decide) (by decide)]; exact W
    have I1 : IRr T L b s1 := by unfold IRr; rw [r119 117 (by decide) (by decide) (by decide), r119 118 (by decide) (by decide) (by decide)]; exact I
    have ht1 : s1.1 97 129 = b2 tr := by rw [o1'.f (by decide) (by decide)]; exact htr
    have okI : tyOK T L tr h t ↔ ∃ kk, kdT T L h false t = some kk ∧ (tr || nsT T L h kk) = true := ⟨fun x => x a1, fun x _ => x⟩
    cases hkd : kdT T L h false t with
    | none =>
      have b1 : bR0 s1 := g1.ng (fun x => (i1.mp x).2 hkd)
      rw [x_310n (d := d + 2) b1, bN_s]
      refine ⟨s1, rfl, o1', g1, ⟨fun x => absurd x b1.ng, fun x => ?_⟩, fun x => absurd x b1.ng⟩
      obtain ⟨kk, q1, _⟩ := okI.mp x.2
      rw [hkd] at q1
      cases q1
    | some kk =>
      obtain ⟨v, cn, hm⟩ := kd_vK hn hh hkd
      have K138 : s1.1 138 (800 * b + i) = nI (nmL L (cK kk)) := by rw [r119 138 (by decide) (by decide) (by decide), Kk.2.2.2.1, cn]
      obtain ⟨s2, e2, o2, g2, i2⟩ := x_310 (d := d) J1 W1 I1 ht1 hh k16 v g1 (fun x => ⟨by have := r1 x kk hkd; rw [cn] at this; exact this, K138⟩) hm
      rw [e2, bN_s]
      refine ⟨s2, rfl, o1'.tr (o61.Ty o2), g2, ?_, fun x => ?_⟩
      · rw [i2, i1, hkd]
        constructor
        · intro ⟨⟨x1, _⟩, x3⟩
          exact ⟨x1, okI.mpr ⟨kk, hkd, x3⟩⟩
        · intro ⟨x1, x2⟩
          obtain ⟨kk', q1, q2⟩ := okI.mp x2
          rw [hkd] at q1
          cases q1
          exact ⟨⟨x1, fun y => by cases y⟩, q2⟩
      · have := r1 (i2.mp x).1 kk hkd
        rw [cn] at this
        unfold tyT
        rw [if_neg a1, hkd]
        refine ⟨v, 800 * b + i, k16, rfl, ?_, ?_⟩
        · rw [funext fun j => o2.1 138 j (fun e => absurd e.1 (by decide))]; exact K138
        · refine ⟨?_, fun j hj => ?_⟩
          · rw [o2.1 139 _ (fun e => absurd e.1 (by decide))]; exact this.1
          · rw [o2.1 142 _ (fun e => absurd e.1 (by decide))]; exact this.2 j hj
end MJA70
