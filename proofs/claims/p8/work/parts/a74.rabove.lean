/-! ===== the reference's judge: phases over the CLASSES; above; rings; INS ===== -/
/-- one round of a phase -/
noncomputable def PhB (nx : Nat → Int32 → Int32 → mjH → mjU) (call : Int32 → Int32 → mjH → mjU) (self : Nat → Int32 → Int32 → Int32 → mjH → mjU) (l0 : Nat) (l1 l2 l3 : Int32) (hp : mjH) : mjU := (if (l1 + l2) ≤ l3 then nx l0 l1 l2 hp else gI hp l0 12 61 (fun v1 => (if v1 = 0 then rV hp l0 12 (bN (call l1 l3 hp) (fun hp2 => self l0 l1 l2 (l3 + (1 : Int32)) hp2)) else nx l0 l1 l2 hp)))
theorem phase {b n : Nat} (hb : b ≤ 1) (hn : n ≤ 16) {Lp : Nat → Nat → Int32 → Int32 → Int32 → mjH → mjU} {nx : Nat → Int32 → Int32 → mjH → mjU} {call : Int32 → Int32 → mjH → mjU} (hS : ∀ m x y z hp, Lp (m + 1) 97 x y z hp = PhB nx call (Lp m) 97 x y z hp) {Q : Nat → mjSt3 → Prop} {St : mjSt3 → Prop} {OK : Nat → Prop} {Fr : mjSt3 → mjSt3 → Prop} (frf : ∀ s, Fr s s) (ftr : ∀ a b c, Fr a b → Fr b c → Fr a c) (step : ∀ c s, c < n → St s → gR0 s → Q c s → ∃ s', call (nI (16 * b)) (nI (16 * b + c)) (mjW0 s) = some (none, mjW0 s') ∧ St s' ∧ GR s' ∧ (gR0 s' ↔ OK c) ∧ (gR0 s' → Q (c + 1) s') ∧ Fr s s') : ∀ (r c m : Nat) (s : mjSt3), c + r = n → r < m → St s → GR s → (gR0 s → Q c s) → ∃ s', Lp m 97 (nI (16 * b)) (nI n) (nI (16 * b + c)) (mjW0 s) = nx 97 (nI (16 * b)) (nI n) (mjW0 s') ∧ St s' ∧ GR s' ∧ (gR0 s' ↔ gR0 s ∧ ∀ x, c ≤ x → x < n → OK x) ∧ (gR0 s' → Q n s') ∧ Fr s s'
  | r, c, 0, s, e, hr, S, g, q => by omega
  | 0, c, m + 1, s, e, hr, S, g, q => by
    refine ⟨s, ?_, S, g, ⟨fun x => ⟨x, fun y h1 h2 => by omega⟩, fun x => x.1⟩, fun x => by rw [show n = c by omega]; exact q x, frf s⟩
    rw [hS]
    unfold PhB
    rw [nI_ad, if_pos (nI_le (by omega) (by omega))]
  | r + 1, c, m + 1, s, e, hr, S, g, q => by
    by_cases g0 : s.1 97 61 = 0
    · obtain ⟨z, a1, a2, a3, a4, a5, a6⟩ := step c s (by omega) S g0 (q g0)
      obtain ⟨s', b1, b2, b3, b4, b5, b6⟩ := phase hb hn hS frf ftr step r (c + 1) m z (by omega) (by omega) a2 a3 a5
      refine ⟨s', ?_, b2, b3, ?_, b5, ftr _ _ _ a6 b6⟩
      · rw [← b1, hS]
        unfold PhB
        rw [nI_ad, if_neg (nI_ge (by omega) (by omega)), xg_97_61, if_pos g0, xV_97, a1, bN_s, nI_1, show 16 * b + c + 1 = 16 * b + (c + 1) by omega]
      · rw [b4, a4]
        constructor
        · intro ⟨x1, x2⟩
          refine ⟨g0, fun x h1 h2 => ?_⟩
          by_cases e' : x = c
          · rw [e']; exact x1
          · exact x2 x (by omega) h2
        · intro ⟨_, x2⟩
          exact ⟨x2 c (Nat.le_refl _) (by omega), fun x h1 h2 => x2 x (by omega) h2⟩
    · refine ⟨s, ?_, S, g, ⟨fun x => absurd x g0, fun x => absurd x.1 g0⟩, fun x => absurd x g0, frf s⟩
      rw [hS]
      unfold PhB
      rw [nI_ad, if_neg (nI_ge (by omega) (by omega)), xg_97_61, if_neg g0]
/-- the KIND behind is, as the reference has it -/
def ABr (T : TT) (L : List CD) (b : Nat) (s : mjSt3) (c : Nat) : Prop := match abT T L c with
  | none => s.1 105 (16 * b + c) = -1
  | some kk => vK L kk ∧ ∃ k, k < 1600 ∧ s.1 105 (16 * b + c) = nI k ∧ s.1 138 k = nI (nmL L (cK kk)) ∧ KRr b s k (nmL L (cK kk)) kk
section MJA74
variable {T : TT} {d N b k t c n kk : Nat} {ks : List Nat} {L : List CD} {s s' : mjSt3} {P : Nat → Prop}
theorem oR_0 {o : Nat} (h : o ≤ 6) : oR o = 0 ↔ o = 0 := oR_inj (e := 0) h (by omega)
/-- judgeAbove -/
theorem x_301 (J : RJ T N b ks L s) (Pi : PFi T N L) (hc : c < L.length) (g : GR s) : ∃ s', mjF (d + 4) 301 [.ref 97, .int (nI (16 * b + c))] (mjW0 s) = some (none, mjW0 s') ∧ oTy (fun x => ∃ i, ks[i]? = some (hC L c).2.2.1 ∧ ¬ (hC L c).2.2.1 = 0 ∧ x = 800 * b + i) s s' ∧ GR s' ∧ (gR0 s' ↔ gR0 s ∧ OKb T L c) ∧ (gR0 s' → ABr T L b s' c) := by
  have hb := J.b1
  have h16 := J.len
  have hn := J.2.2.2.2.2.1
  have H := J.hd hc
  have l750 := J.2.2.2.1
  rw [e_301]
  unfold f_301 b_301_0
  rw [xg_97_16, wa_105 (by omega)]
  by_cases z : (hC L c).2.2.1 = 0
  · rw [(H.2.2.2.1 z).2, if_neg (show ¬ (0 : Int32) ≤ -1 by decide)]
    refine ⟨s, rfl, offG.rf, g, ⟨fun x => ⟨x, fun y => absurd z y⟩, fun x => x.1⟩, fun _ => ?_⟩
    unfold ABr abT
    rw [if_pos z]
    exact (H.2.2.2.1 z).2
  · obtain ⟨_, i, i1, i2⟩ := H.2.2.2.2.1 z
    have hi := (List.getElem?_eq_some_iff.mp i1).1
    have k16 : 800 * b + i < 1600 := by omega
    have KD := (Pi c hc).1 z
    have Kk := J.2.2.1 i _ i1
    have hh : ∀ c', some c = some c' → c' < L.length := fun c' e => by cases e; exact hc
    rw [i2, if_pos (nI_pos' (by omega)), xV_97]
    obtain ⟨s1, e1, o1, g1, j1, r1⟩ := x_302 (d := d) (h := some c) (beh := true) J hh k16 KD Kk g
    rw [show (1 : Int32) = b2 true from rfl, show nI (16 * b + c) = cR b (some c) from rfl, e1, bN_s, xg_97_61]
    have o1' : oTy (fun x => ∃ i, ks[i]? = some (hC L c).2.2.1 ∧ ¬ (hC L c).2.2.1 = 0 ∧ x = 800 * b + i) s s1 := (oNm.Ty o1).mono (fun x hx => ⟨i, i1, z, hx⟩)
    have ob : OKb T L c ↔ ∃ k, kdT T L (some c) true (hC L c).2.2.1 = some k ∧ oK k 0 = 0 := ⟨fun x => x z, fun x _ => x⟩
    by_cases g0 : s1.1 97 61 = 0
    · rw [if_pos g0]
      have jj := j1.mp g0
      cases hk : kdT T L (some c) true (hC L c).2.2.1 with
      | none => exact absurd hk jj.2
      | some kk =>
        obtain ⟨v, cn, _⟩ := kd_vK hn hh hk
        have K := r1 g0 kk hk
        have n1 := vK.n5 hn (vK.cl hn v)
        have vo := vK.ow hn v
        have k0 : s1.1 142 (5 * (800 * b + i)) = oR (oK kk 0) := by
          have := K.2 0 (by omega)
          exact this
        rw [xg_97_53, show (5 : Int32) * nI (800 * b + i) = nI (5 * (800 * b + i)) by rw [show (5 : Int32) = nI 5 from rfl, nI_mul], wa_142 (by omega), k0]
        have AB : ∀ x, (∀ h, ¬ h = 97 → x.1 h = s1.1 h) → ABr T L b x c := by
          intro x hx
          unfold ABr
          rw [show abT T L c = some kk by unfold abT; rw [if_neg z]; exact hk]
          refine ⟨v, 800 * b + i, k16, ?_, ?_, ?_⟩
          · rw [hx 105 (by decide), o1'.r (by decide) (by decide) (by decide)]; exact i2
          · rw [hx 138 (by decide), o1'.r (by decide) (by decide) (by decide), Kk.2.2.2.1, cn]
          · rw [cn] at K
            exact ⟨by rw [hx 139 (by decide)]; exact K.1, fun y hy => by rw [hx 142 (by decide)]; exact K.2 y hy⟩
        by_cases q : oK kk 0 = 0
        · rw [if_pos ((oR_0 (vo 0 (by omega))).mpr q)]
          exact ⟨s1, rfl, o1', g1, ⟨fun x => ⟨(j1.mp x).1, ob.mpr ⟨kk, hk, q⟩⟩, fun x => g0⟩, fun _ => AB s1 (fun _ _ => rfl)⟩
        · rw [if_neg (fun x => q ((oR_0 (vo 0 (by omega))).mp x)), xg_97_14, show cR b (some c) = nI (16 * b + c) from rfl, wa_103 (by omega), xV_97]
          obtain ⟨s2, a1, a2, a3⟩ := x_268 (d := d + 2) g1 (a := 11) (by decide) (s1.1 103 (16 * b + c))
          rw [a1, bN_s]
          refine ⟨s2, rfl, o1'.tr (o61.Ty a2), Or.inr a3, ⟨fun x => absurd x a3.ng, fun x => ?_⟩, fun x => absurd x a3.ng⟩
          obtain ⟨k', q1, q2⟩ := ob.mp x.2
          rw [hk] at q1
          cases q1
          exact absurd q2 q
    · rw [if_neg g0]
      refine ⟨s1, rfl, o1', g1, ⟨fun x => absurd x g0, fun x => ?_⟩, fun x => absurd x g0⟩
      obtain ⟨k', q1, q2⟩ := ob.mp x.2
      exact j1.mpr ⟨x.1, by rw [q1]; exact fun y => by cases y⟩
/-- the CLASS above, as the reference finds it -/
theorem x_242 (hb : b ≤ 1) (h16 : L.length ≤ 16) (hn : HN T N L) (hc : c < L.length) (A : ABr T L b s c) : mjF (d + 1) 242 [.ref 97, .int (nI (16 * b + c))] (mjW0 s) = some (some (.int (cR b (upT T L c))), mjW0 s) := by
  rw [e_242]
  unfold f_242 b_242_0
  rw [xg_97_16, wa_105 (by omega)]
  unfold ABr at A
  unfold upT
  cases ha : abT T L c with
  | none =>
    rw [ha] at A
    have A' : s.1 105 (16 * b + c) = -1 := A
    rw [A', if_neg (show ¬ (0 : Int32) ≤ -1 by decide)]
    rfl
  | some kk =>
    rw [ha] at A
    obtain ⟨v, k, k1, k2, k3, k4⟩ := A
    rw [k2, if_pos (nI_pos' (by omega)), xg_97_50, xg_97_16, wa_105 (by omega), k2, wa_139 k1, k4.1]
    rfl
end MJA74
