/-! ===== the reference: places ===== -/
def oPl (b C : Nat) : mjSt3 → mjSt3 → Prop := offG (fun h j => (h = 109 ∧ j = C) ∨ (h = 110 ∧ 16 * b ≤ j ∧ j < 16 * b + 16) ∨ (h = 130 ∧ 400 * b ≤ j ∧ j < 400 * b + 400) ∨ h = 183 ∨ (h = 184 ∧ 400 * C ≤ j ∧ j < 400 * C + 400)) (fun _ _ => False)
/-- what is right stays right -/
def KPl (T : TT) (L : List CD) (b c : Nat) (s s' : mjSt3) : Prop := (∀ m, m < nMem L → s.1 130 (400 * b + m) = nI (numM T L m) → s'.1 130 (400 * b + m) = nI (numM T L m)) ∧ (∀ m, m < nMem L → mSM L m = false → (vwT (nmL L) (abT T L) c (hmM L m)).isSome = true → s.1 184 (400 * (16 * b + c) + numM T L m) = b2 (decide (2 ≤ tyM T L m)) → s'.1 184 (400 * (16 * b + c) + numM T L m) = b2 (decide (2 ≤ tyM T L m))) ∧ ∀ a, a < L.length → s.1 110 (16 * b + a) = nI (mthL L a) → s'.1 110 (16 * b + a) = nI (mthL L a)
/-- MEMBER m has its place -/
def PL1 (T : TT) (L : List CD) (b c : Nat) (s : mjSt3) (m : Nat) : Prop := s.1 130 (400 * b + m) = nI (numM T L m) ∧ (mSM L m = false → s.1 184 (400 * (16 * b + c) + numM T L m) = b2 (decide (2 ≤ tyM T L m)))
section MJA86
variable {T : TT} {d N b k t c n m v u a o p C : Nat} {ks : List Nat} {L : List CD} {s s' : mjSt3}
theorem KPl.rf : KPl T L b c s s := ⟨fun _ _ h => h, fun _ _ _ _ h => h, fun _ _ h => h⟩
theorem KPl.trn {x y z : mjSt3} (h : KPl T L b c x y) (g : KPl T L b c y z) : KPl T L b c x z := ⟨fun m hm e => g.1 m hm (h.1 m hm e), fun m hm hs hv e => g.2.1 m hm hs hv (h.2.1 m hm hs hv e), fun a ha e => g.2.2 a ha (h.2.2 a ha e)⟩
theorem oPl.J (o : oPl b C s s') (J : RJ T N b ks L s) : RJ T N b ks L s' := J.off (o.1 97 63 (by omega)) (fun x hx => funext fun j => o.1 x j (by omega)) (funext fun x => funext fun j => o.2.1 x j (fun e => e))
theorem oPl.r (o : oPl b C s s') {h : Nat} (hh : ¬ (h = 109 ∨ h = 110 ∨ h = 130 ∨ h = 183 ∨ h = 184)) : s'.1 h = s.1 h := funext fun j => o.1 h j (by omega)
theorem oPl.M (o : oPl b C s s') (K : TMr T L b s m) : TMr T L b s' m := ⟨by rw [o.r (by decide)]; exact K.1.cg (o.r (by decide)) (o.r (by decide)) (o.r (by decide)), fun i hi => by rw [o.r (by decide)]; exact (K.2 i hi).cg (o.r (by decide)) (o.r (by decide)) (o.r (by decide))⟩
theorem oPl.A (o : oPl b C s s') (A : ABr T L b s c) : ABr T L b s' c := A.cg (o.r (by decide)) (o.r (by decide)) (o.r (by decide)) (o.r (by decide))
theorem oPl.Q (o : oPl b C s s') (V : QV T L b m s) : QV T L b m s' := ⟨fun x hx => o.M (V.1 x hx), fun x hx => o.A (V.2 x hx)⟩
theorem TKr.neg {ti : Int32} {ty : Nat} (K : TKr L b s ti ty) : ti < 0 ↔ ¬ 2 ≤ ty := by
  match ty, K with
  | 0, K => rw [show ti = -1 from K]; decide
  | kk + 2, ⟨v, k, k1, k2, _, _⟩ => rw [k2]; exact ⟨fun e => absurd e (nI_pos (by omega)), fun e => absurd (by omega) e⟩
theorem L321_70 (R : mjR) (k : Nat → Int32 → Int32 → Int32 → mjH → mjU) (n a : Nat) (b e f g i j : Int32) (hp : mjH) : L_321_70 R k (n + 1) a b e f g i j hp = b_321_70 R k (L_321_70 R k n) a b e f g i j hp := rfl
theorem L321_35 (R : mjR) (n a : Nat) (b e f : Int32) (hp : mjH) : L_321_35 R (n + 1) a b e f hp = b_321_35 R (L_321_35 R n) a b e f hp := rfl
theorem L321_4 (R : mjR) (n a : Nat) (b e f : Int32) (hp : mjH) : L_321_4 R (n + 1) a b e f hp = b_321_4 R (L_321_4 R n) a b e f hp := rfl
/-- how many METHODS, FIELDS stand ahead -/
theorem nu_at {E : CD} (ha : L[a]? = some E) {i : Nat} (hi : i < E.2.length) : nuM L (fmL L a + i) = cntB (mSM L (fmL L a + i)) (E.2.take i) ∧ hmM L (fmL L a + i) = a ∧ E.2[i]? = some (mdM L (fmL L a + i)) := by
  obtain ⟨md, hmd⟩ : ∃ md, E.2[i]? = some md := ⟨_, List.getElem?_eq_getElem hi⟩
  have e := FL_at ha hmd
  have e1 : hmM L (fmL L a + i) = a := e.1
  have e2 : mdM L (fmL L a + i) = md := e.2
  refine ⟨?_, e1, by rw [e2]; exact hmd⟩
  unfold nuM
  rw [e1, ha]
  dsimp only
  rw [show fmL L a + i - fmL L a = i by omega]
theorem cnt_S {E : CD} {i : Nat} {md : MD} (h : E.2[i]? = some md) (q : Bool) : cntB q (E.2.take (i + 1)) = cntB q (E.2.take i) + (if md.2.2.1 = q then 1 else 0) := by
  rw [List.take_succ, h]
  unfold cntB
  show (List.filter _ (List.take i E.2 ++ [md])).length = _
  rw [List.filter_append, List.length_append]
  congr 1
  cases hq : md.2.2.1 <;> cases q <;> simp [hq]
/-- the MEMBERS of one CLASS of the chain -/
theorem lq_321m (Ac : ACY T N L) (hc : c < L.length) {E : CD} (hE : L[a]? = some E) (va : (vwT (nmL L) (abT T L) c a).isSome = true) {F kx : Nat} (hF : F + oflL L a = fldT T L a) (hk : kx < 16) {k35 : Nat → Int32 → Int32 → Int32 → mjH → mjU} (R : mjR) : ∀ (r i n : Nat) (s : mjSt3), i + r = E.2.length → r < n → RJ T N b ks L s → QV T L b (nMem L) s → s.1 183 kx = nI (16 * b + a) → ∃ s', L_321_70 R k35 n 97 (nI (16 * b + c)) (nI (F + cntB false (E.2.take i))) (nI kx) (nI (cntB true (E.2.take i))) (nI (400 * b + fmL L a)) (nI (400 * b + fmL L a + i)) (mjW0 s) = k35 97 (nI (16 * b + c)) (nI (fldT T L a)) (nI kx + (-1)) (mjW0 s') ∧ oPl b (16 * b + c) s s' ∧ s'.1 183 = s.1 183 ∧ KPl T L b c s s' ∧ (∀ x, i ≤ x → x < E.2.length → PL1 T L b c s' (fmL L a + x)) ∧ s'.1 110 (16 * b + a) = nI (mthL L a)
  | r, i, 0, s, e, hr, J, V, h183 => by omega
  | 0, i, n + 1, s, e, hr, J, V, h183 => by
    have hb := J.b1
    have h16 := J.len
    have m384 := J.n384
    have al : a < L.length := (List.getElem?_eq_some_iff.mp hE).1
    obtain ⟨c1, c2, c3, c4⟩ := J.mc al
    have mc : mcL L a = E.2.length := by unfold mcL; rw [hE]
    have ei : i = E.2.length := by omega
    have mt : cntB true (E.2.take i) = mthL L a := by rw [ei, List.take_length]; unfold mthL; rw [hE]
    have fl : F + cntB false (E.2.take i) = fldT T L a := by rw [ei, List.take_length, ← hF]; unfold oflL; rw [hE]
    obtain ⟨z, hz⟩ : ∃ z, z = uI s 110 (upd (s.1 110) (16 * b + a) (nI (mthL L a))) := ⟨_, rfl⟩
    refine ⟨z, ?_, by rw [hz]; exact offG.w (Or.inr (Or.inl ⟨rfl, by omega, by omega⟩)), by rw [hz, uI_ne _ _ _ _ (by decide)], ⟨fun m _ h => by rw [hz, uI_ne _ _ _ _ (by decide)]; exact h, fun m _ _ _ h => by rw [hz, uI_ne _ _ _ _ (by decide)]; exact h, fun x hx h => ?_⟩, fun x h1 h2 => by omega, by rw [hz, uI_same, upd_g, if_pos rfl]⟩
    · rw [L321_70]
      unfold b_321_70
      rw [xg_97_19, xg_97_130, wa_183 hk, h183, wa_108 (by omega), c1, nI_ad, if_pos (nI_le (by omega) (by omega)), xg_97_21, xg_97_130, wa_183 hk, h183, ws_110 (by omega), mt, fl, ← hz]
    · rw [hz, uI_same, upd_g]
      by_cases e' : x = a
      · rw [if_pos (by rw [e']), e']
      · rw [if_neg (by omega)]; exact h
  | r + 1, i, n + 1, s, e, hr, J, V, h183 => by
    have hb := J.b1
    have h16 := J.len
    have hn := Ac.1
    have m384 := J.n384
    have al : a < L.length := (List.getElem?_eq_some_iff.mp hE).1
    obtain ⟨c1, c2, c3, c4⟩ := J.mc al
    have mc : mcL L a = E.2.length := by unfold mcL; rw [hE]
    obtain ⟨m, em⟩ : ∃ m, m = fmL L a + i := ⟨_, rfl⟩
    have hm : m < nMem L := by omega
    obtain ⟨n1, n2, n3⟩ := nu_at hE (show i < E.2.length by omega)
    rw [← em] at n1 n2 n3
    have hmax : ∀ q, cntB q (E.2.take i) ≤ E.2.length := fun q => by
      have := cnt_le q (E.2.take i)
      rw [List.length_take] at this
      omega
    have h24 : ∀ x, oflL L x ≤ 24 := by
      intro x
      unfold oflL
      cases hx : L[x]? with
      | none => show 0 ≤ 24; omega
      | some D =>
        have := J.2.2.2.2.1 x D hx
        have := cnt_le false D.2
        show cntB false D.2 ≤ 24
        omega
    have fle : fldT T L a ≤ 384 := fsum_le h24 h16
    have cF : mSM L m = false → cntB false (E.2.take i) < oflL L a := by
      intro hs
      have := (num_fld (T := T) hm hs).1
      rw [n1, hs, n2] at this
      exact this
    have next : ∀ (z : mjSt3) (x1 x2 : Nat), oPl b (16 * b + c) s z → z.1 183 = s.1 183 → KPl T L b c s z → PL1 T L b c z m → x1 = cntB false (E.2.take (i + 1)) → x2 = cntB true (E.2.take (i + 1)) → L_321_70 R k35 (n + 1) 97 (nI (16 * b + c)) (nI (F + cntB false (E.2.take i))) (nI kx) (nI (cntB true (E.2.take i))) (nI (400 * b + fmL L a)) (nI (400 * b + fmL L a + i)) (mjW0 s) = L_321_70 R k35 n 97 (nI (16 * b + c)) (nI (F + x1)) (nI kx) (nI x2) (nI (400 * b + fmL L a)) (nI (400 * b + fmL L a + (i + 1))) (mjW0 z) → ∃ s', L_321_70 R k35 (n + 1) 97 (nI (16 * b + c)) (nI (F + cntB false (E.2.take i))) (nI kx) (nI (cntB true (E.2.take i))) (nI (400 * b + fmL L a)) (nI (400 * b + fmL L a + i)) (mjW0 s) = k35 97 (nI (16 * b + c)) (nI (fldT T L a)) (nI kx + (-1)) (mjW0 s') ∧ oPl b (16 * b + c) s s' ∧ s'.1 183 = s.1 183 ∧ KPl T L b c s s' ∧ (∀ x, i ≤ x → x < E.2.length → PL1 T L b c s' (fmL L a + x)) ∧ s'.1 110 (16 * b + a) = nI (mthL L a) := by
      intro z x1 x2 oz ez kz pz e1 e2 pre
      obtain ⟨s', b1, b2', b3, b4, b5, b6⟩ := lq_321m Ac hc hE va hF hk (k35 := k35) R r (i + 1) n z (by omega) (by omega) (oz.J J) (oz.Q V) (by rw [ez]; exact h183)
      rw [e1, e2] at pre
      refine ⟨s', pre.trans b1, oz.tr b2', by rw [b3, ez], KPl.trn kz b4, fun x h1 h2 => ?_, b6⟩
      by_cases e' : x = i
      · rw [e', ← em]
        exact ⟨b4.1 m hm pz.1, fun hs => b4.2.1 m hm hs (by rw [n2]; exact va) (pz.2 hs)⟩
      · exact b5 x (by omega) h2
    have pre : L_321_70 R k35 (n + 1) 97 (nI (16 * b + c)) (nI (F + cntB false (E.2.take i))) (nI kx) (nI (cntB true (E.2.take i))) (nI (400 * b + fmL L a)) (nI (400 * b + fmL L a + i)) (mjW0 s) = _ := L321_70 _ _ _ _ _ _ _ _ _ _ _
    unfold b_321_70 b_321_150 b_321_154 at pre
    rw [xg_97_19, xg_97_130, wa_183 hk, h183, wa_108 (by omega), c1, nI_ad, if_neg (nI_ge (by omega) (by omega)), xg_97_36, wa_125 (by omega), show s.1 125 (400 * b + fmL L a + i) = b2 (mSM L m) by rw [Nat.add_assoc, ← em]; exact J.sort hm] at pre
    have ix : 400 * b + fmL L a + i = 400 * b + m := by omega
    have md2 : (mdM L m).2.2.1 = mSM L m := rfl
    cases hs : mSM L m with
    | true =>
      obtain ⟨z, hz⟩ : ∃ z, z = uI s 130 (upd (s.1 130) (400 * b + m) (nI (cntB true (E.2.take i)))) := ⟨_, rfl⟩
      have nm : numM T L m = cntB true (E.2.take i) := by unfold numM; rw [if_pos hs, n1, hs]
      rw [hs, if_pos (show b2 true = 1 from rfl), xg_97_41, ix, ws_130 (by omega), ← hz, nI_1, nI_1, show 400 * b + m + 1 = 400 * b + fmL L a + (i + 1) by omega] at pre
      rw [← ix] at pre
      have rz : ∀ y, ¬ y = 130 → z.1 y = s.1 y := fun y hy => by rw [hz]; exact uI_ne _ _ _ _ hy
      refine next z (cntB false (E.2.take i)) (cntB true (E.2.take i) + 1) (by rw [hz]; exact offG.w (Or.inr (Or.inr (Or.inl ⟨rfl, by omega, by omega⟩)))) (rz 183 (by decide)) ⟨fun x hx h => ?_, fun x _ _ _ h => (by rw [rz 184 (by decide)]; exact h), fun x _ h => (by rw [rz 110 (by decide)]; exact h)⟩ ⟨?_, fun h => absurd (hs.symm.trans h) (by decide)⟩ ?_ ?_ pre
      · rw [hz, uI_same, upd_g]
        by_cases e' : x = m
        · rw [if_pos (by rw [e']), e', nm]
        · rw [if_neg (by omega)]; exact h
      · rw [hz, uI_same, upd_g, if_pos rfl, nm]
      · rw [cnt_S n3, md2, hs]; rfl
      · rw [cnt_S n3, md2, hs]; rfl
    | false =>
      have cf := cF hs
      obtain ⟨z, hz⟩ : ∃ z, z = uI s 130 (upd (s.1 130) (400 * b + m) (nI (F + cntB false (E.2.take i)))) := ⟨_, rfl⟩
      obtain ⟨w, hw⟩ : ∃ w, w = uI z 184 (upd (z.1 184) (400 * (16 * b + c) + (F + cntB false (E.2.take i))) (b2 (decide (2 ≤ tyM T L m)))) := ⟨_, rfl⟩
      have nm : numM T L m = F + cntB false (E.2.take i) := by
        have := (num_fld (T := T) hm hs).2
        rw [this, n1, hs, n2]
        omega
      have k126 : z.1 126 (400 * b + m) = s.1 126 (400 * b + m) := by rw [hz, uI_ne _ _ _ _ (by decide)]
      have neg := (V.1 m hm).1.neg
      rw [hs, if_neg (show ¬ b2 false = 1 by decide), xg_97_41, ix, ws_130 (by omega), ← hz, xg_97_131, xg_97_37, wa_126 (by omega), k126] at pre
      have i400 : (400 : Int32) * nI (16 * b + c) + nI (F + cntB false (E.2.take i)) = nI (400 * (16 * b + c) + (F + cntB false (E.2.take i))) := by rw [show (400 : Int32) = nI 400 from rfl, nI_mul, nI_ad]
      have pre' : L_321_70 R k35 (n + 1) 97 (nI (16 * b + c)) (nI (F + cntB false (E.2.take i))) (nI kx) (nI (cntB true (E.2.take i))) (nI (400 * b + fmL L a)) (nI (400 * b + m)) (mjW0 s) = L_321_70 R k35 n 97 (nI (16 * b + c)) (nI (F + (cntB false (E.2.take i) + 1))) (nI kx) (nI (cntB true (E.2.take i))) (nI (400 * b + fmL L a)) (nI (400 * b + fmL L a + (i + 1))) (mjW0 w) := by
        by_cases q : 2 ≤ tyM T L m
        · have hw' : w = uI z 184 (upd (z.1 184) (400 * (16 * b + c) + (F + cntB false (E.2.take i))) 1) := by rw [hw, decide_eq_true q]; rfl
          rw [if_neg (fun x => neg.mp x q), i400, ws_184 (by omega), nar1b, ← hw'] at pre
          simp only [nI_1] at pre
          rw [pre, show 400 * b + m + 1 = 400 * b + fmL L a + (i + 1) by omega, Nat.add_assoc]
        · have hw' : w = uI z 184 (upd (z.1 184) (400 * (16 * b + c) + (F + cntB false (E.2.take i))) 0) := by rw [hw, decide_eq_false q]; rfl
          rw [if_pos (neg.mpr q), i400, ws_184 (by omega), nar0b, ← hw'] at pre
          simp only [nI_1] at pre
          rw [pre, show 400 * b + m + 1 = 400 * b + fmL L a + (i + 1) by omega, Nat.add_assoc]
      rw [← ix] at pre'
      have o1 : oPl b (16 * b + c) s z := by rw [hz]; exact offG.w (Or.inr (Or.inr (Or.inl ⟨rfl, by omega, by omega⟩)))
      have o2 : oPl b (16 * b + c) z w := by rw [hw]; exact offG.w (Or.inr (Or.inr (Or.inr (Or.inr ⟨rfl, by omega, by omega⟩))))
      refine next w (cntB false (E.2.take i) + 1) (cntB true (E.2.take i)) (o1.tr o2) (by rw [hw, uI_ne _ _ _ _ (by decide), hz, uI_ne _ _ _ _ (by decide)]) ⟨fun x hx h => ?_, fun x hx hsx vx h => ?_, fun x _ h => by rw [hw, uI_ne _ _ _ _ (by decide), hz, uI_ne _ _ _ _ (by decide)]; exact h⟩ ⟨?_, fun _ => ?_⟩ ?_ ?_ pre'
      · rw [hw, uI_ne _ _ _ _ (by decide), hz, uI_same, upd_g]
        by_cases e' : x = m
        · rw [if_pos (by rw [e']), e', nm]
        · rw [if_neg (by omega)]; exact h
      · rw [hw, uI_same, upd_g]
        by_cases e' : numM T L x = numM T L m
        · have := num_inj Ac (fun y hy => (J.mem hy).2) hc hx hm hsx hs vx (by rw [n2]; exact va) e'
          rw [if_pos (by rw [← nm, e']), this]
        · rw [if_neg (by omega), hz, uI_ne _ _ _ _ (by decide)]; exact h
      · rw [hw, uI_ne _ _ _ _ (by decide), hz, uI_same, upd_g, if_pos rfl, nm]
      · rw [hw, uI_same, upd_g, nm, if_pos rfl]
      · rw [cnt_S n3, md2, hs]; rfl
      · rw [cnt_S n3, md2, hs]; rfl
end MJA86
