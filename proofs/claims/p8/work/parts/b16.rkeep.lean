/-! ===== the reference's judge: one BLOCK among all ===== -/
def EvR (T : TT) (b : Nat) (t : PT) (tr : Bool) (m : Nat) : EV := EmT T t.1 tr (ktL (800 * b) t.2.2.1) m
def moM (m : Nat) : Option Nat := if m = 384 then none else some m
/-- a BLOCK's orders as they were read; the OVER behind them; as they were judged -/
def RwB (b : Nat) (t : PT) (z : PB) (m : Nat) (s : mjSt3) : Prop := ∀ (k : Nat) (r : Row), z.2.2.2.1[k]? = some r → Rw s (5000 * b + (i0T t m + k)) r
def OvB (b : Nat) (t : PT) (z : PB) (m : Nat) (s : mjSt3) : Prop := Rw s (5000 * b + (i0T t m + z.2.2.2.1.length)) oOver
def DnB (T : TT) (b : Nat) (t : PT) (tr : Bool) (z : PB) (m : Nat) (s : mjSt3) : Prop := JDG (EvR T b t tr m) b s (i0T t m) z.2.2.2.1 (jmT T t.1 m)
/-- the METHODS in D are judged, the others not yet -/
def JBI (T : TT) (N b : Nat) (t : PT) (rs : List RcM) (z : PB) (tr : Bool) (D : Nat → Prop) (s : mjSt3) : Prop := BS T N b t.2.2.1 t.1 tr s ∧ s.1 123 b = nI (i0T t 384) ∧ ∀ m, m ≤ 384 → isMT t.1 m = true → OvB b t (zT rs z m) m s ∧ (D m → DnB T b t tr (zT rs z m) m s) ∧ (¬ D m → RwB b t (zT rs z m) m s)
/-- what the judge of BLOCKS stands on -/
def HBd (T : TT) (N b : Nat) (t : PT) (rs : List RcM) (kb : Nat) (z : PB) (tr : Bool) : Prop := (∀ m, m ≤ 384 → isMT t.1 m = true → BDf T N b t m (kqT T rs kb m) (zT rs z m)) ∧ (∀ m m', m ≤ 384 → m' ≤ 384 → isMT t.1 m = true → isMT t.1 m' = true → ¬ m = m' → BDx t m m' (kqT T rs kb m) (kqT T rs kb m') (zT rs z m) (zT rs z m')) ∧ FX T N b t.2.2.1 t.1 tr ∧ t.2.2.2.1.length < 5000 ∧ nMem t.1 ≤ 384 ∧ t.2.2.1.length ≤ 750 ∧ b ≤ 1
/-- all that judging BLOCKS changes in bank b -/
def oBA (b : Nat) : mjSt3 → mjSt3 → Prop := oBy b 0 5000 (800 * b) (800 * b + 800)
section MJB16
variable {T : TT} {N b kb m d i en lo hi : Nat} {t : PT} {rs : List RcM} {z : PB} {tr : Bool} {s s' : mjSt3} {D D' : Nat → Prop} {E : EV} {j : JS}
theorem oBy.mono2 {i' en' lo' hi' : Nat} (o : oBy b i en lo hi s s') (h1 : i' ≤ i) (h2 : en ≤ en') (h3 : lo' ≤ lo) (h4 : hi ≤ hi' ∨ hi ≤ lo) : oBy b i' en' lo' hi' s s' := offG.mono o (fun x y w => by
  rcases w with w | w | w | w | w | w | w | w
  · exact Or.inl (w)
  · exact Or.inr (Or.inl (⟨w.1, by omega, by omega⟩))
  · exact Or.inr (Or.inr (Or.inl (w)))
  · exact Or.inr (Or.inr (Or.inr (Or.inl (w))))
  · exact Or.inr (Or.inr (Or.inr (Or.inr (Or.inl (w)))))
  · exact Or.inr (Or.inr (Or.inr (Or.inr (Or.inr (Or.inl (w))))))
  · exact Or.inr (Or.inr (Or.inr (Or.inr (Or.inr (Or.inr (Or.inl (⟨w.1, by omega, by omega⟩)))))))
  · exact Or.inr (Or.inr (Or.inr (Or.inr (Or.inr (Or.inr (Or.inr (⟨w.1, by omega, by omega⟩)))))))) (fun _ _ x => x)
theorem oBy.mono {i' en' lo' hi' : Nat} (o : oBy b i en lo hi s s') (h1 : i' ≤ i) (h2 : en ≤ en') (h3 : lo' ≤ lo) (h4 : hi ≤ hi') : oBy b i' en' lo' hi' s s' := oBy.mono2 o h1 h2 h3 (Or.inl h4)
theorem Rw.keepY {k : Nat} {r : Row} (h : Rw s k r) (o : oBy b i en lo hi s s') (hk : ¬ (5000 * b + i ≤ k ∧ k < 5000 * b + en)) : Rw s' k r := ⟨by rw [o.1 143 _ (by omega)]; exact h.1, by rw [o.1 144 _ (by omega)]; exact h.2.1, by rw [o.1 145 _ (by omega)]; exact h.2.2.1, by rw [o.1 146 _ (by omega)]; exact h.2.2.2.1, by rw [o.2.1 147 _ (show ¬ (147 : Nat) = 158 by decide)]; exact h.2.2.2.2⟩
theorem TKr.keepY {ti : Int32} {ty : Nat} {L : List CD} (hn : HN T N L) (K : TKr L b s ti ty) (o : oBy b i en lo hi s s') (h : ∀ k, k < 1600 → ti = nI k → ¬ (lo ≤ k ∧ k < hi)) : TKr L b s' ti ty := by
  match ty, K with
  | 0, K => exact K
  | 1, K => exact K.elim
  | kk + 2, ⟨v, k, k1, k2, k3, k4, k5⟩ =>
    have n5 := (vK.n5 hn (v.cl hn)).2
    have out := h k k1 k2
    refine ⟨v, k, k1, k2, ?_, ?_, fun a ha => ?_⟩
    · rw [o.1 138 k (by omega)]; exact k3
    · rw [o.1 139 k (by omega)]; exact k4
    · rw [o.1 142 (5 * k + a) (by omega)]; exact k5 a ha
theorem sdW_kd : ∀ (l : List Row) (i : Nat) (x : WS), sdW l i x → ∀ (j : Nat) (r : Row), l[j]? = some r → (r.1 = 7 ∨ r.1 = 14) → ∃ X, r.2.2.1 = nI X ∧ x.1.1 ≤ X ∧ X < (fdW l i x).1.1
  | [], _, _, _, _, _, h, _ => by cases h
  | a :: l, i, x, sc, 0, r, hr, h => by
    have e : a = r := by simpa using hr
    subst e
    have hE : isE a := by rcases h with h | h <;> (unfold isE; rw [h]; decide)
    have okE : okEr 60 20 120 a x.1 := by
      rcases sc.1 with ok | ⟨hr, _⟩ | ⟨hr, _⟩ | ⟨hr, _⟩ | ⟨hr, _⟩ | ⟨hr, _⟩ | ⟨hr, _⟩ | hr | ⟨hr, _⟩ | ⟨hr, _⟩
      · exact ok
      · rcases h with h | h <;> exact absurd (hr.symm.trans h) (by decide)
      · rcases h with h | h <;> exact absurd (hr.symm.trans h) (by decide)
      · rcases h with h | h <;> rcases hr with hr | hr <;> exact absurd (hr.1.symm.trans h) (by decide)
      · rcases h with h | h <;> exact absurd (hr.symm.trans h) (by decide)
      · rcases h with h | h <;> exact absurd (hr.symm.trans h) (by decide)
      · rcases h with h | h <;> rcases hr with hr | hr | hr | hr <;> exact absurd (hr.symm.trans h) (by decide)
      · rcases h with h | h <;> rcases hr with hr | hr | hr | hr <;> exact absurd (hr.symm.trans h) (by decide)
      · rcases h with h | h <;> exact absurd (hr.symm.trans h) (by decide)
      · rcases h with h | h <;> exact absurd (hr.symm.trans h) (by decide)
    have X1 : (nxW a i x).1.1 = x.1.1 + 1 := by
      rw [nxW_E hE]
      show (hxE a x.1).1 = x.1.1 + 1
      rcases h with h | h
      · unfold hxE
        rw [h, if_neg (by decide), if_pos rfl]
      · rw [hx_14 h]
    have mo := fdW_mono l (i + 1) (nxW a i x)
    refine ⟨x.1.1, okE.2.1 h, Nat.le_refl _, ?_⟩
    show x.1.1 < (fdW l (i + 1) (nxW a i x)).1.1
    omega
  | a :: l, i, x, sc, j + 1, r, hr, h => by
    have hr' : l[j]? = some r := hr
    obtain ⟨X, x1, x2, x3⟩ := sdW_kd l (i + 1) (nxW a i x) sc.2 j r hr' h
    have mo := (nxW_mono a i x).1
    exact ⟨X, x1, by omega, x3⟩
theorem JDG.keep {os : List Row} {i' : Nat} (hn : HN E.1 N E.2.1) (J : JDG E b s i os j) (o : oBy b i' en lo hi s s') (h1 : i + os.length ≤ i' ∨ en ≤ i) (h2 : ∀ (k : Nat) (r : Row), os[k]? = some r → (r.1 = 7 ∨ r.1 = 14) → ∃ X, r.2.2.1 = nI X ∧ X < 100000 ∧ ¬ (lo ≤ X ∧ X < hi)) : JDG E b s' i os j := by
  intro k r hk j1 l1 hj
  obtain ⟨a1, a2⟩ := J k r hk j1 l1 hj
  have kl := (List.getElem?_eq_some_iff.mp hk).1
  refine ⟨a1.keepY o (by omega), fun h kk hkk => (a2 h kk hkk).keepY hn o (fun y hy e => ?_)⟩
  obtain ⟨X, x1, x2, x3⟩ := h2 k r hk h
  rw [x1] at e
  have := (nI_eq (by omega) (by omega)).mp e
  rw [← this]
  exact x3
theorem JBI.cg (I : JBI T N b t rs z tr D s) (h : ∀ x, isMT t.1 x = true → (D x ↔ D' x)) : JBI T N b t rs z tr D' s := ⟨I.1, I.2.1, fun m hm im => ⟨(I.2.2 m hm im).1, fun d => (I.2.2 m hm im).2.1 ((h m im).mpr d), fun d => (I.2.2 m hm im).2.2 (fun e => d ((h m im).mp e))⟩⟩
theorem EvR_1 (m : Nat) : (EvR T b t tr m).1 = T ∧ (EvR T b t tr m).2.1 = t.1 := by
  unfold EvR EmT
  by_cases e : m = 384
  · rw [if_pos e]; exact ⟨rfl, rfl⟩
  · rw [if_neg e]; exact ⟨rfl, rfl⟩
/-- a BLOCK was judged: the others are as they were -/
theorem bd_tail (H : HBd T N b t rs kb z tr) (hm : m ≤ 384) (im : isMT t.1 m = true) (I : JBI T N b t rs z tr D s) (o : oBy b (i0T t m) (i0T t m + (zT rs z m).2.2.2.1.length) (kqT T rs kb m) (kqT T rs kb m + (zT rs z m).2.2.1.length) s s') (S : BS T N b t.2.2.1 t.1 tr s') (J : DnB T b t tr (zT rs z m) m s') : JBI T N b t rs z tr (fun x => D x ∨ x = m) s' := by
  refine ⟨S, by rw [o.1 123 b (by omega)]; exact I.2.1, fun x hx ix => ?_⟩
  obtain ⟨i1, i2, i3⟩ := I.2.2 x hx ix
  by_cases e : x = m
  · subst e
    exact ⟨i1.keepY o (by omega), fun _ => J, fun h => absurd (Or.inr rfl) h⟩
  · obtain ⟨y1, y2⟩ := H.2.1 m x hm hx im ix (fun h => e h.symm)
    obtain ⟨f1, f2, f3, f4, f5⟩ := H.1 x hx ix
    refine ⟨i1.keepY o (by omega), fun h => ?_, fun h => ?_⟩
    · refine JDG.keep (N := N) (by rw [(EvR_1 x).1, (EvR_1 x).2]; exact S.1.1.2.2.2.2.2.1) (i2 (h.elim id (fun h => absurd h e))) o (by omega) (fun k r hk hr => ?_)
      obtain ⟨X, x1, x2, x3⟩ := sdW_kd _ _ _ f1 k r hk hr
      have x2' : kqT T rs kb x ≤ X := x2
      exact ⟨X, x1, by omega, fun ⟨l1, l2⟩ => y2 X l1 l2 x2' (by omega)⟩
    · intro k r hk
      have kl := (List.getElem?_eq_some_iff.mp hk).1
      exact (i3 (fun hd => h (Or.inl hd)) k r hk).keepY o (by omega)
/-- judgeBody of one METHOD, or of main, among all -/
theorem x_bd (H : HBd T N b t rs kb z tr) (hm : m ≤ 384) (im : isMT t.1 m = true) (nd : ¬ D m) (I : JBI T N b t rs z tr D s) (g : gR0 s) : ∃ s', mjF (d + 8) 322 [.ref 97, .int (mR b (moM m))] (mjW0 s) = some (none, mjW0 s') ∧ oBA b s s' ∧ ((¬ jrun (EvR T b t tr m) (zT rs z m).2.2.2.1 (jmT T t.1 m) = none ∧ gR0 s' ∧ JBI T N b t rs z tr (fun x => D x ∨ x = m) s') ∨ (jrun (EvR T b t tr m) (zT rs z m).2.2.2.1 (jmT T t.1 m) = none ∧ bR0 s')) := by
  obtain ⟨f1, f2, f3, f4, f5⟩ := H.1 m hm im
  obtain ⟨i1, i2, i3⟩ := I.2.2 m hm im
  have F := H.2.2.1
  have o5 := H.2.2.2.1
  have k75 := H.2.2.2.2.2.1
  have hb := H.2.2.2.2.2.2
  have ov := f4.ov.1
  have en5 : i0T t m + (zT rs z m).2.2.2.1.length < 5000 := by
    have := (List.getElem?_eq_some_iff.mp ov).1
    omega
  have rows := i3 nd
  have last : s.1 143 (5000 * b + (i0T t m + (zT rs z m).2.2.2.1.length)) = 28 ∧ s.1 145 (5000 * b + (i0T t m + (zT rs z m).2.2.2.1.length)) = 0 := ⟨i1.1, i1.2.2.1⟩
  have kb0 : 800 * b ≤ kqT T rs kb m := f3.2.1.1
  have kb1 : kqT T rs kb m + (zT rs z m).2.2.1.length ≤ 800 * b + 800 ∨ (zT rs z m).2.2.1.length = 0 := by
    by_cases q : (zT rs z m).2.2.1.length = 0
    · exact Or.inr q
    · obtain ⟨u, hu⟩ : ∃ u, (zT rs z m).2.2.1[(zT rs z m).2.2.1.length - 1]? = some u := ⟨_, List.getElem?_eq_getElem (by omega)⟩
      have w := f3.2.1.2 _ u hu
      have := (List.getElem?_eq_some_iff.mp w).1
      exact Or.inl (by omega)
  have main : ∃ s', mjF (d + 8) 322 [.ref 97, .int (mR b (moM m))] (mjW0 s) = some (none, mjW0 s') ∧ oBy b (i0T t m) (i0T t m + (zT rs z m).2.2.2.1.length) (kqT T rs kb m) (kqT T rs kb m + (zT rs z m).2.2.1.length) s s' ∧ match jrun (EvR T b t tr m) (zT rs z m).2.2.2.1 (jmT T t.1 m) with
      | none => bR0 s'
      | some _ => gR0 s' ∧ BS T N b t.2.2.1 t.1 tr s' ∧ JDG (EvR T b t tr m) b s' (i0T t m) (zT rs z m).2.2.2.1 (jmT T t.1 m) := by
    by_cases e : m = 384
    · have e1 : moM m = none := if_pos e
      have e2 : EvR T b t tr m = (T, t.1, tr, ktL (800 * b) t.2.2.1, none, 0, fun _ => 0) := if_pos e
      have e3 : jmT T t.1 m = ([], [], [], 0, 0, (0, 0), 0, []) := by unfold jmT npT; rw [if_pos e, if_pos e]
      have e4 : npT t.1 m = 0 := if_pos e
      rw [e1, e2, e3]
      rw [e4] at f1 f2
      exact x_322 (d := d) (E := (T, t.1, tr, ktL (800 * b) t.2.2.1, none, 0, fun _ => 0)) (mm := none) (zk := (zT rs z m).2.2.1) F f3 rfl (by omega) en5 I.1 g ⟨rfl, rfl, by rw [e]; exact I.2.1⟩ rows last f1 f2
    · obtain ⟨g1, g2⟩ := isMT_lt im e
      have e1 : moM m = some m := if_neg e
      have e2 : EvR T b t tr m = (T, t.1, tr, ktL (800 * b) t.2.2.1, some (hmM t.1 m), tyM T t.1 m, fun _ => 0) := if_neg e
      have e3 : jmT T t.1 m = ([], [], pvs T t.1 m (psM t.1 m).length, (psM t.1 m).length, 0, (0, 0), 0, []) := by unfold jmT npT; rw [if_neg e, if_neg e]
      have e4 : npT t.1 m = (psM t.1 m).length := if_neg e
      have e5 : i0T t m = (mdM t.1 m).2.2.2.2.2.2.1 := if_neg e
      have h129 : s.1 129 (400 * b + m) = nI (i0T t m) := by
        rw [e5]
        have := (I.1.1.1.mem g1).1.2.2.2.1
        rw [this]
        exact if_pos g2
      rw [e1, e2, e3]
      rw [e4] at f1 f2
      exact x_322 (d := d) (E := (T, t.1, tr, ktL (800 * b) t.2.2.1, some (hmM t.1 m), tyM T t.1 m, fun _ => 0)) (mm := some m) (zk := (zT rs z m).2.2.1) F f3 rfl (by omega) en5 I.1 g ⟨g1, rfl, rfl, h129⟩ rows last f1 f2
  obtain ⟨s', a1, a2, a3⟩ := main
  have oA : oBA b s s' := by
    rcases kb1 with q | q
    · exact oBy.mono a2 (by omega) (by omega) kb0 q
    · exact oBy.mono2 a2 (by omega) (by omega) kb0 (Or.inr (by omega))
  cases hj : jrun (EvR T b t tr m) (zT rs z m).2.2.2.1 (jmT T t.1 m) with
  | none =>
    rw [hj] at a3
    exact ⟨s', a1, oA, Or.inr ⟨rfl, a3⟩⟩
  | some y =>
    rw [hj] at a3
    exact ⟨s', a1, oA, Or.inl ⟨fun h => (by cases h), a3.1, bd_tail H hm im I a2 a3.2.1 a3.2.2⟩⟩
end MJB16
