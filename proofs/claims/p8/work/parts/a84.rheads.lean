/-! ===== the reference's judge: (a) to (e), all of it ===== -/
section MJA84
variable {T : TT} {d N b k t c n m v u a o : Nat} {ks : List Nat} {L : List CD} {s s' : mjSt3} {tr : Bool}
def StJ (T : TT) (N b : Nat) (ks : List Nat) (L : List CD) (tr : Bool) (s : mjSt3) : Prop := RJ T N b ks L s ∧ s.1 97 129 = b2 tr
theorem oJG.St (o : oJG b s s') (S : StJ T N b ks L tr s) : StJ T N b ks L tr s' := by
  have f : ∀ j, ¬ (j = 61 ∨ j = 62 ∨ j = 95) → s'.1 97 j = s.1 97 j := fun j hj => o.1 97 j (by omega)
  refine ⟨S.1.off (f 63 (by omega)) (fun x hx => funext fun j => o.1 x j (by omega)) (funext fun x => funext fun j => o.2.1 x j (fun e => e)), by rw [f 129 (by omega)]; exact S.2⟩
theorem keepB (J : RJ T N b ks L s) (O : ORD T b ks L) {x : Nat} (hc : c < L.length) (hx : x < L.length) (ne : ¬ x = c) (o : oTy (fun y => ∃ i, ks[i]? = some (hC L c).2.2.1 ∧ ¬ (hC L c).2.2.1 = 0 ∧ y = 800 * b + i) s s') (A : ABr T L b s x) : ABr T L b s' x := by
  have hn := J.2.2.2.2.2.1
  have r := fun y (h1 : ¬ y = 97) (h2 : ¬ y = 139) (h3 : ¬ y = 142) => o.r h1 h2 h3
  unfold ABr at A ⊢
  cases ha : abT T L x with
  | none => rw [ha] at A; dsimp only at A ⊢; rw [r 105 (by decide) (by decide) (by decide)]; exact A
  | some kk =>
    rw [ha] at A
    obtain ⟨v, k, k1, k2, k3, k4⟩ := A
    have z : ¬ (hC L x).2.2.1 = 0 := fun e => by unfold abT at ha; rw [if_pos e] at ha; cases ha
    refine ⟨v, k, k1, by rw [r 105 (by decide) (by decide) (by decide)]; exact k2, by rw [r 138 (by decide) (by decide) (by decide)]; exact k3, k4.keep (vK.n5 hn (vK.cl hn v)).2 o ?_⟩
    obtain ⟨_, i, i1, i2⟩ := (J.hd hx).2.2.2.2.1 z
    intro ⟨j, j1, j2, j3⟩
    have hi := (List.getElem?_eq_some_iff.mp i1).1
    have hj := (List.getElem?_eq_some_iff.mp j1).1
    have l750 := J.2.2.2.1
    have hb := J.b1
    have e : nI (800 * b + i) = nI (800 * b + j) := by rw [← i2, k2, j3]
    have := (nI_eq (by omega) (by omega)).mp e
    have e2 : i = j := by omega
    subst e2
    rw [i1] at j1
    exact (O.2.2 x hx z).2 c hc j2 ne (by simpa using j1)
/-- (a) to (e) -/
theorem x_299a (S : StJ T N b ks L tr s) (Pi : PFi T N L) (P0 : PFm T N L) (O : ORD T b ks L) (g : gR0 s) : ∃ s', mjF (d + 7) 299 [.ref 97] (mjW0 s) = b_299_208 (mjF (d + 6)) 97 (nI (16 * b)) (nI L.length) (mjW0 s') ∧ oJG b s s' ∧ GR s' ∧ (gR0 s' ↔ OKh T L tr) ∧ (gR0 s' → ACY T N L ∧ SJ T N b ks L tr s' ∧ QV T L b (nMem L) s') := by
  have hb := S.1.b1
  have h16 := S.1.len
  have hn := S.1.2.2.2.2.2.1
  have l750 := S.1.2.2.2.1
  have tm : L.length < mjN := by have := mjN_v; omega
  -- (a)
  obtain ⟨s1, a1, S1, G1, i1, _, o1⟩ := phase (b := b) (n := L.length) hb h16 (Lp := L_299_20 (mjF (d + 6))) (nx := b_299_46 (mjF (d + 6))) (call := fun l1 l3 hp => mjF (d + 6) 300 [.ref 97, .int l3, .int l1] hp) (fun _ _ _ _ _ => rfl) (Q := fun _ _ => True) (St := StJ T N b ks L tr) (OK := OKa T L) (Fr := oJG b) (fun _ => offG.rf) (fun _ _ _ h1 h2 => offG.tr h1 h2) (fun c s hc S g _ => by
    obtain ⟨s', x1, x2, x3, x4⟩ := x_300 (d := d + 4) S.1 hc (Or.inl g)
    exact ⟨s', x1, oJG.St (o61.G x2) S, x3, x4.trans ⟨fun y => y.2, fun y => ⟨g, y⟩⟩, fun _ => trivial, o61.G x2⟩) L.length 0 mjN s (by omega) tm S (Or.inl g) (fun _ => trivial)
  -- (b)
  obtain ⟨s2, a2, S2, G2, i2, q2, o2⟩ := phase (b := b) (n := L.length) hb h16 (Lp := L_299_48 (mjF (d + 6))) (nx := b_299_73 (mjF (d + 6))) (call := fun _ l3 hp => mjF (d + 6) 301 [.ref 97, .int l3] hp) (fun _ _ _ _ _ => rfl) (Q := fun c s => ∀ x, x < c → ABr T L b s x) (St := StJ T N b ks L tr) (OK := OKb T L) (Fr := oJG b) (fun _ => offG.rf) (fun _ _ _ h1 h2 => offG.tr h1 h2) (fun c s hc S g q => by
    obtain ⟨s', x1, x2, x3, x4, x5⟩ := x_301 (d := d + 2) S.1 Pi hc (Or.inl g)
    have og : oJG b s s' := oTy.G (x2.mono (fun y ⟨i, y1, _, y3⟩ => by
      have := (List.getElem?_eq_some_iff.mp y1).1
      unfold bkP
      omega))
    refine ⟨s', x1, oJG.St og S, x3, x4.trans ⟨fun y => y.2, fun y => ⟨g, y⟩⟩, fun y x hx => ?_, og⟩
    by_cases e : x = c
    · rw [e]; exact x5 y
    · exact keepB S.1 O hc (by omega) e x2 (q x (by omega))) L.length 0 mjN s1 (by omega) tm S1 G1 (fun _ x hx => by omega)
  -- rings
  obtain ⟨s3, a3, S3, G3, i3, q3, o3⟩ := phase (b := b) (n := L.length) hb h16 (Lp := L_299_75 (mjF (d + 6))) (nx := b_299_100 (mjF (d + 6))) (call := fun _ l3 hp => mjF (d + 6) 306 [.ref 97, .int l3] hp) (fun _ _ _ _ _ => rfl) (Q := fun _ s => ∀ x, x < L.length → ABr T L b s x) (St := StJ T N b ks L tr) (OK := OKr T L) (Fr := oJG b) (fun _ => offG.rf) (fun _ _ _ h1 h2 => offG.tr h1 h2) (fun c s hc S g q => by
    obtain ⟨s', x1, x2, x3, x4⟩ := x_306 (d := d + 4) S.1 hc q (Or.inl g)
    exact ⟨s', x1, oJG.St (o61.G x2) S, x3, x4.trans ⟨fun y => y.2, fun y => ⟨g, y⟩⟩, fun _ x hx => (q x hx).o61 x2, o61.G x2⟩) L.length 0 mjN s2 (by omega) tm S2 G2 q2
  -- (c)
  obtain ⟨s4, a4, S4, G4, i4, q4, o4⟩ := phase (b := b) (n := L.length) hb h16 (Lp := L_299_102 (mjF (d + 6))) (nx := b_299_127 (mjF (d + 6))) (call := fun _ l3 hp => mjF (d + 6) 307 [.ref 97, .int l3] hp) (fun _ _ _ _ _ => rfl) (Q := fun c s => (∀ x, x < L.length → ABr T L b s x) ∧ ∀ x, x < c → ∀ i, i < inL L x → s.1 117 (8 * (16 * b + x) + i) = nI (ipT T L x i).1 ∧ s.1 118 (8 * (16 * b + x) + i) = nI (ipT T L x i).2) (St := StJ T N b ks L tr) (OK := OKc T L) (Fr := oJG b) (fun _ => offG.rf) (fun _ _ _ h1 h2 => offG.tr h1 h2) (fun c s hc S g q => by
    obtain ⟨s', x1, x2, x3, x4, x5⟩ := x_307 (d := d + 4) S.1 hc (Or.inl g)
    refine ⟨s', x1, oJG.St (oIn.G (by omega) x2) S, x3, x4.trans ⟨fun y => y.2, fun y => ⟨g, y⟩⟩, fun y => ⟨fun x hx => ?_, fun x hx i hi => ?_⟩, oIn.G (by omega) x2⟩
    · exact (q.1 x hx).cg (funext fun j => x2.1 105 j (by omega)) (funext fun j => x2.1 138 j (by omega)) (funext fun j => x2.1 139 j (by omega)) (funext fun j => x2.1 142 j (by omega))
    · by_cases e : x = c
      · subst e; exact x5 y i hi
      · have i8 : inL L x ≤ 8 := (S.1.hd (show x < L.length by omega)).2.2.2.2.2.2.2.2
        rw [x2.1 117 _ (by omega), x2.1 118 _ (by omega)]
        exact q.2 x (by omega) i hi) L.length 0 mjN s3 (by omega) tm S3 G3 (fun y => ⟨q3 y, fun x hx => by omega⟩)
  -- what is known
  obtain ⟨s5, a5, S5, G5, i5, q5, o5⟩ := phase (b := b) (n := L.length) hb h16 (Lp := L_299_129 (mjF (d + 6))) (nx := b_299_154 (mjF (d + 6))) (call := fun _ l3 hp => mjF (d + 6) 308 [.ref 97, .int l3] hp) (fun _ _ _ _ _ => rfl) (Q := fun c s => (∀ x, x < L.length → ABr T L b s x) ∧ IRr T L b s ∧ WIT b s c (knF T L)) (St := StJ T N b ks L tr) (OK := fun _ => True) (Fr := oJG b) (fun _ => offG.rf) (fun _ _ _ h1 h2 => offG.tr h1 h2) (fun c s hc S g q => by
    obtain ⟨s', x1, x2, x3⟩ := x_308 (d := d + 5) S.1 hc (fun i hi => q.2.1 c hc i hi)
    have r : ∀ x, ¬ x = 119 → s'.1 x = s.1 x := fun x hx => funext fun j => x2.1 x j (fun e => hx e.1)
    have g' : gR0 s' := by unfold gR0; rw [r 97 (by decide)]; exact g
    refine ⟨s', x1, oJG.St (oW.G (by omega) x2) S, Or.inl g', ⟨fun _ => trivial, fun _ => g'⟩, fun _ => ⟨fun x hx => (q.1 x hx).cg (r 105 (by decide)) (r 138 (by decide)) (r 139 (by decide)) (r 142 (by decide)), by unfold IRr; rw [r 117 (by decide), r 118 (by decide)]; exact q.2.1, fun x hx a ha e he => ?_⟩, oW.G (by omega) x2⟩
    have ra := rwR_lt ha
    have re := rwR_lt he
    by_cases e' : x = c
    · subst e'
      rw [x3 a ha e he]
      unfold knF
      rw [if_pos hc]
    · rw [x2.1 119 _ (by omega)]
      exact q.2.2 x (by omega) a ha e he) L.length 0 mjN s4 (by omega) tm S4 G4 (fun y => ⟨(q4 y).1, (q4 y).2, fun x hx => by omega⟩)
  -- (d)
  obtain ⟨s6, a6, S6, G6, i6, q6, o6⟩ := phase (b := b) (n := L.length) hb h16 (Lp := L_299_156 (mjF (d + 6))) (nx := b_299_181 (mjF (d + 6))) (call := fun _ l3 hp => mjF (d + 6) 309 [.ref 97, .int l3] hp) (fun _ _ _ _ _ => rfl) (Q := fun c s => SJ T N b ks L tr s ∧ QV T L b (fmL L c) s) (St := StJ T N b ks L tr) (OK := OKd T L tr) (Fr := oJG b) (fun _ => offG.rf) (fun _ _ _ h1 h2 => offG.tr h1 h2) (fun c s hc S g q => by
    obtain ⟨s', x1, x2, x3, x4, x5, x6⟩ := x_309 (d := d + 1) O P0 hc q.1 g q.2
    exact ⟨s', x1, oJG.St (oTy.G x6) S, x3, x4, fun y => ⟨x2, by rw [fm_S hc]; exact x5 y⟩, oTy.G x6⟩) L.length 0 mjN s5 (by omega) tm S5 G5 (fun y => ⟨⟨S5.1, (q5 y).2.2, (q5 y).2.1, S5.2⟩, fun x hx => by
      have : fmL L 0 = 0 := rfl
      omega, (q5 y).1⟩)
  have kr : gR0 s6 → ACY T N L := fun y => by
    have y5 := (i6.mp y).1
    have y4 := (i5.mp y5).1
    have y3 := (i4.mp y4).1
    exact ⟨hn, noR_of (fun c hc => (i3.mp y3).2 c (Nat.zero_le _) hc)⟩
  -- (e)
  obtain ⟨s7, a7, S7, G7, i7, q7, o7⟩ := phase (b := b) (n := L.length) hb h16 (Lp := L_299_183 (mjF (d + 6))) (nx := b_299_208 (mjF (d + 6))) (call := fun _ l3 hp => mjF (d + 6) 314 [.ref 97, .int l3] hp) (fun _ _ _ _ _ => rfl) (Q := fun _ s => ACY T N L ∧ SJ T N b ks L tr s ∧ QV T L b (nMem L) s) (St := StJ T N b ks L tr) (OK := fun c => ∀ x, x < mcL L c → OKe2 T L (fmL L c + x)) (Fr := oJG b) (fun _ => offG.rf) (fun _ _ _ h1 h2 => offG.tr h1 h2) (fun c s hc S g q => by
    obtain ⟨s', x1, x2, x3, x4⟩ := x_314 (d := d + 1) q.1 hc S.1 q.2.2 (Or.inl g)
    have r : ∀ x, ¬ x = 97 → ¬ x = 165 → ¬ x = 166 → s'.1 x = s.1 x := fun x h1 h2 h3 => x2.r h1 h2 h3
    refine ⟨s', x1, oJG.St (oOv.G x2) S, x3, x4.trans ⟨fun y => y.2, fun y => ⟨g, y⟩⟩, fun _ => ⟨q.1, ⟨(oJG.St (oOv.G (b := b) x2) S).1, ?_, ?_, (oJG.St (oOv.G (b := b) x2) S).2⟩, x2.Q q.2.2⟩, oOv.G x2⟩
    · unfold WIT; rw [r 119 (by decide) (by decide) (by decide)]; exact q.2.1.2.1
    · unfold IRr; rw [r 117 (by decide) (by decide) (by decide), r 118 (by decide) (by decide) (by decide)]; exact q.2.1.2.2.1) L.length 0 mjN s6 (by omega) tm S6 G6 (fun y => ⟨kr y, (q6 y).1, by have := (q6 y).2; rw [fm_n] at this; exact this⟩)
  refine ⟨s7, ?_, o1.tr (o2.tr (o3.tr (o4.tr (o5.tr (o6.tr o7))))), G7, ?_, q7⟩
  · rw [e_299]
    unfold f_299 b_299_0
    rw [xg_97_63, S.1.1.2, xg_97_11, xg_97_63, S.1.1.2, wa_100 (by omega), S.1.2.1.1, show (16 : Int32) * nI b = nI (16 * b) by rw [show (16 : Int32) = nI 16 from rfl, nI_mul]]
    exact a1.trans (a2.trans (a3.trans (a4.trans (a5.trans (a6.trans a7)))))
  · have hh : ∀ m, m < nMem L → hmM L m < L.length := fun m hm => (S.1.mem hm).2
    have hom : ∀ a, a < L.length → ∀ key o, omT T L a key = some o → o < nMem L ∧ hmM L o = a ∧ nkM T L o = key := by
      intro a ha key o ho
      obtain ⟨x1, x2, x3⟩ := om_lt ho
      obtain ⟨_, _, y3, _⟩ := S.1.mc ha
      have := hm_at (L := L) ha (show o - fmL L a < mcL L a by omega)
      rw [show fmL L a + (o - fmL L a) = o by omega] at this
      exact ⟨by omega, this, x3⟩
    constructor
    · intro y
      have y6 := (i7.mp y).1
      have y5 := (i6.mp y6).1
      have y4 := (i5.mp y5).1
      have y3 := (i4.mp y4).1
      have y2 := (i3.mp y3).1
      have y1 := (i2.mp y2).1
      refine ⟨fun c hc => (i1.mp y1).2 c (Nat.zero_le _) hc, fun c hc => (i2.mp y2).2 c (Nat.zero_le _) hc, fun c hc => (i3.mp y3).2 c (Nat.zero_le _) hc, fun c hc => (i4.mp y4).2 c (Nat.zero_le _) hc, fun c hc => (i6.mp y6).2 c (Nat.zero_le _) hc, ?_⟩
      refine (okE_iff (kr y6) hh hom).mp (fun m hm => ?_)
      obtain ⟨c, i, e1, e2, e3⟩ := fm_ex hm
      rw [e3]
      exact (i7.mp y).2 c (Nat.zero_le _) e1 i e2
    · intro ⟨ka, kb, kr', kc, kd, ke⟩
      have y1 := i1.mpr ⟨g, fun x _ hx => ka x hx⟩
      have y2 := i2.mpr ⟨y1, fun x _ hx => kb x hx⟩
      have y3 := i3.mpr ⟨y2, fun x _ hx => kr' x hx⟩
      have y4 := i4.mpr ⟨y3, fun x _ hx => kc x hx⟩
      have y5 := i5.mpr ⟨y4, fun x _ hx => trivial⟩
      have y6 := i6.mpr ⟨y5, fun x _ hx => kd x hx⟩
      have k2 := (okE_iff (kr y6) hh hom).mpr ke
      refine i7.mpr ⟨y6, fun c _ hc i hi => k2 _ ?_⟩
      obtain ⟨_, _, y3', _⟩ := S.1.mc hc
      omega
end MJA84
