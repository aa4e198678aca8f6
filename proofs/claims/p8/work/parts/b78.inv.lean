/-! ===== what holds between two calls ===== -/
/-- a LEAK; how many of the first n -/
def lkO (T : TT) (L : List CD) (H : HEAP) (o : Nat) : Bool := !decide ((H.2 o).2.1 0 = 0) && inWb (walkR T L H ((H.2 o).2.1 0)) o
def lkN (T : TT) (L : List CD) (H : HEAP) : Nat → Nat
  | 0 => 0
  | o + 1 => lkN T L H o + (if lkO T L H (o + 1) = true then 1 else 0)
/-- what the reference, what the class has found of the OBJECTS as they are -/
def KNm (T : TT) (L : List CD) (H : HEAP) (s : mjSt3) : Prop := s.1 97 126 = 0 ∨ (s.1 97 126 = 1 ∧ (∀ o, 1 ≤ o → o ≤ H.1 → s.1 181 o = b2 (lkO T L H o)) ∧ s.1 97 127 = nI (lkN T L H H.1))
def KNc (n : Nat) (s : mjSt3) : Prop := s.1 91 5 = 0 ∨ (s.1 91 5 = 1 ∧ (∃ m, m ≤ n ∧ s.1 91 9 = nI m) ∧ ∀ o, o ≤ n → s.1 94 o = -1 ∨ ∃ a, a ≤ n ∧ s.1 94 o = nI a)
def IBs (s : mjSt3) : Prop := I_tape s ∧ (∀ i, i < 3000 → byR (s.1 1 i)) ∧ ((∀ i, i < 16 → s.2.1 59 i = lN (rN gC (wdL.getD i []))) ∧ ∀ i, i < 16 → s.2.1 99 (i + 1) = lN (rN gM (wdL.getD i []))) ∧ (isP (s.2.2 0 6) ∧ isP (s.2.2 0 7) ∧ ¬ s.2.2 0 6 = s.2.2 0 7) ∧ (∃ h, h ≤ 1 ∧ s.1 97 9 = nI h) ∧ isP (s.2.2 91 1)
/-- no RUN -/
def IZ (s : mjSt3) : Prop := (s.1 97 96 = 0 ∧ s.1 82 8 = 0) ∧ (s.1 82 9 = 0 ∧ s.1 82 10 = 0 ∧ s.1 82 11 = -1 ∧ s.1 82 12 = 0 ∧ s.1 82 13 = 0) ∧ (s.1 79 2 = 0 ∧ s.1 79 3 = 0) ∧ (s.1 83 0 = 0 ∧ s.1 83 1 = 0) ∧ KNc 0 s
/-- a program -/
def IPG (T : TT) (N b q : Nat) (t : PT) (rs : List RcM) (kb : Nat) (z : PB) (tr : Bool) (cs : Nat → Nat) (s : mjSt3) : Prop := (b ≤ 1 ∧ s.1 97 9 = nI b ∧ s.1 97 10 = 1 ∧ s.2.2 0 6 = q ∧ s.1 0 8 = 1) ∧ (PRX T N (800 * b) t rs kb z tr ∧ SYX t rs z ∧ (∀ c, fldT T t.1 c ≤ 384) ∧ HBd T N b t rs kb z tr) ∧ JKP T N b t rs z tr s ∧ PG T t.1 q s ∧ CPC T t rs z tr (800 * b) q cs s ∧ (∀ m, m ≤ 384 → isMT t.1 m = true → s.1 (q + 22) m = nI (vnT t m)) ∧ TRc T N (800 * b) t rs kb z ∧ N ≤ 3000
/-- a RUN -/
def IRN (i : Nat) (T : TT) (b q : Nat) (t : PT) (rs : List RcM) (z : PB) (tr : Bool) (cs : Nat → Nat) (wm cm : Nat) (A : AMS) (s : mjSt3) : Prop := (wm ≤ 4000 ∧ cm ≤ 40) ∧ (1 ≤ A.2.2.2.2.2.2.2.2.1 ∧ A.2.2.2.2.2.2.2.2.1 ≤ 3 ∧ A.2.2.2.2.1 ≤ 41 ∧ A.2.2.2.2.2.2.2.1 ≤ 2000 * i) ∧ (AOK T t rs z tr (800 * b) wm cm A ∧ YI rs z A) ∧ CRn T t.1 (pfC T t rs z tr (800 * b) cs) wm cm (pcO (pfC T t rs z tr (800 * b) cs) A) A s ∧ MRn T t b wm cm A s ∧ (s.2.2 82 2 = q ∧ s.2.2 82 3 = q + 24 ∧ s.2.2 91 1 = q) ∧ KNc A.1.1 s ∧ KNm T t.1 A.1 s
def Inv (i : Nat) (s : mjSt3) : Prop := IBs s ∧ ((s.1 0 8 = 0 ∧ s.1 97 10 = 0 ∧ IZ s) ∨ ∃ T N b q t rs kb z tr cs, IPG T N b q t rs kb z tr cs s ∧ (IZ s ∨ ∃ wm cm A, IRN i T b q t rs z tr cs wm cm A s))
section MJB78
variable {T : TT} {N b kb q wm cm pc i i' n : Nat} {L : List CD} {pf : Nat → Nat → Nat} {t : PT} {rs : List RcM} {z : PB} {tr : Bool} {cs : Nat → Nat} {H : HEAP} {A : AMS} {s s' : mjSt3}
/-- the reference's RUN, when handles from 97 on are left -/
theorem MRn.lo (M : MRn T t b wm cm A s) (e : ∀ h, 97 ≤ h → s'.1 h = s.1 h) : MRn T t b wm cm A s' := by
  obtain ⟨⟨⟨a1, a2, a3, a4⟩, ⟨a5, a6, a7⟩, ⟨a8, a9, a10⟩, ⟨a11, a12⟩, a13⟩, hH, hF, hT⟩ := M
  have e97 := e 97 (Nat.le_refl _)
  refine ⟨⟨⟨by rw [e97]; exact a1, by rw [e97]; exact a2, by rw [e97]; exact a3, by rw [e97]; exact a4⟩, ⟨by rw [e97]; exact a5, by rw [e97]; exact a6, by rw [e97]; exact a7⟩, ⟨by rw [e97]; exact a8, by rw [e97]; exact a9, by rw [e97]; exact a10⟩, ⟨by rw [e97]; exact a11, by rw [e97]; exact a12⟩, fun i h1 h2 => by rw [e 167 (by omega)]; exact a13 i h1 h2⟩, hH.keep (fun x hx => e x (by omega)), FRr.keep (fun x hx => e x (by omega)) _ hF, fun g gs hg => ?_⟩
  obtain ⟨c1, c2, c3⟩ := hT g gs hg
  exact ⟨by rw [e97]; exact c1, by rw [e97]; exact c2, STr.low _ (fun j _ => by rw [e 176 (by omega)]) c3⟩
/-- the walker's fields and rows are nothing to a RUN -/
theorem MRn.wk (M : MRn T t b wm cm A s) (e : ∀ j, ¬ (j = 124 ∨ j = 126 ∨ j = 127) → s'.1 97 j = s.1 97 j) (er : ∀ h, 167 ≤ h ∧ h ≤ 176 → s'.1 h = s.1 h) : MRn T t b wm cm A s' := by
  obtain ⟨⟨⟨a1, a2, a3, a4⟩, ⟨a5, a6, a7⟩, ⟨a8, a9, a10⟩, ⟨a11, a12⟩, a13⟩, hH, hF, hT⟩ := M
  refine ⟨⟨⟨by rw [e 96 (by omega)]; exact a1, by rw [e 97 (by omega)]; exact a2, by rw [e 98 (by omega)]; exact a3, by rw [e 99 (by omega)]; exact a4⟩, ⟨by rw [e 100 (by omega)]; exact a5, by rw [e 105 (by omega)]; exact a6, by rw [e 106 (by omega)]; exact a7⟩, ⟨by rw [e 102 (by omega)]; exact a8, by rw [e 103 (by omega)]; exact a9, by rw [e 116 (by omega)]; exact a10⟩, ⟨by rw [e 101 (by omega)]; exact a11, by rw [e 104 (by omega)]; exact a12⟩, fun i h1 h2 => by rw [er 167 (by omega)]; exact a13 i h1 h2⟩, hH.keep (fun x hx => er x (by omega)), FRr.keep (fun x hx => er x (by omega)) _ hF, fun g gs hg => ?_⟩
  obtain ⟨c1, c2, c3⟩ := hT g gs hg
  exact ⟨by rw [e 119 (by omega)]; exact c1, by rw [e 118 (by omega)]; exact c2, STr.low _ (fun j _ => by rw [er 176 (by omega)]) c3⟩
/-- the class's RUN, when its handles are left -/
theorem CRn.hi (M : CRn T L pf wm cm pc A s) (e : ∀ h, 79 ≤ h ∧ h ≤ 90 → s'.1 h = s.1 h) : CRn T L pf wm cm pc A s' := by
  obtain ⟨⟨⟨a1, a2, a3, a4⟩, ⟨a5, a6, a7⟩, ⟨a8, a9, a10⟩, ⟨a11, a12⟩, a13⟩, hH, hF, hT⟩ := M
  have e82 := e 82 (by omega)
  have e83 := e 83 (by omega)
  have e79 := e 79 (by omega)
  refine ⟨⟨⟨by rw [e82]; exact a1, by rw [e82]; exact a2, by rw [e82]; exact a3, by rw [e82]; exact a4⟩, ⟨by rw [e82]; exact a5, by rw [e83]; exact a6, by rw [e82]; exact a7⟩, ⟨by rw [e79]; exact a8, by rw [e79]; exact a9, by rw [e83]; exact a10⟩, ⟨by rw [e79]; exact a11, by rw [e82]; exact a12⟩, fun i h1 h2 => by rw [e 90 (by omega)]; exact a13 i h1 h2⟩, hH.keep (fun x hx => e x (by omega)), FRc.keep (fun x hx => e x (by omega)) _ hF, fun g gs hg => ?_⟩
  obtain ⟨c1, c2, c3⟩ := hT g gs hg
  exact ⟨by rw [e82]; exact c1, by rw [e82]; exact c2, STc.low _ (fun j _ => by rw [e 89 (by omega)]) c3⟩
theorem KNc.keep (K : KNc n s) (e : ∀ h, h = 91 ∨ h = 94 → s'.1 h = s.1 h) : KNc n s' := by
  unfold KNc
  rw [e 91 (by omega), e 94 (by omega)]
  exact K
theorem KNm.keep (K : KNm T L H s) (e : ∀ h, h = 97 ∨ h = 181 → s'.1 h = s.1 h) : KNm T L H s' := by
  unfold KNm
  rw [e 97 (by omega), e 181 (by omega)]
  exact K
theorem IPG.keep (G : IPG T N b q t rs kb z tr cs s) (e97 : s'.1 97 9 = s.1 97 9 ∧ s'.1 97 10 = s.1 97 10) (e0 : s'.2.2 0 6 = s.2.2 0 6 ∧ s'.1 0 8 = s.1 0 8) (ej : JKP T N b t rs z tr s → JKP T N b t rs z tr s') (ei : ∀ h, q ≤ h ∧ h ≤ q + 27 → s'.1 h = s.1 h) (el : ∀ h, q ≤ h ∧ h ≤ q + 27 → s'.2.1 h = s.2.1 h) : IPG T N b q t rs kb z tr cs s' := by
  obtain ⟨⟨g1, g2, g3, g4, g5⟩, g6, g7, g8, g9, g10, g11⟩ := G
  exact ⟨⟨g1, by rw [e97.1]; exact g2, by rw [e97.2]; exact g3, by rw [e0.1]; exact g4, by rw [e0.2]; exact g5⟩, g6, ej g7, g8.cg ei el, g9.cg (fun h hh => ei h (by omega)), fun m hm im => by rw [ei (q + 22) (by omega)]; exact g10 m hm im, g11⟩
theorem IRN.mono (R : IRN i T b q t rs z tr cs wm cm A s) (h : i ≤ i') : IRN i' T b q t rs z tr cs wm cm A s := by
  obtain ⟨r1, ⟨r2, r3, r4, r5⟩, r6⟩ := R
  exact ⟨r1, ⟨r2, r3, r4, by omega⟩, r6⟩
theorem Inv.mono (h : Inv i s) (hi : i ≤ i') : Inv i' s := by
  obtain ⟨h1, h2⟩ := h
  refine ⟨h1, ?_⟩
  rcases h2 with h2 | ⟨T, N, b, q, t, rs, kb, z, tr, cs, h3, h4⟩
  · exact Or.inl h2
  · refine Or.inr ⟨T, N, b, q, t, rs, kb, z, tr, cs, h3, ?_⟩
    rcases h4 with h4 | ⟨wm, cm, A, h4⟩
    · exact Or.inl h4
    · exact Or.inr ⟨wm, cm, A, h4.mono hi⟩
theorem IPG.isq (G : IPG T N b q t rs kb z tr cs s) : q = 2 ∨ q = 30 := G.2.2.2.1.1.1
end MJB78
