/-! ===== the reference's judge of BLOCKS: what stays, what it goes by ===== -/
/-- what one order's judging changes, KINDS aside -/
def oV (k : Nat) : mjSt3 → mjSt3 → Prop := offG (fun h j => (h = 97 ∧ (j = 61 ∨ j = 62 ∨ j = 82 ∨ j = 87 ∨ j = 88 ∨ j = 92 ∨ j = 95)) ∨ (h = 145 ∧ j = k) ∨ (155 ≤ h ∧ h ≤ 157) ∨ (159 ≤ h ∧ h ≤ 163) ∨ h = 165 ∨ h = 166) (fun h _ => h = 158)
/-- with KINDS lo to hi -/
def oJd (k lo hi : Nat) : mjSt3 → mjSt3 → Prop := offG (fun h j => (h = 97 ∧ (j = 61 ∨ j = 62 ∨ j = 82 ∨ j = 87 ∨ j = 88 ∨ j = 92 ∨ j = 95)) ∨ (h = 145 ∧ j = k) ∨ (155 ≤ h ∧ h ≤ 157) ∨ (159 ≤ h ∧ h ≤ 163) ∨ h = 165 ∨ h = 166 ∨ (h = 139 ∧ lo ≤ j ∧ j < hi) ∨ (h = 142 ∧ lo ≤ j / 5 ∧ j / 5 < hi)) (fun h _ => h = 158)
/-- all that was judged of heads -/
def BS (T : TT) (N b : Nat) (ks : List Nat) (L : List CD) (tr : Bool) (s : mjSt3) : Prop := SJ T N b ks L tr s ∧ QV T L b (nMem L) s ∧ PLr T L b s
def FX (T : TT) (N b : Nat) (ks : List Nat) (L : List CD) (tr : Bool) : Prop := ACY T N L ∧ ORD T b ks L ∧ PFm T N L ∧ (∀ m, m < nMem L → OKm T L tr m) ∧ (T N).1 = 0
/-- no TYPE or KIND of a head stands from lo to hi -/
def ORB (L : List CD) (lo hi : Nat) : Prop := (∀ m, m < nMem L → ¬ (lo ≤ (mdM L m).1 ∧ (mdM L m).1 < hi) ∧ ∀ (i : Nat) (p : Nat × Nat × Int32), (psM L m)[i]? = some p → ¬ (lo ≤ p.1 ∧ p.1 < hi)) ∧ ∀ c, c < L.length → ¬ (hC L c).2.2.1 = 0 → ¬ (lo ≤ (hC L c).2.2.1 ∧ (hC L c).2.2.1 < hi)
/-- a BLOCK's KINDS: where they stand, their numbers kq to Xe -/
def BK (T : TT) (N b : Nat) (ks : List Nat) (L : List CD) (lo hi kq : Nat) (zk : List Nat) : Prop := kdR T lo hi zk ∧ SBk (800 * b) ks kq zk ∧ ORB L lo hi ∧ hi ≤ N + 1
section MJA97
variable {T : TT} {d N b k t c n m v lo hi kq : Nat} {ks zk : List Nat} {L : List CD} {s s' s'' : mjSt3} {tr : Bool} {ti : Int32} {P : Nat → Prop}
theorem oUp.V (o : oUp s s') : oV k s s' := offG.mono o (fun h j x => by omega) (fun _ _ x => x.elim)
theorem oT.V (o : oT n s s') : oV k s s' := offG.mono o (fun h j x => by omega) (fun _ _ x => x.elim)
theorem o61.V (o : o61 s s') : oV k s s' := offG.mono o (fun h j x => by omega) (fun _ _ x => x.elim)
theorem oV.J2 (o : oV k s s') : oJd k lo hi s s' := offG.mono o (fun h j z => by
  rcases z with z | z | z | z | z | z
  · exact Or.inl z
  · exact Or.inr (Or.inl z)
  · exact Or.inr (Or.inr (Or.inl z))
  · exact Or.inr (Or.inr (Or.inr (Or.inl z)))
  · exact Or.inr (Or.inr (Or.inr (Or.inr (Or.inl z))))
  · exact Or.inr (Or.inr (Or.inr (Or.inr (Or.inr (Or.inl z)))))) (fun _ _ x => x)
theorem oTy.J2 (o : oTy P s s') (h : ∀ x, P x → lo ≤ x ∧ x < hi) : oJd k lo hi s s' := offG.mono o (fun x j z => by
  rcases z with z | ⟨z, y⟩ | ⟨z, y⟩
  · exact Or.inl ⟨z.1, by omega⟩
  · have := h _ y
    omega
  · have := h _ y
    omega) (fun _ _ x => x.elim)
theorem oV.r (o : oV k s s') {h : Nat} (hh : ¬ (h = 97 ∨ h = 145 ∨ (155 ≤ h ∧ h ≤ 157) ∨ (159 ≤ h ∧ h ≤ 163) ∨ h = 165 ∨ h = 166)) : s'.1 h = s.1 h := funext fun j => o.1 h j (by omega)
theorem oV.f (o : oV k s s') {j : Nat} (hh : ¬ (j = 61 ∨ j = 62 ∨ j = 82 ∨ j = 87 ∨ j = 88 ∨ j = 92 ∨ j = 95)) : s'.1 97 j = s.1 97 j := o.1 97 j (by omega)
theorem oV.l (o : oV k s s') {h : Nat} (hh : ¬ h = 158) : s'.2.1 h = s.2.1 h := funext fun j => o.2.1 h j hh
theorem TMr.cg2 (K : TMr T L b s m) (h1 : s'.1 126 = s.1 126) (h2 : s'.1 133 = s.1 133) (h3 : s'.1 138 = s.1 138) (h4 : s'.1 139 = s.1 139) (h5 : s'.1 142 = s.1 142) : TMr T L b s' m := ⟨by rw [h1]; exact K.1.cg h3 h4 h5, fun i hi => by rw [h2]; exact (K.2 i hi).cg h3 h4 h5⟩
theorem oV.S (o : oV k s s') (B : BS T N b ks L tr s) : BS T N b ks L tr s' := by
  obtain ⟨⟨J, W, I, t⟩, Q, P⟩ := B
  refine ⟨⟨J.off2 (o.f (by omega)) (fun x hx => o.r (by omega)) (fun x hx => o.l hx), ?_, ?_, by rw [o.f (by omega)]; exact t⟩, ⟨fun x hx => (Q.1 x hx).cg2 (o.r (by omega)) (o.r (by omega)) (o.r (by omega)) (o.r (by omega)) (o.r (by omega)), fun x hx => (Q.2 x hx).cg (o.r (by omega)) (o.r (by omega)) (o.r (by omega)) (o.r (by omega))⟩, ?_⟩
  · unfold WIT; rw [o.r (by omega)]; exact W
  · unfold IRr; rw [o.r (h := 117) (by omega), o.r (h := 118) (by omega)]; exact I
  · unfold PLr; rw [o.r (h := 109) (by omega), o.r (h := 110) (by omega), o.r (h := 130) (by omega), o.r (h := 184) (by omega)]; exact P
/-- a KIND of the BLOCK -/
theorem BK.ty (B : BK T N b ks L lo hi kq zk) (h0 : (T N).1 = 0) {X : Nat} (h1 : kq ≤ X) (h2 : X < kq + zk.length) : ∃ t, zk[X - kq]? = some t ∧ TyI T b ks t (nI X) ∧ TYk T N t ∧ ¬ (T t).1 = 10 ∧ lo ≤ t ∧ t < hi ∧ ks[X - 800 * b]? = some t ∧ 800 * b ≤ X := by
  obtain ⟨t, ht⟩ : ∃ t, zk[X - kq]? = some t := ⟨_, List.getElem?_eq_getElem (show X - kq < zk.length by omega)⟩
  obtain ⟨k1, k2, c', k3⟩ := B.1 t (List.mem_of_getElem? ht)
  have kk := B.2.1.2 (X - kq) t ht
  have b0 := B.2.1.1
  have hN := B.2.2.2
  have n10 : ¬ (T t).1 = 10 := by
    unfold pKind at k3
    by_cases g : (T t).1 = 2
    · rw [g]; decide
    · rw [if_neg g] at k3; cases k3
  have kk' : ks[X - 800 * b]? = some t := by rw [show X - 800 * b = kq - 800 * b + (X - kq) by omega]; exact kk
  refine ⟨t, ht, Or.inr ⟨n10, X - 800 * b, kk', by rw [show 800 * b + (X - 800 * b) = X by omega]⟩, Or.inr ⟨n10, (pKind_ok h0 (by omega) k3).1⟩, n10, k1, k2, kk', by omega⟩
/-- judging a KIND of the BLOCK leaves the heads -/
theorem BS.ty (F : FX T N b ks L tr) (B : BK T N b ks L lo hi kq zk) (S : BS T N b ks L tr s) (h : TyI T b ks t ti) (h1 : lo ≤ t) (h2 : t < hi) (o : oTy (fun x => ti = nI x ∧ x < 1600) s s') : BS T N b ks L tr s' := by
  obtain ⟨S0, Q, P⟩ := S
  have J := S0.1
  obtain ⟨O1, O2, O3⟩ := F.2.1
  have out := B.2.2.1
  refine ⟨S0.ty o, ⟨fun m hm => ⟨?_, fun i hi => ?_⟩, fun c hc => keepA J h hc (fun z e => out.2 c hc z ⟨by omega, by omega⟩) o (Q.2 c hc)⟩, ?_⟩
  · obtain ⟨M1, _⟩ := J.mem hm
    have k1 := (Q.1 m hm).1
    rw [o.r (by decide) (by decide) (by decide)]
    rw [show s.1 126 (400 * b + m) = (mdM L m).2.2.2.2.2.2.2 from M1.1.2.1] at k1 ⊢
    exact keepT J h (O1 m hm).1 (fun e => (out.1 m hm).1 ⟨by omega, by omega⟩) o k1
  · obtain ⟨M1, _⟩ := J.mem hm
    obtain ⟨p, hp⟩ : ∃ p, (psM L m)[i]? = some p := ⟨_, List.getElem?_eq_getElem hi⟩
    have k1 := (Q.1 m hm).2 i hi
    rw [o.r (by decide) (by decide) (by decide)]
    rw [show s.1 133 (6 * (400 * b + m) + i) = p.2.2 from (M1.2.2.1.2 i p hp).1] at k1 ⊢
    exact keepT J h ((O1 m hm).2 i p hp).1 (fun e => (out.1 m hm).2 i p hp ⟨by omega, by omega⟩) o k1
  · unfold PLr; rw [o.r (h := 109) (by decide) (by decide) (by decide), o.r (h := 110) (by decide) (by decide) (by decide), o.r (h := 130) (by decide) (by decide) (by decide), o.r (h := 184) (by decide) (by decide) (by decide)]; exact P
/-- TYPES that wait -/
def TSs (L : List CD) (b : Nat) (s : mjSt3) : List (Nat × Bool) → Prop
  | [] => True
  | e :: l => TY1 L b s l.length e.1 e.2 ∧ TSs L b s l
/-- calls that wait -/
def PDs (L : List CD) (b : Nat) (s : mjSt3) : List (Nat × Nat) → List (Nat × Nat) → Prop
  | [], [] => True
  | p :: pd, e :: l => (s.1 162 pd.length = nI (400 * b + p.1) ∧ p.1 < nMem L ∧ vK L p.2 ∧ cK p.2 = hmM L p.1 ∧ (∀ i, i < nmL L (cK p.2) → s.1 163 (5 * pd.length + i) = oR (oK p.2 i)) ∧ (psM L p.1).length = e.1) ∧ PDs L b s pd l
  | _, _ => False
theorem TO1.cg (hn : HN T N L) {p t : Nat} (h : TO1 L s p t) (e : ∀ i, i < 5 → s'.1 157 (5 * p + i) = s.1 157 (5 * p + i)) : TO1 L s' p t := by
  match t, h with
  | 0, _ => trivial
  | 1, _ => trivial
  | k + 2, ⟨v, h⟩ =>
    have n5 := (vK.n5 hn (v.cl hn)).2
    exact ⟨v, fun i hi => by rw [e i (by omega)]; exact h i hi⟩
theorem TY1.cg (hn : HN T N L) {p t : Nat} {al : Bool} (h : TY1 L b s p t al) (e1 : s'.1 155 p = s.1 155 p) (e2 : s'.1 156 p = s.1 156 p) (e3 : ∀ i, i < 5 → s'.1 157 (5 * p + i) = s.1 157 (5 * p + i)) : TY1 L b s' p t al := ⟨by rw [e1]; exact h.1, by rw [e2]; exact h.2.1, h.2.2.cg hn e3⟩
theorem TSs.cg (hn : HN T N L) : ∀ (l : List (Nat × Bool)), TSs L b s l → (∀ p, p < l.length → s'.1 155 p = s.1 155 p ∧ s'.1 156 p = s.1 156 p ∧ ∀ i, i < 5 → s'.1 157 (5 * p + i) = s.1 157 (5 * p + i)) → TSs L b s' l
  | [], _, _ => trivial
  | e :: l, h, w => by
    obtain ⟨w1, w2, w3⟩ := w l.length (Nat.lt_succ_self _)
    exact ⟨h.1.cg hn w1 w2 w3, TSs.cg hn l h.2 (fun p hp => w p (by rw [List.length_cons]; omega))⟩
theorem TSs.keepT (hn : HN T N L) {l : List (Nat × Bool)} (h : TSs L b s l) (o : oT n s s') (hl : l.length ≤ n) : TSs L b s' l := TSs.cg hn l h (fun p hp => ⟨o.1 155 p (by omega), o.1 156 p (by omega), fun i hi => o.1 157 _ (by omega)⟩)
theorem TSs.same {l : List (Nat × Bool)} (hn : HN T N L) (h : TSs L b s l) (e1 : s'.1 155 = s.1 155) (e2 : s'.1 156 = s.1 156) (e3 : s'.1 157 = s.1 157) : TSs L b s' l := TSs.cg hn l h (fun p _ => ⟨by rw [e1], by rw [e2], fun i _ => by rw [e3]⟩)
theorem PDs.cg (hn : HN T N L) : ∀ (l e : List (Nat × Nat)), PDs L b s l e → (∀ p, p < l.length → s'.1 162 p = s.1 162 p ∧ ∀ i, i < 5 → s'.1 163 (5 * p + i) = s.1 163 (5 * p + i)) → PDs L b s' l e
  | [], [], _, _ => trivial
  | [], _ :: _, h, _ => h.elim
  | _ :: _, [], h, _ => h.elim
  | p :: pd, e :: l, ⟨⟨h1, h2, h3, h4, h5, h6⟩, h7⟩, w => by
    obtain ⟨w1, w2⟩ := w pd.length (Nat.lt_succ_self _)
    have n5 := (vK.n5 hn (h3.cl hn)).2
    exact ⟨⟨by rw [w1]; exact h1, h2, h3, h4, fun i hi => by rw [w2 i (by omega)]; exact h5 i hi, h6⟩, PDs.cg hn pd l h7 (fun p hp => w p (by rw [List.length_cons]; omega))⟩
theorem PDs.same (hn : HN T N L) {l e : List (Nat × Nat)} (h : PDs L b s l e) (e1 : s'.1 162 = s.1 162) (e2 : s'.1 163 = s.1 163) : PDs L b s' l e := PDs.cg hn l e h (fun p _ => ⟨by rw [e1], fun i _ => by rw [e2]⟩)
end MJA97
