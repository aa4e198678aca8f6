/-! ===== the reference judges one order: what the judge goes by ===== -/
/-- what judging leaves of everything but TYPES that wait from n on -/
def oQ (n : Nat) : mjSt3 → mjSt3 → Prop := offG (fun h j => (h = 97 ∧ (j = 61 ∨ j = 62 ∨ j = 82 ∨ j = 95)) ∨ ((h = 155 ∨ h = 156) ∧ n ≤ j) ∨ (h = 157 ∧ 5 * n ≤ j) ∨ h = 165 ∨ h = 166) (fun _ _ => False)
def BR (L : List CD) (b : Nat) (s : mjSt3) (j : JS) (x : WS) (Xe : Nat) : Prop :=
  (s.1 97 82 = nI j.1.length ∧ TSs L b s j.1 ∧ j.1.length = x.1.2.1 ∧ j.1.length ≤ 60) ∧
  (s.1 97 92 = nI j.2.1.length ∧ PDs L b s j.2.1 x.1.2.2.1 ∧ j.2.1.length ≤ 20) ∧
  (VB L b s j.2.2.1 j.2.2.2.1 x.2.2.2.1 j.2.2.2.2.2.1 j.2.2.2.2.1 x.1.1 Xe ∧ j.2.2.2.1 = x.2.1) ∧
  (s.1 97 88 = nI j.2.2.2.2.1 ∧ j.2.2.2.2.1 = x.2.2.2.2) ∧
  s.1 145 (5000 * b + x.2.2.1) = nI j.2.2.2.2.2.2.1
/-- in which CLASS and METHOD -/
def NW (E : EV) (b : Nat) (mm : Option Nat) (s : mjSt3) : Prop := s.1 97 132 = cR b E.2.2.2.2.1 ∧ s.1 97 133 = mR b mm ∧ (∀ c, E.2.2.2.2.1 = some c → c < E.2.1.length) ∧ (∀ m, mm = some m → m < nMem E.2.1 ∧ E.2.2.2.2.2.1 = tyM E.1 E.2.1 m) ∧ (mm = none → E.2.2.2.2.2.1 = 0)
/-- what the judged order holds -/
def nA (E : EV) (r : Row) (j : JS) : Int32 := if r.1 = 6 ∨ r.1 = 15 then vN (vsK j.2.2.1 r.2.2.2.2)
  else if r.1 = 10 ∨ r.1 = 16 then (match j.1 with
    | t :: _ => (match prtE E t r.2.2.2.2 false with
      | some p => nI (numM E.1 E.2.1 p.1)
      | none => 0)
    | [] => 0)
  else if r.1 = 17 ∨ r.1 = 18 then nI j.2.2.2.2.2.2.1 else r.2.2.1
/-- one order is judged so -/
def gJ (E : EV) (N b : Nat) (ks : List Nat) (i kq Xe : Nat) (r : Row) (j : JS) (x : WS) (s : mjSt3) (u : mjU) : Prop := ∃ s', u = some (none, mjW0 s') ∧ oJd (5000 * b + i) kq Xe s s' ∧ (match jrow E r j with
    | none => bR0 s'
    | some (j', _) => gR0 s' ∧ BS E.1 N b ks E.2.1 E.2.2.1 s' ∧ BR E.2.1 b s' j' (nxW r i x) Xe ∧ s'.1 145 (5000 * b + i) = nA E r j ∧ (r.1 = 7 ∨ r.1 = 14 → ∀ k, kdE E r.2.2.1 = some k → TKr E.2.1 b s' r.2.2.1 (k + 2)))
section MJA98a
variable {n : Nat} {s s' : mjSt3}
theorem oQ.r (o : oQ n s s') {h : Nat} (hh : ¬ (h = 97 ∨ (155 ≤ h ∧ h ≤ 157) ∨ h = 165 ∨ h = 166)) : s'.1 h = s.1 h := funext fun j => o.1 h j (by omega)
end MJA98a
section MJA98
variable {T : TT} {d N b k t c n m v kq Xe i : Nat} {ks : List Nat} {L : List CD} {s s' s'' : mjSt3} {tr : Bool} {E : EV} {j : JS} {x : WS} {r : Row} {u : mjU}
theorem oUp.Q2 (o : oUp s s') : oQ n s s' := offG.mono o (fun h j x => by omega) (fun _ _ x => x)
theorem oT.Q2 (o : oT n s s') (h : m ≤ n) : oQ m s s' := offG.mono o (fun h j x => by omega) (fun _ _ x => x)
theorem o61.Q2 (o : o61 s s') : oQ n s s' := offG.mono o (fun h j x => by omega) (fun _ _ x => x)
theorem oQ.mono (o : oQ n s s') (h : m ≤ n) : oQ m s s' := offG.mono o (fun h j x => by omega) (fun _ _ x => x)
theorem oQ.V (o : oQ n s s') : oV k s s' := offG.mono o (fun h j x => by omega) (fun _ _ x => x.elim)
theorem oQ.f (o : oQ n s s') {j : Nat} (hh : ¬ (j = 61 ∨ j = 62 ∨ j = 82 ∨ j = 95)) : s'.1 97 j = s.1 97 j := o.1 97 j (by omega)
theorem oQ.l (o : oQ n s s') : s'.2.1 = s.2.1 := funext fun x => funext fun j => o.2.1 x j (fun e => e)
theorem oQ.w82 {a : Int32} : oQ n s (uI s 97 (upd (s.1 97) 82 a)) := offG.w (Or.inl ⟨rfl, by omega⟩)
theorem TSs.keepQ (hn : HN T N L) {l : List (Nat × Bool)} (h : TSs L b s l) (o : oQ n s s') (hl : l.length ≤ n) : TSs L b s' l := TSs.cg hn l h (fun p hp => ⟨o.1 155 p (by omega), o.1 156 p (by omega), fun i hi => o.1 157 _ (by omega)⟩)
theorem VB.same {vs : List VE} {td dp X : Nat} {pn : Bool} {nw : Int64 × Nat} (V : VB L b s vs td pn nw dp X Xe) (h0 : s'.2.1 158 = s.2.1 158) (h1 : s'.1 159 = s.1 159) (h2 : s'.1 160 = s.1 160) (h3 : s'.1 161 = s.1 161) (h4 : s'.1 97 87 = s.1 97 87) (k1 : s'.1 138 = s.1 138) (k2 : s'.1 139 = s.1 139) (k3 : s'.1 142 = s.1 142) : VB L b s' vs td pn nw dp X Xe := by
  obtain ⟨v1, v2, v3, v4, v5, v6, v7⟩ := V
  refine ⟨fun e he => ?_, ?_, v3, ?_, ?_, v6, fun hp => ?_⟩
  · obtain ⟨a1, a2, a3, a4, a5, a6⟩ := v1 e he
    exact ⟨a1, by rw [h0]; exact a2, by rw [h1]; exact a3.cg k1 k2 k3, by rw [h2]; exact a4, by rw [h3]; exact a5, a6⟩
  · rw [h3]; exact v2
  · rw [h1]; exact v4
  · rw [h4]; exact v5
  · obtain ⟨a1, a2, a3, a4⟩ := v7 hp
    exact ⟨by rw [h0]; exact a1, by rw [h1]; exact a2.cg k1 k2 k3, by rw [h2]; exact a3, by rw [h3]; exact a4⟩
/-- other TYPES wait, all else is kept -/
theorem BR.mkT (hn : HN T N L) (R : BR L b s j x Xe) (o : oQ n s s') {st : List (Nat × Bool)} (hst : TSs L b s' st) (h82 : s'.1 97 82 = nI st.length) {h' : Nat} (hl : st.length = h') (h60 : st.length ≤ 60) {rs : List Nat} {q' : Nat} : BR L b s' (st, j.2.1, j.2.2.1, j.2.2.2.1, j.2.2.2.2.1, j.2.2.2.2.2.1, j.2.2.2.2.2.2.1, rs) ((x.1.1, h', x.1.2.2.1, q'), x.2) Xe := by
  obtain ⟨_, ⟨c1, c2, c3⟩, ⟨v1, v2⟩, ⟨d1, d2⟩, l⟩ := R
  exact ⟨⟨h82, hst, hl, h60⟩, ⟨by rw [o.f (by omega)]; exact c1, PDs.same hn c2 (o.r (by omega)) (o.r (by omega)), c3⟩, ⟨v1.same (by rw [o.l]) (o.r (by omega)) (o.r (by omega)) (o.r (by omega)) (o.f (by omega)) (o.r (by omega)) (o.r (by omega)) (o.r (by omega)), v2⟩, ⟨by rw [o.f (by omega)]; exact d1, d2⟩, by rw [o.r (by omega)]; exact l⟩
/-- an order's own number is written -/
theorem BR.set (R : BR L b s j x Xe) (hx : ¬ x.2.2.1 = i) {a : Int32} (hn : HN T N L) : BR L b (uI s 145 (upd (s.1 145) (5000 * b + i) a)) j x Xe := by
  obtain ⟨⟨t1, t2, t3, t4⟩, ⟨c1, c2, c3⟩, ⟨v1, v2⟩, ⟨d1, d2⟩, l⟩ := R
  have r1 : ∀ h, ¬ h = 145 → (uI s 145 (upd (s.1 145) (5000 * b + i) a)).1 h = s.1 h := fun h e => uI_ne _ _ _ _ e
  refine ⟨⟨by rw [r1 97 (by decide)]; exact t1, TSs.same hn t2 (r1 _ (by decide)) (r1 _ (by decide)) (r1 _ (by decide)), t3, t4⟩, ⟨by rw [r1 97 (by decide)]; exact c1, PDs.same hn c2 (r1 _ (by decide)) (r1 _ (by decide)), c3⟩, ⟨v1.same rfl (r1 _ (by decide)) (r1 _ (by decide)) (r1 _ (by decide)) (by rw [r1 97 (by decide)]) (r1 _ (by decide)) (r1 _ (by decide)) (r1 _ (by decide)), v2⟩, ⟨by rw [r1 97 (by decide)]; exact d1, d2⟩, ?_⟩
  rw [uI_same, upd_g, if_neg (by omega)]
  exact l
theorem oV.set {a : Int32} : oV k s (uI s 145 (upd (s.1 145) k a)) := offG.w (Or.inr (Or.inl ⟨rfl, rfl⟩))
/-- judged well, no KIND -/
theorem gJ.ok {j' : JS} {l : List Ins} (hj : jrow E r j = some (j', l)) (S : BS E.1 N b ks E.2.1 E.2.2.1 s) (hu : u = some (none, mjW0 s')) (o : oV (5000 * b + i) s s') (g : gR0 s') (R : BR E.2.1 b s' j' (nxW r i x) Xe) (ha : s'.1 145 (5000 * b + i) = nA E r j) (h7 : ¬ r.1 = 7) (h14 : ¬ r.1 = 14) : gJ E N b ks i kq Xe r j x s u := ⟨s', hu, o.J2, by
  rw [hj]
  exact ⟨g, o.S S, R, ha, fun h => (h.elim h7 h14).elim⟩⟩
/-- judged bad -/
theorem gJ.bad (hj : jrow E r j = none) (hu : u = some (none, mjW0 s')) (o : oV (5000 * b + i) s s') (g : bR0 s') : gJ E N b ks i kq Xe r j x s u := ⟨s', hu, o.J2, by
  rw [hj]
  exact g⟩
theorem nA_o (h1 : ¬ r.1 = 6) (h2 : ¬ r.1 = 15) (h3 : ¬ r.1 = 10) (h4 : ¬ r.1 = 16) (h5 : ¬ r.1 = 17) (h6 : ¬ r.1 = 18) : nA E r j = r.2.2.1 := by
  unfold nA
  rw [if_neg (fun h => h.elim h1 h2), if_neg (fun h => h.elim h3 h4), if_neg (fun h => h.elim h5 h6)]
/-- fail, from any state -/
theorem x_fail (g : GR s) {a : Int32} (ha : ¬ a ≤ 0) (p : Int32) : ∃ s', mjF (d + 1) 268 [.ref 97, .int a, .int p] (mjW0 s) = some (none, mjW0 s') ∧ o61 s s' ∧ bR0 s' := x_268 g ha p
end MJA98
