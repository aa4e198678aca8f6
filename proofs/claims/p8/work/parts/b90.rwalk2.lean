/-! ===== WAYS and LEAKS, the reference ===== -/
/-- all that its walker changes -/
def oWl : mjSt3 → mjSt3 → Prop := offG (fun h j => (h = 97 ∧ (j = 124 ∨ j = 126 ∨ j = 127)) ∨ (177 ≤ h ∧ h ≤ 181) ∨ h = 186 ∨ h = 187) (fun _ _ => False)
section MJB90
variable {T : TT} {d b o sh k i n m c : Nat} {L : List CD} {H : HEAP} {Q : WQ} {s s' : mjSt3}
theorem oWr.l (o : oWr s s') : oWl s s' := offG.mono o (fun h j w => by rcases w with w | w; exact Or.inl ⟨w.1, Or.inl w.2⟩; exact Or.inr (Or.inl ⟨w.1, by omega⟩)) (fun _ _ x => x)
theorem HWr.wl (h : HWr T L b H s) (o : oWl s s') : HWr T L b H s' := by
  have r : ∀ h, ¬ (h = 97 ∨ (177 ≤ h ∧ h ≤ 181) ∨ h = 186 ∨ h = 187) → s'.1 h = s.1 h := fun h e => funext fun j => o.1 h j (by omega)
  obtain ⟨h1, h2, h3, h4⟩ := h
  exact ⟨h1.keep (fun x hx => r x (by omega)), by rw [o.1 97 103 (by omega)]; exact h2, fun c hc => by rw [r 104 (by omega), r 109 (by omega)]; exact h3 c hc, fun c hc i hi => by rw [r 184 (by omega)]; exact h4 c hc i hi⟩
theorem oWl.w1 {v : Int32} {j : Nat} (hj : j = 124 ∨ j = 126 ∨ j = 127) : oWl s (uI s 97 (upd (s.1 97) j v)) := offG.w (Or.inl ⟨rfl, hj⟩)
theorem oWl.w2 {h : Nat} {g : Nat → Int32} (hh : (177 ≤ h ∧ h ≤ 181) ∨ h = 186 ∨ h = 187) : oWl s (uI s h g) := offG_of (fun h' j e => by rw [uI_ne _ _ _ _ (fun q => e (by rw [q]; exact Or.inr hh))]) rfl
theorem HWp.n1 (P : HWp T L b H) (o1 : 1 ≤ o) (o2 : o ≤ H.1) : 1 ≤ nmL L (H.2 o).1 := (P.2.2.2.2.1 _ (P.1 o o1 o2).1).1
/-- from the first of the queue on -/
theorem x_249 (P : HWp T L b H) (hsh : sh ≤ H.1) (hW : HWr T L b H s) (W : WRr H Q s) (hQ : WOK H Q) : ∃ s', mjF (d + 2) 249 [.ref 97, .int (nI sh)] (mjW0 s) = some (none, mjW0 s') ∧ oWr s s' ∧ WRr H (wGo T L H sh (H.1 + 1) 0 Q) s' ∧ WOK H (wGo T L H sh (H.1 + 1) 0 Q) := by
  have b1 := P.2.1.1
  have b2' := P.2.1.2
  obtain ⟨s', a1, a2, a3, a4⟩ := lq_249 (d := d) P hsh (H.1 + 1) 0 mjN Q s (by omega) (by unfold mjN; omega) hW W hQ
  refine ⟨s', ?_, a2, a3, a4⟩
  rw [e_249]
  unfold f_249 b_249_0
  exact a1
theorem L250_S (R : mjR) (n a : Nat) (x y : Int32) (hp : mjH) : L_250_2 R (n + 1) a x y hp = b_250_2 R (L_250_2 R n) a x y hp := rfl
/-- the place of an OBJECT in the queue -/
theorem lq_250 (R : mjR) (hb : H.1 ≤ 1334) (W : WRr H Q s) (hQ : WOK H Q) (o2 : o ≤ H.1) : ∀ (r i n : Nat), i + r = Q.length → r < n → (∀ (k : Nat) (e : Nat × Nat × Nat × Nat), k < i → Q[k]? = some e → ¬ e.1 = o) → ∃ v : Int32, L_250_2 R n 97 (nI o) (nI i) (mjW0 s) = some (some (.int v), mjW0 s) ∧ ((v = -1 ∧ ¬ inW Q o) ∨ ∃ (k : Nat) (e : Nat × Nat × Nat × Nat), Q[k]? = some e ∧ e.1 = o ∧ v = nI k)
  | r, i, 0, e, hr, w => by omega
  | 0, i, n + 1, e, hr, w => by
    have ln := hQ.len
    refine ⟨-1, ?_, Or.inl ⟨rfl, fun ⟨x, x1, x2⟩ => ?_⟩⟩
    · rw [L250_S]
      unfold b_250_2
      rw [xg_97_124, W.1, if_pos (nI_le (by omega) (by omega))]
    · obtain ⟨k, hk⟩ := List.getElem?_of_mem x1
      have kl := (List.getElem?_eq_some_iff.mp hk).1
      exact w k x (by omega) hk x2
  | r + 1, i, n + 1, e, hr, w => by
    have ln := hQ.len
    obtain ⟨x, hx⟩ : ∃ x, Q[i]? = some x := ⟨_, List.getElem?_eq_getElem (by omega)⟩
    obtain ⟨x1, x2⟩ := hQ.2.1 x (List.mem_of_getElem? hx)
    have pre : L_250_2 R (n + 1) 97 (nI o) (nI i) (mjW0 s) = (if nI x.1 = nI o then some (some (.int (nI i)), mjW0 s) else L_250_2 R n 97 (nI o) (nI (i + 1)) (mjW0 s)) := by
      rw [L250_S]
      unfold b_250_2
      rw [xg_97_124, W.1, if_neg (nI_ge (by omega) (by omega)), xg_97_121, wa_178 (by omega), (W.2.1 i x hx).1, nI_1]
    rw [pre]
    by_cases g : x.1 = o
    · rw [if_pos (by rw [g])]
      exact ⟨_, rfl, Or.inr ⟨i, x, hx, g, rfl⟩⟩
    · rw [if_neg (fun y => g ((nI_eq (by omega) (by omega)).mp y))]
      exact lq_250 R hb W hQ o2 r (i + 1) n (by omega) (by omega) (fun k y hk hy => by
        by_cases q : k = i
        · rw [q, hx] at hy
          rw [← Option.some.inj hy]
          exact g
        · exact w k y (by omega) hy)
theorem x_250 (hb : H.1 ≤ 1334) (W : WRr H Q s) (hQ : WOK H Q) (o2 : o ≤ H.1) : ∃ v : Int32, mjF (d + 1) 250 [.ref 97, .int (nI o)] (mjW0 s) = some (some (.int v), mjW0 s) ∧ ((v = -1 ∧ ¬ inW Q o) ∨ ∃ (k : Nat) (e : Nat × Nat × Nat × Nat), Q[k]? = some e ∧ e.1 = o ∧ v = nI k) := by
  have ln := hQ.len
  obtain ⟨v, a1, a2⟩ := lq_250 (mjF d) hb W hQ o2 Q.length 0 mjN (by omega) (by unfold mjN; omega) (fun k e hk _ => absurd hk (Nat.not_lt_zero k))
  refine ⟨v, ?_, a2⟩
  rw [e_250]
  unfold f_250 b_250_0
  exact a1
theorem L254_S (R : mjR) (n a : Nat) (x y : Int32) (hp : mjH) : L_254_6 R (n + 1) a x y hp = b_254_6 R (L_254_6 R n) a x y hp := rfl
theorem lq_254 (P : HWp T L b H) (hsh : sh ≤ H.1) : ∀ (r o m : Nat) (Q : WQ) (s : mjSt3), o + r = H.1 + 1 → 1 ≤ o → r < m → HWr T L b H s → WRr H Q s → WOK H Q → ∃ s', L_254_6 (mjF (d + 2)) m 97 (nI sh) (nI o) (mjW0 s) = some (none, mjW0 s') ∧ oWr s s' ∧ WRr H (wGo T L H sh (H.1 + 1) 0 (wRoots H sh r o Q)) s' ∧ WOK H (wGo T L H sh (H.1 + 1) 0 (wRoots H sh r o Q))
  | r, o, 0, Q, s, eo, o1, hm, hW, W, hQ => by omega
  | 0, o, m + 1, Q, s, eo, o1, hm, hW, W, hQ => by
    have b1 := P.2.1.1
    have b2' := P.2.1.2
    obtain ⟨s', a1, a2, a3, a4⟩ := x_249 (d := d) P hsh hW W hQ
    refine ⟨s', ?_, a2, a3, a4⟩
    rw [L254_S]
    unfold b_254_6
    rw [xg_97_103, hW.2.1, if_pos (nI_lt (by omega) (by omega)), xV_97, a1, bN_s]
  | r + 1, o, m + 1, Q, s, eo, o1, hm, hW, W, hQ => by
    have b1 := P.2.1.1
    have b2' := P.2.1.2
    have ol := (P.1 o o1 (by omega)).2.1 0
    have st : wRoots H sh (r + 1) o Q = wRoots H sh r (o + 1) (wRoot H sh o Q) := rfl
    have pre : L_254_6 (mjF (d + 2)) (m + 1) 97 (nI sh) (nI o) (mjW0 s) = (if nI ((H.2 o).2.1 0) = 0 then (if nI o = nI sh then L_254_6 (mjF (d + 2)) m 97 (nI sh) (nI (o + 1)) (mjW0 s) else bN (mjF (d + 2) 248 [.ref 97, .int (nI o), .int (-1)] (mjW0 s)) (fun hp5 => L_254_6 (mjF (d + 2)) m 97 (nI sh) (nI (o + 1)) hp5)) else L_254_6 (mjF (d + 2)) m 97 (nI sh) (nI (o + 1)) (mjW0 s)) := by
      rw [L254_S]
      unfold b_254_6 b_254_33
      rw [xg_97_103, hW.2.1, if_neg (nI_nlt (by omega) (by omega)), xV_97, x_253 hW.1 P.2.1 (P.n1 o1 (by omega)) o1 (by omega), bI_s, nI_1, xV_97]
    rw [pre, st]
    by_cases g : (H.2 o).2.1 0 = 0 ∧ ¬ o = sh
    · have ew : wRoot H sh o Q = wCome Q o 0 0 0 := if_pos g
      rw [ew, if_pos (by rw [g.1]; rfl), if_neg (fun x => g.2 ((nI_eq (by omega) (by omega)).mp x))]
      obtain ⟨s1, a1, a2, a3, a4⟩ := x_248 (d := d + 1) (fo := 0) (fi := 0) (dd := 0) (x := -1) W hQ (by omega) o1 (by omega) (Or.inl ⟨rfl, rfl, rfl⟩)
      obtain ⟨s2, d1, d2, d3, d4⟩ := lq_254 P hsh r (o + 1) m _ s1 (by omega) (by omega) (by omega) (hW.wr a2) a3 a4
      exact ⟨s2, by rw [a1, bN_s]; exact d1, offG.tr a2 d2, d3, d4⟩
    · have ew : wRoot H sh o Q = Q := if_neg g
      rw [ew]
      have ih := lq_254 P hsh r (o + 1) m Q s (by omega) (by omega) (by omega) hW W hQ
      by_cases g0 : (H.2 o).2.1 0 = 0
      · have g1 : o = sh := Classical.byContradiction (fun x => g ⟨g0, x⟩)
        rw [if_pos (by rw [g0]; rfl), if_pos (by rw [g1])]
        exact ih
      · rw [if_neg (nI_ne0 (by omega) (by omega))]
        exact ih
/-- from all ROOTS but one -/
theorem x_254 (P : HWp T L b H) (hsh : sh ≤ H.1) (hW : HWr T L b H s) : ∃ s', mjF (d + 3) 254 [.ref 97, .int (nI sh)] (mjW0 s) = some (none, mjW0 s') ∧ oWr s s' ∧ WRr H (walkR T L H sh) s' ∧ WOK H (walkR T L H sh) := by
  have b1 := P.2.1.1
  have b2' := P.2.1.2
  obtain ⟨s1, c1, c2, c3⟩ := x_247 (d := d + 1) (H := H) (s := s) (by omega) hW.2.1
  obtain ⟨s', a1, a2, a3, a4⟩ := lq_254 (d := d) P hsh H.1 1 mjN [] s1 (by omega) (by omega) (by unfold mjN; omega) (hW.wr c2) c3 WOK.nil
  refine ⟨s', ?_, offG.tr c2 a2, a3, a4⟩
  rw [e_254]
  unfold f_254 b_254_0
  rw [xV_97, c1, bN_s]
  exact a1
/-- from an OBJECT -/
theorem x_walkO (P : HWp T L b H) (o1 : 1 ≤ o) (o2 : o ≤ H.1) (hW : HWr T L b H s) : ∃ s1 s2 s', mjF (d + 2) 247 [.ref 97] (mjW0 s) = some (none, mjW0 s1) ∧ mjF (d + 2) 248 [.ref 97, .int (nI o), .int (-1)] (mjW0 s1) = some (none, mjW0 s2) ∧ mjF (d + 2) 249 [.ref 97, .int 0] (mjW0 s2) = some (none, mjW0 s') ∧ oWr s s' ∧ WRr H (walkO T L H o) s' ∧ WOK H (walkO T L H o) := by
  have b1 := P.2.1.1
  have b2' := P.2.1.2
  obtain ⟨s1, c1, c2, c3⟩ := x_247 (d := d + 1) (H := H) (s := s) (by omega) hW.2.1
  obtain ⟨s2, e1, e2, e3, e4⟩ := x_248 (d := d + 1) (fo := 0) (fi := 0) (dd := 0) (x := -1) c3 WOK.nil (by omega) o1 o2 (Or.inl ⟨rfl, rfl, rfl⟩)
  have ew : wCome [] o 0 0 0 = [(o, 0, 0, 0)] := rfl
  rw [ew] at e3 e4
  obtain ⟨s3, f1, f2, f3, f4⟩ := x_249 (d := d) (sh := 0) P (Nat.zero_le _) ((hW.wr c2).wr e2) e3 e4
  exact ⟨s1, s2, s3, c1, e1, f1, offG.tr c2 (offG.tr e2 f2), f3, f4⟩
end MJB90
