/-! ===== the Coder: all STATEMENTS ===== -/
section MJA46a
variable {T : TT} {M o c td kq i0 : Nat} {z : PB} {bl : Nat → Nat → Nat → Nat → PY}
theorem pDecl_l (h : pDecl T M o c td kq = .inr z) : ∃ rest, z.2.2.2.1 = oLine T c :: rest := by
  unfold pDecl at h
  repeat' (split at h)
  all_goals first | (cases h; exact ⟨_, rfl⟩) | cases h
theorem pUse_l (h : pUse T M o c td kq i0 = .inr z) : ∃ rest, z.2.2.2.1 = oLine T c :: rest := by
  unfold pUse at h
  repeat' (split at h)
  all_goals first | (cases h; exact ⟨_, rfl⟩) | cases h
theorem pIf_l (h : pIf T M bl o c td kq i0 = .inr z) : ∃ rest, z.2.2.2.1 = oLine T c :: rest := by
  unfold pIf at h
  repeat' (split at h)
  all_goals first | (cases h; exact ⟨_, rfl⟩) | cases h
theorem pWhile_l (h : pWhile T M bl o c td kq i0 = .inr z) : ∃ rest, z.2.2.2.1 = oLine T c :: rest := by
  unfold pWhile at h
  repeat' (split at h)
  all_goals first | (cases h; exact ⟨_, rfl⟩) | cases h
end MJA46a
section MJA46
variable {E : EV} {d N q c t n e k u v i m o w cs c0 c1 kq nt D me i0 td kn f : Nat} {s s1 s2 s' s0 : mjSt3} {j j0 j' jb : JS} {y : PZ} {z : PB} {os : List Row} {l l1 : List Ins} {r : Row} {al : Bool}
theorem gSm.weak {U : mjU} {c' : Nat} (G : gSm E N q s c1 cs j os U c' td) (h : c0 ≤ c1) : gSm E N q s c0 cs j os U c' td := by
  rcases G with ⟨s', j', l, g1, ⟨a1, a2, a3, a4, a5, a6, a7, a8, a9⟩, g3⟩ | g
  · exact Or.inl ⟨s', j', l, g1, ⟨a1, a2, a3, a4, a5, a6, by omega, a8, a9⟩, g3⟩
  · exact Or.inr g
/-- codeStatement -/
theorem x_8 (ho : o ≤ 12) (hD : 96 ≤ D) (h7a : hSt E N q (D + 2) 7 2 (prS E.1 (N + 1) f 0 o)) (h7b : hSt E N q (D + 1) 7 2 (prS E.1 (N + 1) f 0 o)) : hSt E N q (D + 3) 8 0 (prS E.1 (N + 1) (f + 1) 1 o) := by
  intro c kq i0 cs s j z hc C hR hV f0 hz hK hA hP hb hi0 hkq
  have hT := C.TH
  have h0 := hT.2.2.1
  have hq' : q = 2 ∨ q = 30 := C.pq
  have hlt : ∀ c td kq i0 x, prS E.1 (N + 1) f 0 o c td kq i0 = .inr x → c < x.1 := fun c td kq i0 x hx => prS_lt f 0 o c td kq i0 x (by omega) hx
  have zlt := prS_lt (f + 1) 1 o c _ kq i0 z (by omega) hz
  have pre : mjF (D + 3) 8 [.ref 75] (mjW0 s) = _ := e_8 (d := D + 2)
  have kn : mjF (D + 2) 173 [.ref 58] (mjW0 s) = some (some (.int (E.1 c).1), mjW0 s) := by
    rw [x_kindNow (tk_f hT f0 hc), (hT.2.2.2 c hc).1]
  unfold f_8 b_8_0 at pre
  rw [xg_75_0, xV_58, kn, bI_s] at pre
  rw [prS_1] at hz
  by_cases e123 : (E.1 c).1 = 123
  · rw [if_neg (by rw [e123]; decide), if_neg (by rw [e123]; decide), if_neg (by rw [e123]; decide), if_neg (by rw [e123]; decide), if_neg (by rw [e123]; decide), if_pos e123] at hz
    rw [if_pos e123] at pre
    unfold b_8_39 at pre
    rw [if_neg (by rw [e123]; decide), if_neg (by rw [e123]; decide), if_neg (by rw [e123]; decide), if_neg (by rw [e123]; decide), if_neg (by rw [e123]; decide), if_neg (by rw [e123]; decide), if_pos e123, xV_75] at pre
    have G := h7a c kq i0 cs s j z hc C hR hV f0 hz hK hA hP hb hi0 hkq
    have e : mjF (D + 3) 8 [.ref 75] (mjW0 s) = mjF (D + 2) 7 [.ref 75] (mjW0 s) := by
      rcases G with ⟨s', j', l, g1, _⟩ | ⟨s', g1, _⟩
      · rw [g1, bN_s] at pre; rw [pre, g1]
      · rw [g1, bN_s] at pre; rw [pre, g1]
    rw [e]
    exact G.weak (by omega)
  · rw [if_neg e123] at pre
    obtain ⟨s1, w1, w2, w3, w4, w5, w6⟩ := put1 (d := D + 1) C (by omega) 10 0 (E.1 c).2.1
    have C1 := C.go w2 w4
    have f1 : fne s1 c := ⟨by rw [w3]; exact f0.1, by rw [w3]; exact f0.2⟩
    have R1 := hR.oSt C.pq w2.S
    have A1 := hA.oSt C.pq w2.S
    rw [xg_75_5, C.1.2.2.2.2.2.2.2, xg_75_0, xg_75_0, xV_58, j_now hT f0.1 hc, bI_s, xV_58, j_place hT f0.1 hc hc, bI_s, ycV C.pq, w1, bI_s] at pre
    have lr : jrow E (oLine E.1 c) j = some (j, [(10, 0, (E.1 c).2.1)]) := rfl
    -- behind the LINE
    have main : ∀ rest, z.2.2.2.1 = oLine E.1 c :: rest → PS E (i0 + 1) (cs + 1) rest j := by
      intro rest e
      rw [e] at hP
      exact PS.sub (a := [oLine E.1 c]) (j1 := j) (l1 := [(10, 0, (E.1 c).2.1)]) hP (by rw [jrun_1]; exact lr)
    have fin : ∀ rest U, z.2.2.2.1 = oLine E.1 c :: rest → mjF (D + 3) 8 [.ref 75] (mjW0 s) = U → gSm E N q s1 (c + 1) (cs + 1) j rest U z.1 z.2.1 → gSm E N q s (c + 0) cs j z.2.2.2.1 (mjF (D + 3) 8 [.ref 75] (mjW0 s)) z.1 z.2.1 := by
      intro rest U e eu G
      rw [e, eu]
      exact gSm.one C lr w2 w5 w6 G
    -- what a call of a method gives
    have same : ∀ (rest : List Row) (a : Nat), z.2.2.2.1 = oLine E.1 c :: rest → mjF (D + 3) 8 [.ref 75] (mjW0 s) = bN (mjF (D + 2) a [.ref 75] (mjW0 s1)) (fun hp => some (none, hp)) → gSm E N q s1 (c + 1) (cs + 1) j rest (mjF (D + 2) a [.ref 75] (mjW0 s1)) z.1 z.2.1 → gSm E N q s (c + 0) cs j z.2.2.2.1 (mjF (D + 3) 8 [.ref 75] (mjW0 s)) z.1 z.2.1 := by
      intro rest a e eu G
      refine fin rest (mjF (D + 2) a [.ref 75] (mjW0 s1)) e ?_ G
      rcases G with ⟨s', j', l, g1, _⟩ | ⟨s', g1, _⟩
      · rw [g1, bN_s] at eu; rw [eu, g1]
      · rw [g1, bN_s] at eu; rw [eu, g1]
    unfold b_8_39 at pre
    by_cases e1 : (E.1 c).1 = 2 ∨ (E.1 c).1 = 10
    · rw [if_pos e1] at hz
      obtain ⟨rest, er⟩ := pDecl_l hz
      have G := declC (D := D + 1) ho (by omega) hc C1 f1 hz er hK A1 (by omega) (by omega)
      refine fin rest _ er ?_ G
      rcases e1 with h | h
      · rw [if_pos h] at pre; exact pre
      · rw [if_neg (by rw [h]; decide), if_pos h] at pre; exact pre
    rw [if_neg e1] at hz
    rw [if_neg (fun h => e1 (Or.inl h)), if_neg (fun h => e1 (Or.inr h))] at pre
    by_cases e15 : (E.1 c).1 = 15
    · rw [if_pos e15] at hz pre
      rw [xV_75] at pre
      obtain ⟨rest, er⟩ := pIf_l hz
      have cN := lt_z h0 hc e15 (by decide)
      exact same rest 9 er pre (x_9 ho hD h7b hlt cN C1 R1 hV f1 hz er hK A1 (main rest er) (by omega) hi0 hkq)
    rw [if_neg e15] at hz pre
    by_cases e17 : (E.1 c).1 = 17
    · rw [if_pos e17] at hz pre
      rw [xV_75] at pre
      obtain ⟨rest, er⟩ := pWhile_l hz
      have cN := lt_z h0 hc e17 (by decide)
      exact same rest 31 er pre (x_31 ho hD h7b hlt cN C1 R1 hV f1 hz er hK A1 (main rest er) (by omega) hi0 hkq)
    rw [if_neg e17] at hz pre
    -- return, say
    have giv : ∀ (w : Int32) (ty : Nat) (op : Int32), vT E.2.1 ty → c < N → pGive E.1 (N + 1) o c j.2.2.2.1 kq w = .inr z → (∀ t al, (fitT E.1 E.2.1 t ty = true → jrow E (w, (E.1 c).2.1, 1, 0, 0) (jE j t al) = some (j, [(op, 0, -1)])) ∧ (¬ fitT E.1 E.2.1 t ty = true → jrow E (w, (E.1 c).2.1, 1, 0, 0) (jE j t al) = none)) → mjF (D + 3) 8 [.ref 75] (mjW0 s) = bN (mjF (D + 2) 32 [.ref 75, .int (tyI ty)] (mjW0 s1)) (fun hp9 => gR hp9 75 1 5 (fun v10 => rV hp9 v10 0 (bI (mjF (D + 2) 1 [.ref v10, .int op, .int 0, .int (-1)] hp9) (fun v11 hp12 => some (none, hp12))))) → gSm E N q s (c + 0) cs j z.2.2.2.1 (mjF (D + 3) 8 [.ref 75] (mjW0 s)) z.1 z.2.1 := by
      intro w ty op hv hcN hg hr pr
      unfold pGive at hg
      cases hx : prV E.1 (N + 1) o (c + 1) kq with
      | inl e => rw [hx] at hg; cases hg
      | inr y =>
        rw [hx] at hg
        dsimp only at hg
        by_cases h59 : (E.1 y.1).1 = 59
        · rw [if_pos h59] at hg
          cases hg
          dsimp only at hK hA A1 hb ⊢
          obtain ⟨sa, g1, g2, sb, v, g3, g4⟩ := giveC (D := D + 1) (r := (w, (E.1 c).2.1, 1, 0, 0)) (op := op) ho (by omega) hcN C1 f1 hx h59 hK A1 (by omega) hv hr
          rw [g1, bN_s, xg_75_5, g2, ycV C.pq, g3, bI_s] at pr
          exact fin _ _ rfl pr g4
        · rw [if_neg h59] at hg; cases hg
    by_cases e18 : (E.1 c).1 = 18
    · rw [if_pos e18] at hz pre
      rw [xg_75_7, R1.1, xV_75] at pre
      exact giv 28 _ 9 R1.2 (lt_z h0 hc e18 (by decide)) hz (fun t al => ⟨fun h => by rw [give_row, if_pos h], fun h => by rw [give_row, if_neg h]⟩) pre
    rw [if_neg e18] at hz pre
    by_cases e19 : (E.1 c).1 = 19
    · rw [if_pos e19] at hz pre
      rw [xV_75] at pre
      exact giv 24 0 8 (Or.inl rfl) (lt_z h0 hc e19 (by decide)) hz (fun t al => ⟨fun h => by rw [say_row, if_pos (fit_int.mp h)], fun h => by rw [say_row, if_neg (fun x => h (fit_int.mpr x))]⟩) pre
    rw [if_neg e19] at hz pre
    rw [if_neg e123] at hz pre
    rw [xV_75] at pre
    obtain ⟨rest, er⟩ := pUse_l hz
    exact fin rest _ er pre (useC (D := D + 1) ho (by omega) hc C1 f1 hz er hK A1 (by omega))
/-- how deep STATEMENTS go -/
theorem hSt_no {x : Nat} {rd : Nat → Nat → Nat → Nat → PY} (h : ∀ c td kq i0 x, ¬ rd c td kq i0 = .inr x) : hSt E N q D me x rd := by
  intro c kq i0 cs s j z _ _ _ _ _ hz
  exact absurd hz (h _ _ _ _ z)
theorem hSt_all : ∀ (f : Nat) (o : Nat), o ≤ 12 → (∀ D, 99 + 3 * (13 - o) ≤ D → hSt E N q D 8 0 (prS E.1 (N + 1) f 1 o)) ∧ (∀ D, 97 + 3 * (13 - o) ≤ D → hSt E N q D 7 2 (prS E.1 (N + 1) f 0 o))
  | 0, o, _ => ⟨fun D _ => hSt_no (fun _ _ _ _ _ h => by cases h), fun D _ => hSt_no (fun _ _ _ _ _ h => by cases h)⟩
  | f + 1, o, ho => by
    refine ⟨fun D hD => ?_, fun D hD => ?_⟩
    · obtain ⟨D', rfl⟩ : ∃ D', D = D' + 3 := ⟨D - 3, by omega⟩
      exact x_8 ho (by omega) ((hSt_all f o ho).2 (D' + 2) (by omega)) ((hSt_all f o ho).2 (D' + 1) (by omega))
    · obtain ⟨D', rfl⟩ : ∃ D', D = D' + 2 := ⟨D - 2, by omega⟩
      exact x_7 (fun o12 => (hSt_all f (o + 1) (by omega)).1 (D' + 1) (by omega))
end MJA46
