/-! ===== a RUN, pure; the reference's run is it ===== -/
def jX (T : TT) (t : PT) (rs : List RcM) (z : PB) (tr : Bool) (k0 m k : Nat) : JS := match jrun (EMx T t tr k0 m) ((osM rs z m).take k) (jmT T t.1 m) with
  | some x => x.1
  | none => jmT T t.1 m
/-- the order at which a RUN is -/
def aOrd (rs : List RcM) (z : PB) (A : AMS) : Row := match A.2.1 with
  | f :: _ => ((osM rs z f.1)[A.2.2.1]?).getD oOver
  | [] => oOver
def aTick (sc : SCL) (c : Bool) : SCL := (sc.1, sc.2.1, sc.2.2.1, (if c = true then sc.2.2.2.1 + 1 else sc.2.2.2.1), sc.2.2.2.2)
def aOne (T : TT) (t : PT) (rs : List RcM) (z : PB) (tr : Bool) (k0 wm cm : Nat) (A : AMS) : AMS := match A.2.1 with
  | [] => A
  | f :: fs => aStep T t.1 (EMx T t tr k0 f.1) (jX T t rs z tr k0 f.1 A.2.2.1) (i0T t f.1) wm cm (aOrd rs z A) (A.1, f :: fs, A.2.2.1 + 1, A.2.2.2.1, aTick A.2.2.2.2 (costs (aOrd rs z A)))
/-- at most so many orders, at most left STEPS -/
def aRun (T : TT) (t : PT) (rs : List RcM) (z : PB) (tr : Bool) (k0 wm cm : Nat) : Nat → Nat → AMS → Option AMS
  | 0, _, _ => none
  | n + 1, left, A => if ¬ A.2.2.2.2.2.2.2.2.1 = 1 then some A else if costs (aOrd rs z A) = true then (if left = 0 then some A else aRun T t rs z tr k0 wm cm n (left - 1) (aOne T t rs z tr k0 wm cm A)) else aRun T t rs z tr k0 wm cm n left (aOne T t rs z tr k0 wm cm A)
section MJB51
variable {T : TT} {d N k0 kb b wm cm k : Nat} {t : PT} {rs : List RcM} {z : PB} {tr : Bool} {H : HEAP} {r : Row} {f : FRM} {fs : List FRM} {st : List Int32} {sc : SCL} {s s' : mjSt3} {A A' : AMS}
theorem x_230 (r : Row) (hp : mjH) : mjF (d + 1) 230 [.int r.1] hp = some (some (.int (b2 (costs r))), hp) := by
  rw [e_230]
  unfold f_230 b_230_0 b_230_46 costs
  by_cases h1 : r.1 = 1
  · rw [if_pos h1, decide_eq_true (Or.inl h1)]; rfl
  rw [if_neg h1]
  by_cases h2 : r.1 = 2
  · rw [if_pos h2, decide_eq_true (Or.inr (Or.inl h2))]; rfl
  rw [if_neg h2]
  by_cases h8 : r.1 = 8
  · rw [if_pos h8, decide_eq_true (Or.inr (Or.inr (Or.inr (Or.inl h8))))]; rfl
  rw [if_neg h8]
  by_cases h9 : r.1 = 9
  · rw [if_pos h9, decide_eq_true (Or.inr (Or.inr (Or.inr (Or.inr (Or.inl h9)))))]; rfl
  rw [if_neg h9]
  by_cases h10 : r.1 = 10
  · rw [if_pos h10, decide_eq_true (Or.inr (Or.inr (Or.inr (Or.inr (Or.inr (Or.inl h10))))))]; rfl
  rw [if_neg h10]
  by_cases h13 : r.1 = 13
  · rw [if_pos h13, decide_eq_true (Or.inr (Or.inr (Or.inr (Or.inr (Or.inr (Or.inr (Or.inl h13)))))))]; rfl
  rw [if_neg h13]
  by_cases h7 : r.1 = 7
  · rw [if_pos h7, decide_eq_true (Or.inr (Or.inr (Or.inl h7)))]; rfl
  rw [if_neg h7]
  by_cases h14 : r.1 = 14
  · rw [if_pos h14, decide_eq_true (Or.inr (Or.inr (Or.inr (Or.inr (Or.inr (Or.inr (Or.inr h14)))))))]; rfl
  rw [if_neg h14, decide_eq_false]
  · rfl
  · intro q
    rcases q with q | q | q | q | q | q | q | q
    · exact h1 q
    · exact h2 q
    · exact h7 q
    · exact h8 q
    · exact h9 q
    · exact h10 q
    · exact h13 q
    · exact h14 q
/-- STEPS and the place, ahead of an order -/
theorem MRn.tick (M : MRn T t b wm cm (H, f :: fs, k, st, sc) s) (c : Bool) : ∃ s1 s2, (c = true → (gI (mjW0 s) 97 12 100 (fun v1 => pI (mjW0 s) 97 12 100 (v1 + (1 : Int32)) (fun hp2 => some (none, hp2))) : mjU) = some (none, mjW0 s1)) ∧ (c = false → s1 = s) ∧ s1.1 97 119 = nI (i0T t f.1 + k) ∧ mjW0 s2 = mjW0 (uI s1 97 (upd (s1.1 97) 119 (nI (i0T t f.1 + (k + 1))))) ∧ oRn s s2 ∧ MRn T t b wm cm (H, f :: fs, k + 1, st, aTick sc c) s2 ∧ s1 = (if c = true then uI s 97 (upd (s.1 97) 100 (s.1 97 100 + 1)) else s) := by
  obtain ⟨s1, g1⟩ : ∃ y, y = (if c = true then uI s 97 (upd (s.1 97) 100 (s.1 97 100 + 1)) else s) := ⟨_, rfl⟩
  obtain ⟨s2, g2⟩ : ∃ y, y = uI s1 97 (upd (s1.1 97) 119 (nI (i0T t f.1 + (k + 1)))) := ⟨_, rfl⟩
  obtain ⟨⟨⟨a1, a2, a3, a4⟩, ⟨a5, a6, a7⟩, ⟨a8, a9, a10⟩, ⟨a11, a12⟩, a13⟩, hH, hF, hT⟩ := M
  obtain ⟨c1, c2, c3⟩ := hT f fs rfl
  have a5' : s.1 97 100 = nI sc.2.2.2.1 := a5
  have v1 : ∀ x, s1.1 97 x = if x = 100 then nI (if c = true then sc.2.2.2.1 + 1 else sc.2.2.2.1) else s.1 97 x := by
    intro x
    rw [g1]
    cases c with
    | true =>
      rw [if_pos rfl, if_pos rfl, uI_same, upd_g, a5', nI_1]
    | false =>
      rw [if_neg (show ¬ (false = true) by decide), if_neg (show ¬ (false = true) by decide)]
      by_cases e : x = 100
      · rw [if_pos e, e, a5']
      · rw [if_neg e]
  have r1 : ∀ h, ¬ h = 97 → s1.1 h = s.1 h := by
    intro h e
    rw [g1]
    cases c with
    | true => rw [if_pos rfl]; exact uI_ne _ _ _ _ e
    | false => rw [if_neg (by decide)]
  have o1 : oRn s s1 := by
    rw [g1]
    cases c with
    | true => rw [if_pos rfl]; exact oRn.wr (by unfold chRn; omega)
    | false => rw [if_neg (by decide)]; exact offG.rf
  have v2 : ∀ x, s2.1 97 x = if x = 119 then nI (i0T t f.1 + (k + 1)) else s1.1 97 x := fun x => by rw [g2, uI_same, upd_g]
  have r2 : ∀ h, ¬ h = 97 → s2.1 h = s.1 h := fun h e => by rw [g2, uI_ne _ _ _ _ e, r1 h e]
  have n : ∀ x, ¬ (x = 119 ∨ x = 100) → s2.1 97 x = s.1 97 x := fun x hx => by rw [v2, if_neg (by omega), v1, if_neg (by omega)]
  refine ⟨s1, s2, fun hc => ?_, fun hc => ?_, ?_, by rw [g2], offG.tr o1 (by rw [g2]; exact oRn.wr (by unfold chRn; omega)), ⟨⟨⟨by rw [n 96 (by omega)]; exact a1, by rw [n 97 (by omega)]; exact a2, by rw [n 98 (by omega)]; exact a3, by rw [n 99 (by omega)]; exact a4⟩, ⟨by rw [v2, if_neg (by decide), v1, if_pos rfl]; rfl, by rw [n 105 (by omega)]; exact a6, by rw [n 106 (by omega)]; exact a7⟩, ⟨by rw [n 102 (by omega)]; exact a8, by rw [n 103 (by omega)]; exact a9, by rw [n 116 (by omega)]; exact a10⟩, ⟨by rw [n 101 (by omega)]; exact a11, by rw [n 104 (by omega)]; exact a12⟩, fun x h1 h2 => by rw [r2 167 (by decide)]; exact a13 x h1 h2⟩, hH.keep (fun x hx => r2 x (by omega)), FRr.keep (fun x hx => r2 x (by omega)) _ hF, fun g gs hg => ?_⟩, g1⟩
  · rw [xg_97_100, xp_97_100, g1, if_pos hc]
  · rw [g1, hc, if_neg (by decide)]
  · rw [v1, if_neg (by decide)]; exact c1
  · have hg' : f = g := (List.cons.inj hg).1
    rw [← hg']
    exact ⟨by rw [v2, if_pos rfl], by rw [n 118 (by omega)]; exact c2, STr.low st (fun x _ => by rw [r2 176 (by decide)]) c3⟩
end MJB51
