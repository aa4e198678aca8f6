/-! ===== the Coder: E ===== -/
section MJA34
variable {E : EV} {d N q c t n e k u v i m o w cs c0 c1 c2 kq nt t1 t2 D me : Nat} {s s1 s2 s' s0 : mjSt3} {j j0 : JS} {y z : PZ} {os os1 os2 : List Row} {l l1 l2 : List Ins} {al al1 al2 : Bool}
/-- the TYPES of what is compared -/
theorem x_chk (C : CB E.1 N q E.2.1 E.2.2.1 s) (g : GB N s) (ht : c1 ≤ N) (hc : (E.1 c1).1 = 200 ∨ (E.1 c1).1 = 201 ∨ (E.1 c1).1 = 60) (h1 : t1 < 524290) (h2 : t2 < 524290) : ∃ s', (if (E.1 c1).1 = 60 then rV (mjW0 s) 75 1 (bN (mjF (d + 3) 28 [.ref 75, .int (tyI t1), .int (tyI t2), .int (nI c1)] (mjW0 s)) (fun hp => b_11_93 (mjF (d + 3)) 75 (nI c1) hp)) else (if tyI t1 = -1 then b_11_70 (mjF (d + 3)) 75 (nI c1) (tyI t2) 1 (mjW0 s) else b_11_70 (mjF (d + 3)) 75 (nI c1) (tyI t2) 0 (mjW0 s))) = b_11_93 (mjF (d + 3)) 75 (nI c1) (mjW0 s') ∧ o58 s s' ∧ (tcd (E.1 c1).1 t1 t2 → s' = s) ∧ (¬ tcd (E.1 c1).1 t1 t2 → bdd N s') := by
  by_cases e60 : (E.1 c1).1 = 60
  · obtain ⟨z, z1, z2, z3, z4⟩ := x_28 (d := d) C g ht h1 h2
    have tn := tcd_n (t1 := t1) (t2 := t2) (Or.inr (Or.inr e60))
    refine ⟨z, ?_, z2, fun h => z3 (tn.mp h), fun h => z4 (fun x => h (tn.mpr x))⟩
    rw [if_pos e60, xV_75, z1, bN_s]
  · have tn := tcd_e (t1 := t1) (t2 := t2) (show (E.1 c1).1 = 200 ∨ (E.1 c1).1 = 201 by
      rcases hc with h | h | h
      · exact Or.inl h
      · exact Or.inr h
      · exact absurd h e60)
    have e1 : tyI t1 = -1 ↔ t1 = 0 := tyI_eq (u := 0) h1 (by decide)
    have e2 : tyI t2 = -1 ↔ t2 = 0 := tyI_eq (u := 0) h2 (by decide)
    obtain ⟨z, z1, z2, z3⟩ := j_atG (d := d + 2) (k := 7) C.1.1.1 g ht (by decide)
    rw [if_neg e60]
    unfold b_11_70 b_11_80
    by_cases a : t1 = 0
    · rw [if_pos (e1.mpr a)]
      by_cases b : t2 = 0
      · rw [if_pos (e2.mpr b), if_pos rfl]
        exact ⟨s, rfl, offG.rf, fun _ => rfl, fun h => absurd (tn.mpr ⟨fun _ => b, fun _ => a⟩) h⟩
      · rw [if_neg (fun x => b (e2.mp x)), if_neg (by decide), xg_75_0, xV_58, z1, bN_s]
        exact ⟨z, rfl, z3, fun h => absurd ((tn.mp h).mp a) b, fun _ => z2⟩
    · rw [if_neg (fun x => a (e1.mp x))]
      by_cases b : t2 = 0
      · rw [if_pos (e2.mpr b), if_neg (by decide), xg_75_0, xV_58, z1, bN_s]
        exact ⟨z, rfl, z3, fun h => absurd ((tn.mp h).mpr b) a, fun _ => z2⟩
      · rw [if_neg (fun x => b (e2.mp x)), if_pos rfl]
        exact ⟨s, rfl, offG.rf, fun _ => rfl, fun h => absurd (tn.mpr ⟨fun x => absurd x a, fun x => absurd x b⟩) h⟩
theorem x_11 (ih : hE E N q (d + 3) 12 (prE E.1 (N + 1) w 1 o) P3) : hE E N q (d + 4) 11 (prE E.1 (N + 1) (w + 1) 0 o) P3 := by
  intro c kq cs s j z hc C f hz h61 hK hA hb
  have hT := C.TH
  have h0 := hT.2.2.1
  have hn := C.1.hn
  have hq' : q = 2 ∨ q = 30 := C.pq
  have hrd : ∀ c kq x, prE E.1 (N + 1) w 1 o c kq = .inr x → c < x.1 := fun c kq x hx => (prE_len (T := E.1) (M := N + 1) w 1 o c kq x (by omega) hx).1
  have pre : mjF (d + 4) 11 [.ref 75] (mjW0 s) = _ := e_11 (d := d + 3)
  unfold f_11 b_11_0 at pre
  rw [xV_75] at pre
  rw [prE_0] at hz
  cases ha : prE E.1 (N + 1) w 1 o c kq with
  | inl x => rw [ha] at hz; cases hz
  | inr x =>
    rw [ha] at hz
    dsimp only at hz
    have hx := hrd _ _ _ ha
    by_cases g : isCmp (E.1 x.1).1 = true
    · rw [if_pos g] at hz
      have g' : (E.1 x.1).1 = 200 ∨ (E.1 x.1).1 = 201 ∨ (E.1 x.1).1 = 60 := by
        unfold isCmp at g
        exact of_decide_eq_true g
      have x61 : ¬ (E.1 x.1).1 = 61 := by
        rcases g' with h | h | h
        · rw [h]; decide
        · rw [h]; decide
        · rw [h]; decide
      cases hd : prE E.1 (N + 1) w 1 o (x.1 + 1) (kq + x.2.2.1.length) with
      | inl y => rw [hd] at hz; cases hz
      | inr y =>
        rw [hd] at hz
        cases hz
        dsimp only at h61 hK hA hb
        have hy := hrd _ _ _ hd
        have G := ih c kq cs s j x hc C f ha x61 (KT.app hK).1 (AG.app hA).1 (by omega)
        rcases G with ⟨s1, t1, al1, l1, g1, A1, gN, _⟩ | ⟨s1, vv, g1, gv, g2, g3, g4⟩
        · have xN : x.1 < N := by
            rcases g' with h | h | h
            · exact lt_z h0 gN h (by decide)
            · exact lt_z h0 gN h (by decide)
            · exact lt_z h0 gN h (by decide)
          have C1 : CE E N q s1 j (cs + l1.length) := C.go A1.2.2.2.2.2.2.1 A1.2.2.2.1
          have f1 := A1.2.2.1
          have A8 := A1.2.2.2.2.2.2.2
          have xg : o58 s1 (tkGo s1 (x.1 + 1)) := o58.go _ _
          have C2 : CE E N q (tkGo s1 (x.1 + 1)) (jE j t1 al1) (cs + l1.length) := C1.go xg.oe (by rw [xg.r (by omega)]; exact A1.2.2.2.1)
          have oe1 : oE q s (tkGo s1 (x.1 + 1)) := A1.2.2.2.2.2.2.1.tr xg.oe
          rw [g1, bI_s, xg_75_0, xV_58, x_compare (tk_f C1.TH f1 gN), bI_s, (C1.TH.2.2.2 x.1 gN).1, i01, if_pos g', xg_75_0, xV_58, j_now C1.TH f1.1 gN, bI_s, xg_75_0, xV_58, j_skip C1.TH f1 xN, bN_s, xV_75] at pre
          have G2 := ih (x.1 + 1) (kq + x.2.2.1.length) (cs + l1.length) (tkGo s1 (x.1 + 1)) (jE j t1 al1) y (by omega) C2 (f1.go _) hd h61 (KT.app hK).2 ((AG.app hA).2.oE C.pq oe1) (by omega)
          rcases G2 with ⟨s2, t2, al2, l2, r1, A2, rN, _⟩ | ⟨s2, vv, r1, rv, r2, r3, r4⟩
          · have C3 := C2.go A2.2.2.2.2.2.2.1 A2.2.2.2.1
            have B8 := A2.2.2.2.2.2.2.2
            obtain ⟨s3, y1, y2, y3, y4⟩ := x_chk (d := d) C3.1 (GB.of A2.2.2.1 rN) gN g' (A1.2.1.lt hn) (A2.2.1.lt hn)
            rw [r1, bI_s, xg_75_0, xV_58, j_kind C3.TH A2.2.2.1.1 rN gN, bI_s, y1] at pre
            unfold b_11_93 at pre
            by_cases tc : tcd (E.1 x.1).1 t1 t2
            · obtain ⟨s4, l4, w1, w2⟩ := twoG (d := d + 1) C A1 gN xg A2 rN (Or.inl g) tc (by omega)
              rw [y3 tc, xV_75, w1, bI_s] at pre
              exact Or.inl ⟨s4, 0, false, l4, pre, w2, rN, fun x => by cases x⟩
            · have B : BC E.1 N q E.2.1 E.2.2.1 s3 := C3.bad (by omega) y2 (y4 tc)
              obtain ⟨s4, w1, w2, w3⟩ := n_29 (d := d + 1) B gN
              rw [xV_75, w1, bI_s] at pre
              refine Or.inr ⟨s4, 0, pre, by decide, ?_, w2, oe1.C.tr (A2.2.2.2.2.2.2.1.C.tr (y2.C.tr w3))⟩
              show jrun E (x.2.2.2.1 ++ y.2.2.2.1 ++ [oTwo E.1 x.1]) j = none
              rw [twoJ A1 A2.1, show oTwo E.1 x.1 = (9, (E.1 x.1).2.1, nbr (E.1 x.1).1 0, 0, 0) from rfl, two_no _ _ tc]
          · obtain ⟨s3, y1, y2, y3, y4⟩ := x_chk (d := d) r3.1 (GB.ob r3.2.1) gN g' (A1.2.1.lt hn) rv
            have B : BC E.1 N q E.2.1 E.2.2.1 s3 := r3.of58' y2 (by
              by_cases h : tcd (E.1 x.1).1 t1 vv
              · exact Or.inl (y3 h)
              · exact Or.inr (y4 h))
            obtain ⟨s4, w1, w2, w3⟩ := n_29 (d := d + 1) B gN
            rw [r1, bI_s, xg_75_0, xV_58, j_kind r3.1.1.1.1 r3.2.1.1 (Nat.le_refl N) gN, bI_s, y1] at pre
            unfold b_11_93 at pre
            rw [xV_75, w1, bI_s] at pre
            exact Or.inr ⟨s4, 0, pre, by decide, twoN A1 r2, w2, oe1.C.tr (r4.tr (y2.C.tr w3))⟩
        · have hT1 := g3.1.1.1.1
          have k60 : s1.1 60 N = 0 := by rw [(hT1.2.2.2 N (Nat.le_refl N)).1, hT1.2.2.1]
          rw [g1, bI_s, xg_75_0, xV_58, x_compare (tk_b hT1 g3.2.1), bI_s, k60, i01, if_neg (by decide)] at pre
          refine Or.inr ⟨s1, vv, pre, gv, ?_, g3, g4⟩
          show jrun E (x.2.2.2.1 ++ y.2.2.2.1 ++ [oTwo E.1 x.1]) j = none
          rw [List.append_assoc]
          exact jrun_no g2
    · rw [if_neg g] at hz
      cases hz
      have G := ih c kq cs s j z hc C f ha h61 hK hA hb
      rcases G with ⟨s1, t1, al1, l1, g1, A1, gN, g4⟩ | ⟨s1, vv, g1, gv, g2, g3, g4⟩
      · have C1 : CE E N q s1 j (cs + l1.length) := C.go A1.2.2.2.2.2.2.1 A1.2.2.2.1
        rw [g1, bI_s, xg_75_0, xV_58, x_compare (tk_f C1.TH A1.2.2.1 gN), bI_s, (C1.TH.2.2.2 z.1 gN).1, i01, if_neg (fun h => g (by unfold isCmp; exact decide_eq_true h))] at pre
        exact Or.inl ⟨s1, t1, al1, l1, pre, A1, gN, g4⟩
      · have hT1 := g3.1.1.1.1
        have k60 : s1.1 60 N = 0 := by rw [(hT1.2.2.2 N (Nat.le_refl N)).1, hT1.2.2.1]
        rw [g1, bI_s, xg_75_0, xV_58, x_compare (tk_b hT1 g3.2.1), bI_s, k60, i01, if_neg (by decide)] at pre
        exact Or.inr ⟨s1, vv, pre, gv, g2, g3, g4⟩
/-- how deep the calls of an E at level o go -/
def dpE (o : Nat) : Nat := 8 + 7 * (12 - o)
def hS (E : EV) (N q w : Nat) : Prop := ∀ o, o ≤ 12 → ∀ e, hE E N q (dpE o + e + 4) 11 (prE E.1 (N + 1) w 0 o) P3 ∧ hE E N q (dpE o + e + 3) 12 (prE E.1 (N + 1) w 1 o) P3 ∧ hE E N q (dpE o + e + 2) 13 (prE E.1 (N + 1) w 2 o) P3 ∧ hE E N q (dpE o + e + 1) 14 (prE E.1 (N + 1) w 3 o) P3 ∧ hE E N q (dpE o + e) 15 (prE E.1 (N + 1) w 4 o) P3
theorem hE_no {rd : Nat → Nat → PX} {P : Nat → PZ → Bool → List Ins → Prop} (h : ∀ c kq x, ¬ rd c kq = .inr x) : hE E N q D me rd P := by
  intro c kq cs s j z _ _ _ hz
  exact absurd hz (h c kq z)
theorem hS_all : ∀ (W w : Nat), w ≤ W → hS E N q w
  | W, 0, _ => by
    intro o _ e
    exact ⟨hE_no (fun _ _ _ h => by cases h), hE_no (fun _ _ _ h => by cases h), hE_no (fun _ _ _ h => by cases h), hE_no (fun _ _ _ h => by cases h), hE_no (fun _ _ _ h => by cases h)⟩
  | 0, w + 1, h => by omega
  | W + 1, w + 1, hw => by
    have IH : hS E N q w := hS_all W w (by omega)
    intro o ho e
    obtain ⟨i1, i2, i3, i4, i5⟩ := IH o ho e
    have hd : 8 ≤ dpE o := by unfold dpE; omega
    obtain ⟨b, hb⟩ : ∃ b, dpE o + e = b + 8 := ⟨dpE o + e - 8, by omega⟩
    rw [hb] at i1 i2 i3 i4 i5 ⊢
    refine ⟨x_11 (d := b + 8) i2, x_12 (d := b + 7) i3, x_13 (d := b + 6) i4, x_14 (d := b + 6) i5 (fun o12 => ?_), ?_⟩
    · have hd1 : dpE o = dpE (o + 1) + 7 := by unfold dpE; omega
      have := (IH (o + 1) (by omega) (e + 6)).2.2.2.1
      rw [show dpE (o + 1) + (e + 6) + 1 = b + 8 by omega] at this
      exact this
    · cases w with
      | zero => exact hE_no (fun _ _ _ h => by cases h)
      | succ w =>
        have IH2 : hS E N q w := hS_all W w (by omega)
        refine x_15 (d := b) (fun o12 => ?_) (fun o12 => ?_)
        · have hd1 : dpE o = dpE (o + 1) + 7 := by unfold dpE; omega
          have := (IH2 (o + 1) (by omega) e).1
          rw [show dpE (o + 1) + e + 4 = b + 5 by omega] at this
          exact this
        · have hd1 : dpE o = dpE (o + 1) + 7 := by unfold dpE; omega
          have := (IH2 (o + 1) (by omega) (e + 1)).1
          rw [show dpE (o + 1) + (e + 1) + 4 = b + 6 by omega] at this
          exact this
/-- THE CODER'S E IS THE JUDGED ORDERS OF THE GRAMMAR'S -/
theorem hE_all (w e : Nat) : hE E N q (96 + e) 11 (prE E.1 (N + 1) w 0 0) P3 := by
  have := (hS_all (E := E) (N := N) (q := q) w w (Nat.le_refl w) 0 (by omega) e).1
  rw [show dpE 0 + e + 4 = 96 + e by unfold dpE; omega] at this
  exact this
end MJA34
