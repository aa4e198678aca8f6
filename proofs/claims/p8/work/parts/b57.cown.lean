/-! ===== the class's RUN: OWNERS ===== -/
/-- what the class's RUN reads of the program's heads -/
def CPH (T : TT) (L : List CD) (q : Nat) (s : mjSt3) : Prop := PG T L q s ∧ s.2.2 82 2 = q ∧ s.2.2 82 3 = q + 24
def FCL (T : TT) (L : List CD) (H : HEAP) (f : FRM) : Prop := (f.1 = 384 ∧ f.2.1 = 0) ∨ (f.1 < nMem L ∧ mSM L f.1 = true ∧ 1 ≤ f.2.1 ∧ f.2.1 ≤ H.1 ∧ (vwT (nmL L) (abT T L) (H.2 f.2.1).1 (hmM L f.1)).isSome = true)
section MJB57
variable {T : TT} {N wm cm pc k n d i o q w x kk : Nat} {pf : Nat → Nat → Nat} {L : List CD} {H H' : HEAP} {f g : FRM} {fs gs : List FRM} {st : List Int32} {sc : SCL} {s s' : mjSt3} {A : AMS} {v : Int32}
/-- ownerSeen -/
theorem x_93 (hH : HPc T L H s) (B : HBs T L H) (a1 : 1 ≤ o) (a2 : o ≤ H.1) (n5 : nmL L (H.2 o).1 ≤ 5) (hw : w < 524288) (hi : i ≤ 4) : mjF (d + 2) 93 [.ref 82, .int (nI o), .int (nI w), .int (nI i)] (mjW0 s) = some (some (.int (nI (if oK w i < nmL L (H.2 o).1 then (H.2 o).2.1 (oK w i) else 0))), mjW0 s) := by
  have o8 := oK_lt w i
  rw [e_93]
  unfold f_93 b_93_0
  rw [x_106 (by omega) hi, bI_s, xg_82_0, xV_79, x_48 hH B a1 a2, bI_s]
  by_cases q : oK w i < nmL L (H.2 o).1
  · rw [if_pos q, if_neg (nI_ge q (by omega)), xg_82_0, xV_79, x_49 hH B a1 a2 q, bI_s]
  · rw [if_neg q, if_pos (nI_le (by omega) (by omega))]
    rfl
/-- ownerHere -/
theorem x_92 (hn : HN T N L) (M : CRn T L pf wm cm pc (H, f :: fs, k, st, sc) s) (C : CPH T L q s) (B : HBs T L H) (hO : HOK T L H) (F : FCL T L H f) (hl : fs.length < 40) (hx : x ≤ 6) : mjF (d + 3) 92 [.ref 82, .int (nI x)] (mjW0 s) = some (some (.int (nI (hereO T L H f.1 f.2.1 x))), mjW0 s) := by
  obtain ⟨⟨g1, g2, g3, g4⟩, ⟨g5, g6, g7⟩, g8, g9, g10, g11, g12, g13, g14⟩ := C.1
  obtain ⟨⟨b1, b2', b3, b4, b5⟩, b6⟩ := M.2.2.1
  have h79 : s.1 79 2 = nI H.1 := M.1.2.2.1.2.1
  have hH : HPc T L H s := M.2.1
  have hb := B.1
  have hb2 := B.2
  have l16 := hn.1
  rw [e_92]
  unfold f_92 b_92_0 b_92_34 hereO
  rw [xg_82_1, xV_83, x_38 M hl, bI_s, xg_82_1, xg_83_3, wa_85 hl, b2']
  by_cases x5 : x = 5
  · rw [x5, if_pos (show nI 5 = (5 : Int32) from rfl), if_pos (Or.inl rfl)]
    rfl
  have x5' : ¬ nI x = (5 : Int32) := fun e => x5 ((nI_eq (b := 5) (by omega) (by decide)).mp e)
  rw [if_neg x5', xg_82_0, xV_79]
  rcases F with ⟨f1, f2⟩ | ⟨f1, f2, f3, f4, f5⟩
  · rw [f2, show nI 0 = (0 : Int32) from rfl, x_43z, bI_s, if_pos rfl, if_pos (Or.inr rfl)]
    rfl
  rw [x_43o h79 (by omega) f3 f4, bI_s, if_neg (show ¬ ((1 : Int32) = 0) by decide), if_neg (show ¬ (x = 5 ∨ f.2.1 = 0) by omega)]
  by_cases x6 : x = 6
  · rw [x6, if_pos (show nI 6 = (6 : Int32) from rfl), if_pos rfl]
  have x6' : ¬ nI x = (6 : Int32) := fun e => x6 ((nI_eq (b := 6) (by omega) (by decide)).mp e)
  obtain ⟨u1, u2, u3, u4⟩ := g12 f.1 f1
  have cl := (hO f.2.1 f3 f4).1
  have n5 := (vK.n5 hn cl).2
  have m384 := g11.2
  rw [if_neg x6', if_neg x6, xg_82_2, xg_82_0, xV_79, x_46 hH B f3 f4, bI_s, xg_82_2, C.2.1, yg_14 g1, ymg_2 g1, xg_82_1, xg_83_2, wa_84 hl, b1, wya_16 g1 (by omega), u1, yV g1, x_view g1 (by omega) (by omega), bI_s, g7 _ (by omega) _ (by omega), if_pos cl, xV_82]
  unfold seenO
  cases hv : vwT (nmL L) (abT T L) (H.2 f.2.1).1 (hmM L f.1) with
  | none => rw [hv] at f5; cases f5
  | some y =>
    have vv := (vw_v hn cl hv).1
    rw [oI_s, x_93 hH B f3 f4 n5 (vv.lt hn) (by omega), bI_s]
theorem L94_S (R : mjR) (n a : Nat) (b c e f' g' h : Int32) (hp : mjH) : L_94_51 R (n + 1) a b c e f' g' h hp = b_94_51 R (L_94_51 R n) a b c e f' g' h hp := rfl
theorem lq_94 (hn : HN T N L) (M : CRn T L pf wm cm pc (H, f :: fs, k, st, sc) s) (C : CPH T L q s) (B : HBs T L H) (hO : HOK T L H) (F : FCL T L H f) (hl : fs.length < 40) (a1 : 1 ≤ o) (a2 : o ≤ H.1) (vk : vK L kk) (hvw : vwT (nmL L) (abT T L) (H.2 o).1 (cK kk) = some w) : ∀ (r i n : Nat) (y : Bool), i + r = nmL L (cK kk) → r + 1 < n → (y = true ↔ ∀ x, x < i → seenO T L H o (cK kk) x = hereO T L H f.1 f.2.1 (oK kk x)) → L_94_51 (mjF (d + 3)) n 82 (nI o) (nI kk) (nI (cK kk)) (nI w) (b2 y) (nI i) (mjW0 s) = some (some (.int (b2 (allB (fun x => decide (seenO T L H o (cK kk) x = hereO T L H f.1 f.2.1 (oK kk x))) (nmL L (cK kk))))), mjW0 s)
  | r, i, 0, y, e, hr, hy => by omega
  | r, i, n + 1, false, e, hr, hy => by
    rw [L94_S]
    unfold b_94_51 b_94_105
    rw [if_pos (show b2 false = 0 from rfl), if_pos (b2_nar false)]
    have e2 : allB (fun x => decide (seenO T L H o (cK kk) x = hereO T L H f.1 f.2.1 (oK kk x))) (nmL L (cK kk)) = false := by
      cases ha : allB (fun x => decide (seenO T L H o (cK kk) x = hereO T L H f.1 f.2.1 (oK kk x))) (nmL L (cK kk)) with
      | false => rfl
      | true =>
        have hh := allB_iff.mp ha
        have : false = true := hy.mpr (fun x hx => of_decide_eq_true (hh x (by omega)))
        exact this.symm
    rw [e2]
  | 0, i, n + 1, true, e, hr, hy => by
    obtain ⟨⟨g1, g2, g3, g4⟩, _⟩ := C.1
    have ck := vk.cl hn
    have l16 := hn.1
    rw [L94_S]
    unfold b_94_51 b_94_105
    have e2 : allB (fun x => decide (seenO T L H o (cK kk) x = hereO T L H f.1 f.2.1 (oK kk x))) (nmL L (cK kk)) = true := allB_iff.mpr (fun x hx => decide_eq_true (hy.mp rfl x (by omega)))
    rw [if_neg (show ¬ b2 true = 0 by decide), xg_82_2, C.2.1, yg_1 g1, wya_1 g1 (by omega), (g2 (cK kk) (by omega)).1, if_pos (nI_le (by omega) (by have := (g2 (cK kk) (by omega)).2; omega)), if_pos (b2_nar true), e2]
  | r + 1, i, n + 1, true, e, hr, hy => by
    obtain ⟨⟨g1, g2, g3, g4⟩, _⟩ := C.1
    have ck := vk.cl hn
    have l16 := hn.1
    have n5 := (g2 (cK kk) (by omega)).2
    have cl := (hO o a1 a2).1
    have n5o := (vK.n5 hn cl).2
    have vw := (vw_v hn cl hvw).1
    have hb := B.1
    have hb2 := B.2
    have self : f.2.1 ≤ H.1 := by
      rcases F with ⟨_, h⟩ | ⟨_, _, _, h, _⟩
      · omega
      · exact h
    have b1 := seen_lt (a := cK kk) hO a1 a2 i
    have b2' := here_lt (m := f.1) (x := oK kk i) hO self
    have es : seenO T L H o (cK kk) i = if oK w i < nmL L (H.2 o).1 then (H.2 o).2.1 (oK w i) else 0 := by unfold seenO; rw [hvw]
    have x93 := x_93 (d := d + 1) M.2.1 B a1 a2 n5o (vw.lt hn) (show i ≤ 4 by omega)
    rw [← es] at x93
    rw [L94_S]
    unfold b_94_51
    rw [if_neg (show ¬ b2 true = 0 by decide), xg_82_2, C.2.1, yg_1 g1, wya_1 g1 (by omega), (g2 (cK kk) (by omega)).1, if_neg (nI_ge (by omega) (by omega)), xV_82, x93, bI_s, x_106 (by have := vk.lt hn; omega) (by omega), bI_s, xV_82, x_92 hn M C B hO F hl (vk.ow hn i (by omega)), bI_s]
    unfold b_94_97
    by_cases g : seenO T L H o (cK kk) i = hereO T L H f.1 f.2.1 (oK kk i)
    · rw [if_pos (congrArg nI g), nI_1]
      exact lq_94 hn M C B hO F hl a1 a2 vk hvw r (i + 1) n true (by omega) (by omega) ⟨fun _ x hx => by
        by_cases e' : x = i
        · rw [e']; exact g
        · exact hy.mp rfl x (by omega), fun _ => rfl⟩
    · rw [if_neg (fun e' => g ((nI_eq (by omega) (by omega)).mp e')), nI_1]
      exact lq_94 hn M C B hO F hl a1 a2 vk hvw r (i + 1) n false (by omega) (by omega) ⟨fun h => (by cases h), fun h => absurd (h i (by omega)) g⟩
/-- isAs -/
theorem x_94 (hn : HN T N L) (M : CRn T L pf wm cm pc (H, f :: fs, k, st, sc) s) (C : CPH T L q s) (B : HBs T L H) (hO : HOK T L H) (F : FCL T L H f) (hl : fs.length < 40) (vk : vK L kk) (hv : v = 0 ∨ ∃ o, v = nI o ∧ 1 ≤ o ∧ o ≤ H.1) : mjF (d + 4) 94 [.ref 82, .int v, .int (nI kk)] (mjW0 s) = some (some (.int (b2 (asO T L H f.1 f.2.1 v kk))), mjW0 s) := by
  obtain ⟨⟨g1, g2, g3, g4⟩, ⟨g5, g6, g7⟩, _⟩ := C.1
  have h79 : s.1 79 2 = nI H.1 := M.1.2.2.1.2.1
  have hHp : HPc T L H s := M.2.1
  have hb := B.1
  have hb2 := B.2
  have ck := vk.cl hn
  have l16 := hn.1
  have hmj := mjN_v
  rw [e_94]
  unfold f_94 b_94_0 asO
  rw [xg_82_0, xV_79]
  by_cases v0 : v = 0
  · rw [v0, x_43z, bI_s, if_pos rfl, decide_eq_true (rfl : (0 : Int32) = 0), Bool.true_or]
    rfl
  obtain ⟨o, e1, a1, a2⟩ := hv.resolve_left v0
  have cl := (hO o a1 a2).1
  rw [decide_eq_false v0, Bool.false_or, e1, nN_nI (by omega), x_43o h79 (by omega) a1 a2, bI_s, if_neg (show ¬ ((1 : Int32) = 0) by decide), x_105 (by have := vk.lt hn; omega), bI_s, xg_82_2, C.2.1, xg_82_0, xV_79, x_46 hHp B a1 a2, bI_s, yV g1, x_view g1 (by omega) (by omega), bI_s, g7 _ (by omega) _ (by omega), if_pos cl]
  unfold b_94_46
  cases hvw : vwT (nmL L) (abT T L) (H.2 o).1 (cK kk) with
  | none =>
    rw [oI_n, if_pos (by decide), show mjN = 99999999 + 1 from rfl, L94_S]
    unfold b_94_51 b_94_105
    rw [if_pos rfl, if_pos (show narrow .boolean (.int 0) = .int 0 from b2_nar false)]
    rfl
  | some w =>
    have vw := (vw_v hn cl hvw).1.lt hn
    rw [oI_s, if_neg (show ¬ nI w < 0 from nI_nlt (b := 0) (Nat.zero_le _) (by omega))]
    exact lq_94 (w := w) hn M C B hO F hl a1 a2 vk hvw (nmL L (cK kk)) 0 mjN true (by omega) (by have := (g2 (cK kk) (by omega)).2; omega) ⟨fun _ x hx => by omega, fun _ => rfl⟩
end MJB57
