/-! ===== the Coder: BLOCKS ===== -/
theorem pSeq_pre {T : TT} {rd : Nat → Nat → Nat → Nat → PY} {kq i0 : Nat} (hr : ∀ c td kq i0 x, rd c td kq i0 = .inr x → c < x.1) : ∀ (k : Nat) (z y : PB), pSeq T rd kq i0 k z = .inr y → z.1 ≤ y.1 ∧ ∃ a b c, y.2.2.1 = z.2.2.1 ++ a ∧ y.2.2.2.1 = z.2.2.2.1 ++ b ∧ y.2.2.2.2 = z.2.2.2.2 ++ c
  | 0, z, y, h => by cases h; exact ⟨Nat.le_refl _, [], [], [], (List.append_nil _).symm, (List.append_nil _).symm, (List.append_nil _).symm⟩
  | k + 1, z, y, h => by
    unfold pSeq at h
    by_cases g : (T z.1).1 = 125
    · rw [if_pos g] at h
      cases h
      exact ⟨Nat.le_refl _, [], [], [], (List.append_nil _).symm, (List.append_nil _).symm, (List.append_nil _).symm⟩
    · rw [if_neg g] at h
      cases hd : rd z.1 z.2.1 (kq + z.2.2.1.length) (i0 + z.2.2.2.1.length) with
      | inl e => rw [hd] at h; cases h
      | inr x =>
        rw [hd] at h
        have := hr _ _ _ _ _ hd
        obtain ⟨h1, a, b, c, h2, h3, h4⟩ := pSeq_pre hr k _ y h
        dsimp only at h1 h2 h3 h4
        exact ⟨by omega, _, _, _, by rw [h2, List.append_assoc], by rw [h3, List.append_assoc], by rw [h4, List.append_assoc]⟩
theorem prS_lt {T : TT} {M : Nat} : ∀ (f tag o c td kq i0 : Nat) (y : PB), tag ≤ 1 → prS T M f tag o c td kq i0 = .inr y → c < y.1
  | 0, _, _, _, _, _, _, _, _, h => by cases h
  | f + 1, 0, o, c, td, kq, i0, y, _, h => by
    rw [prS_0] at h
    unfold pBlk at h
    by_cases a : (T c).1 = 123
    · rw [if_pos a] at h
      by_cases b : o = 12
      · rw [if_pos b] at h; cases h
      rw [if_neg b] at h
      cases hd : pSeq T (prS T M f 1 (o + 1)) kq i0 M (c + 1, td, [], [(26, (T (c + 1)).2.1, 0, 0, 0)], []) with
      | inl e => rw [hd] at h; cases h
      | inr z =>
        rw [hd] at h
        dsimp only at h
        have := (pSeq_pre (fun c td kq i0 x hx => prS_lt f 1 (o + 1) c td kq i0 x (by omega) hx) _ _ _ hd).1
        dsimp only at this
        by_cases g : (T z.1).1 = 125
        · rw [if_pos g] at h; cases h; show c < z.1 + 1; omega
        · rw [if_neg g] at h; cases h
    · rw [if_neg a] at h; cases h
  | f + 1, 1, o, c, td, kq, i0, y, _, h => by
    rw [prS_1] at h
    have grd : ∀ i0 x, pGrd T M (prS T M f 0 o) o c td kq i0 = .inr x → c < x.1.1 ∧ x.1.1 < x.2.1 := by
      intro i0 x hx
      unfold pGrd at hx
      by_cases a : (T (c + 1)).1 = 40
      · rw [if_pos a] at hx
        by_cases b : o = 12
        · rw [if_pos b] at hx; cases hx
        rw [if_neg b] at hx
        cases hv : prV T M (o + 1) (c + 2) kq with
        | inl e => rw [hv] at hx; cases hx
        | inr v =>
          rw [hv] at hx
          dsimp only at hx
          have hl := (prE_len (T := T) (M := M) 100 0 (o + 1) (c + 2) kq v (by omega) hv).1
          by_cases g : (T v.1).1 = 41
          · rw [if_pos g] at hx
            cases hb : prS T M f 0 o (v.1 + 1) td (kq + v.2.2.1.length) (i0 + v.2.2.2.1.length + 1) with
            | inl e => rw [hb] at hx; cases hx
            | inr w =>
              rw [hb] at hx
              cases hx
              have := prS_lt f 0 o _ _ _ _ w (by omega) hb
              dsimp only
              omega
          · rw [if_neg g] at hx; cases hx
      · rw [if_neg a] at hx; cases hx
    by_cases e1 : (T c).1 = 2 ∨ (T c).1 = 10
    · rw [if_pos e1] at h
      unfold pDecl at h
      cases hp : pType T c with
      | inl x => rw [hp] at h; cases h
      | inr c1 =>
        rw [hp] at h
        dsimp only at h
        have l1 := (pType_len hp).1
        by_cases h3 : (T c1).1 = 3
        · rw [if_pos h3] at h
          by_cases t16 : td = 16
          · rw [if_pos t16] at h; cases h
          rw [if_neg t16] at h
          by_cases h61 : (T (c1 + 1)).1 = 61
          · rw [if_pos h61] at h
            cases hv : prV T M o (c1 + 2) (kq + (if (T c).1 = 10 then 0 else 1)) with
            | inl x => rw [hv] at h; cases h
            | inr v =>
              rw [hv] at h
              dsimp only at h
              have hl := (prE_len (T := T) (M := M) 100 0 o (c1 + 2) _ v (by omega) hv).1
              by_cases h59 : (T v.1).1 = 59
              · rw [if_pos h59] at h; cases h; show c < v.1 + 1; omega
              · rw [if_neg h59] at h; cases h
          · rw [if_neg h61] at h; cases h
        · rw [if_neg h3] at h; cases h
    rw [if_neg e1] at h
    by_cases e15 : (T c).1 = 15
    · rw [if_pos e15] at h
      unfold pIf at h
      cases hg : pGrd T M (prS T M f 0 o) o c td kq (i0 + 1) with
      | inl e => rw [hg] at h; cases h
      | inr x =>
        rw [hg] at h
        obtain ⟨g1, g2⟩ := grd _ _ hg
        obtain ⟨v, w⟩ := x
        dsimp only at h g1 g2
        by_cases e16 : (T w.1).1 = 16
        · rw [if_pos e16] at h
          cases hb : prS T M f 0 o (w.1 + 1) w.2.1 (kq + v.2.2.1.length + w.2.2.1.length) (i0 + 3 + v.2.2.2.1.length + w.2.2.2.1.length) with
          | inl e => rw [hb] at h; cases h
          | inr u =>
            rw [hb] at h
            cases h
            have := prS_lt f 0 o _ _ _ _ u (by omega) hb
            show c < u.1
            omega
        · rw [if_neg e16] at h; cases h; show c < w.1; omega
    rw [if_neg e15] at h
    by_cases e17 : (T c).1 = 17
    · rw [if_pos e17] at h
      unfold pWhile at h
      cases hg : pGrd T M (prS T M f 0 o) o c td kq (i0 + 2) with
      | inl e => rw [hg] at h; cases h
      | inr x =>
        rw [hg] at h
        obtain ⟨g1, g2⟩ := grd _ _ hg
        obtain ⟨v, w⟩ := x
        dsimp only at g1 g2
        cases h
        show c < w.1
        omega
    rw [if_neg e17] at h
    have giv : ∀ w, pGive T M o c td kq w = .inr y → c < y.1 := by
      intro w hx
      unfold pGive at hx
      cases hv : prV T M o (c + 1) kq with
      | inl e => rw [hv] at hx; cases hx
      | inr v =>
        rw [hv] at hx
        dsimp only at hx
        have hl := (prE_len (T := T) (M := M) 100 0 o (c + 1) kq v (by omega) hv).1
        by_cases g : (T v.1).1 = 59
        · rw [if_pos g] at hx; cases hx; show c < v.1 + 1; omega
        · rw [if_neg g] at hx; cases hx
    by_cases e18 : (T c).1 = 18
    · rw [if_pos e18] at h; exact giv _ h
    rw [if_neg e18] at h
    by_cases e19 : (T c).1 = 19
    · rw [if_pos e19] at h; exact giv _ h
    rw [if_neg e19] at h
    by_cases e123 : (T c).1 = 123
    · rw [if_pos e123] at h
      exact prS_lt f 0 o c td kq i0 y (by omega) h
    rw [if_neg e123] at h
    unfold pUse at h
    cases hv : prV T M o c kq with
    | inl e => rw [hv] at h; cases h
    | inr v =>
      rw [hv] at h
      dsimp only at h
      have hl := (prE_len (T := T) (M := M) 100 0 o c kq v (by omega) hv).1
      by_cases g : (T v.1).1 = 61 ∧ (v.2.1 = 1 ∨ v.2.1 = 2)
      · rw [if_pos g] at h
        cases hv2 : prV T M o (v.1 + 1) (kq + v.2.2.1.length) with
        | inl e => rw [hv2] at h; cases h
        | inr w =>
          rw [hv2] at h
          dsimp only at h
          have hl2 := (prE_len (T := T) (M := M) 100 0 o (v.1 + 1) _ w (by omega) hv2).1
          by_cases g2 : (T w.1).1 = 59
          · rw [if_pos g2] at h; cases h; show c < w.1 + 1; omega
          · rw [if_neg g2] at h; cases h
      · rw [if_neg g] at h
        by_cases g2 : (T v.1).1 = 59 ∧ v.2.1 = 3
        · rw [if_pos g2] at h; cases h; show c < v.1 + 1; omega
        · rw [if_neg g2] at h; cases h
  | f + 1, t + 2, o, c, td, kq, i0, y, ht, h => by omega
section MJA42
variable {E : EV} {d N q c t n e k u v i m o w cs c0 c1 kq nt D me i0 td kn : Nat} {s s1 s2 s' s0 : mjSt3} {j j0 j' jb : JS} {y z : PB} {os : List Row} {l l1 : List Ins} {r : Row}
/-- the loop of codeBlock -/
theorem seqC {rd : Nat → Nat → Nat → Nat → PY} (h8 : hSt E N q (d + 1) 8 0 rd) (hlt : ∀ c td kq i0 x, rd c td kq i0 = .inr x → c < x.1) (C : CE E N q s0 jb cs) (hR : RT E s0) (hVD : VD jb) (hK : KT E.2.2.2.1 kq y.2.2.1) (hA : AG s0 y.2.2.2.2) (hP : ∀ os', y.2.2.2.1 = r :: os' → PS E (i0 + 1) cs os' jb) (hb : cs + (y.1 - c0) ≤ 3090) (hi0 : i0 + y.2.2.2.1.length ≤ 100000) (hkq : kq + y.2.2.1.length ≤ 100000) (hkn : kn ≤ 16) : ∀ (k n i : Nat) (z : PB) (s : mjSt3) (j : JS) (l : List Ins) (os' : List Row), pSeq E.1 rd kq i0 k z = .inr y → z.2.2.2.1 = r :: os' → i + k = N + 1 → k < n → atS E N q s0 c0 cs jb os' s z.1 j l → j.2.2.2.1 = z.2.1 → (∃ s' j' l' os'', y.2.2.2.1 = r :: os'' ∧ L_7_14 (mjF (d + 1)) n 75 (nI kn) (nI i) (mjW0 s) = b_7_57 (mjF (d + 1)) 75 (nI kn) (mjW0 s') ∧ atS E N q s0 c0 cs jb os'' s' y.1 j' l' ∧ j'.2.2.2.1 = y.2.1) ∨ (∃ s' os'', y.2.2.2.1 = r :: os'' ∧ L_7_14 (mjF (d + 1)) n 75 (nI kn) (nI i) (mjW0 s) = some (none, mjW0 s') ∧ bdC E N q s0 jb os'' s')
  | k, 0, i, z, s, j, l, os', h, ez, hi, hk, A, htd => by omega
  | 0, n + 1, i, z, s, j, l, os', h, ez, hi, hk, A, htd => by
    cases h
    have hT := A.2.1.TH
    refine Or.inl ⟨s, j, l, os', ez, ?_, A, htd⟩
    rw [L7_S]
    unfold b_7_14
    rw [xg_75_0, xV_58, sz0 hT A.2.2.1.1 A.2.2.2.2.2.2.2.1, bI_s, if_pos (show nI (N + 1) ≤ nI i by rw [show i = N + 1 by omega]; exact Int32.le_refl _)]
  | k + 1, n + 1, i, z, s, j, l, os', h, ez, hi, hk, A, htd => by
    obtain ⟨A1, A2, A3, A4, A5, A6, A7, A8, A9⟩ := id A
    have hT := A2.TH
    have hN := hT.2.1
    have hq' : q = 2 ∨ q = 30 := C.pq
    have pre : L_7_14 (mjF (d + 1)) (n + 1) 75 (nI kn) (nI i) (mjW0 s) = _ := L7_S _ _ _ _ _ _
    unfold b_7_14 at pre
    rw [xg_75_0, xV_58, sz0 hT A3.1 A8, bI_s, if_neg (show ¬ nI (N + 1) ≤ nI i from nI_ge (by omega) (by omega)), xg_75_0, xV_58, j_is hT A3.1 A8, bI_s, i01] at pre
    unfold pSeq at h
    by_cases g : (E.1 z.1).1 = 125
    · rw [if_pos g] at h pre
      cases h
      exact Or.inl ⟨s, j, l, os', ez, pre, A, htd⟩
    · rw [if_neg g] at h pre
      rw [xg_75_0, xV_58, j_fine A3, bI_s, if_neg (by decide), xV_75] at pre
      cases hd : rd z.1 z.2.1 (kq + z.2.2.1.length) (i0 + z.2.2.2.1.length) with
      | inl e => rw [hd] at h; cases h
      | inr x =>
        rw [hd] at h
        dsimp only at h
        have zx := hlt _ _ _ _ _ hd
        obtain ⟨h1, pa, pb, pc, p1, p2, p3⟩ := pSeq_pre hlt k _ y h
        dsimp only at h1 p1 p2 p3
        have e1 : y.2.2.2.1 = r :: (os' ++ (x.2.2.2.1 ++ pb)) := by rw [p2, ez, List.append_assoc]; rfl
        have P1 := hP _ e1
        have P2 : PS E (i0 + 1 + os'.length) (cs + l.length) x.2.2.2.1 j := (P1.sub A1).prf
        rw [← htd, ez, List.length_cons, show i0 + (os'.length + 1) = i0 + 1 + os'.length by omega] at hd
        have K1 := (KT.app (KT.app (show KT E.2.2.2.1 kq ((z.2.2.1 ++ x.2.2.1) ++ pa) from p1 ▸ hK)).1).2
        have G1 : AG s0 x.2.2.2.2 := (AG.app (AG.app (show AG s0 ((z.2.2.2.2 ++ x.2.2.2.2) ++ pc) from p3 ▸ hA)).1).2
        have len1 : y.2.2.2.1.length = 1 + os'.length + x.2.2.2.1.length + pb.length := by rw [e1, List.length_cons, List.length_append, List.length_append]; omega
        have len2 : y.2.2.1.length = z.2.2.1.length + x.2.2.1.length + pa.length := by rw [p1, List.length_append, List.length_append]
        have G := h8 z.1 (kq + z.2.2.1.length) (i0 + 1 + os'.length) (cs + l.length) s j x A8 A2 (hR.oSt C.pq A6) (hVD.jk A9) A3 hd K1 (G1.oSt C.pq A6) P2 (by omega) (by omega) (by omega)
        rcases G with ⟨s2, j2, l2, g1, ⟨b1, b2', b3, b4, b5, b6, b7, b8, b9⟩, g3⟩ | ⟨s2, g1, g2, g3, g4⟩
        · rw [g1, bN_s, nI_1] at pre
          rw [pre]
          refine seqC h8 hlt C hR hVD hK hA hP hb hi0 hkq hkn k n (i + 1) _ s2 j2 (l ++ l2) (os' ++ x.2.2.2.1) h (by rw [ez]; rfl) (by omega) (by omega) ⟨?_, ?_, b3, (A4.keep b5).app b4, CP.trn A5 (b5.mono (by omega)), A6.tr b6, ?_, b8, A9.trn b9⟩ g3
          · rw [jrun_app, A1]
            dsimp only
            rw [b1]
          · rw [List.length_append, ← Nat.add_assoc]; exact b2'
          · rw [List.length_append]; omega
        · rw [g1, bN_s] at pre
          obtain ⟨n', rfl⟩ : ∃ n', n = n' + 1 := ⟨n - 1, by omega⟩
          obtain ⟨s3, w1, w2, w3⟩ := n_7l (d := d) g3 hkn n' (nI i + 1)
          rw [w1] at pre
          refine Or.inr ⟨s3, _, e1, pre, ?_, w2, A6.C.tr (g4.tr w3)⟩
          rw [jrun_app, A1]
          dsimp only
          rw [jrun_no g2]
end MJA42
