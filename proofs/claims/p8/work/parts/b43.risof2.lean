/-! ===== the reference's RUN: as, all of it ===== -/
/-- what ownersNow goes by: the last CALL, a KIND of its BLOCK -/
def NWk (T : TT) (t : PT) (b : Nat) (H : HEAP) (f : FRM) (kx kk : Nat) (s : mjSt3) : Prop := ((f.1 = 384 ∧ f.2.1 = 0) ∨ (f.1 < nMem t.1 ∧ mSM t.1 f.1 = true ∧ 1 ≤ f.2.1 ∧ f.2.1 ≤ H.1 ∧ (vwT (nmL t.1) (abT T t.1) (H.2 f.2.1).1 (hmM t.1 f.1)).isSome = true)) ∧ (f.1 < nMem t.1 → s.1 124 (400 * b + f.1) = nI (16 * b + hmM t.1 f.1)) ∧ vK t.1 kk ∧ kx < 1600 ∧ s.1 138 kx = nI (nmL t.1 (cK kk)) ∧ (∀ x, x < nmL t.1 (cK kk) → s.1 142 (5 * kx + x) = oR (oK kk x)) ∧ s.1 139 kx = nI (16 * b + cK kk) ∧ (f.1 = 384 → ∀ x, x < nmL t.1 (cK kk) → oK kk x = 5) ∧ (f.1 < nMem t.1 → ∀ x, x < nmL t.1 (cK kk) → oK kk x < 5 → oK kk x < nmL t.1 (hmM t.1 f.1))
/-- what a RUN reads of the program's CLASSES -/
def PGn (T : TT) (t : PT) (b : Nat) (s : mjSt3) : Prop := (∀ c, c < t.1.length → s.1 104 (16 * b + c) = nI (nmL t.1 c)) ∧ ∀ x, x < t.1.length → ABr T t.1 b s x
section MJB43
variable {T : TT} {d N b k n m v u a o1 kx kk wm cm i i0 : Nat} {t : PT} {E : EV} {r : Row} {j : JS} {H : HEAP} {f : FRM} {fs : List FRM} {st : List Int32} {sc : SCL} {s s' : mjSt3} {w : Int32}
theorem seen_lt {L : List CD} (hH : HOK T L H) (a1 : 1 ≤ o1) (a2 : o1 ≤ H.1) (x : Nat) : seenO T L H o1 a x ≤ H.1 := by
  unfold seenO
  cases vwT (nmL L) (abT T L) (H.2 o1).1 a with
  | none => exact Nat.zero_le _
  | some v =>
    dsimp only
    by_cases q : oK v x < nmL L (H.2 o1).1
    · rw [if_pos q]
      have := (hH o1 a1 a2).2.1 (oK v x)
      omega
    · rw [if_neg q]; exact Nat.zero_le _
/-- isOf -/
theorem x_243 (Ac : ACY T N t.1) (hb : b ≤ 1) (M : MRn T t b wm cm (H, f :: fs, k, st, sc) s) (P : PGn T t b s) (hH : HOK T t.1 H) (hw : bsH T t.1 H H.1 ≤ 4000) (hfl : fs.length < 40) (m384 : nMem t.1 ≤ 384) (K : NWk T t b H f kx kk s) (hv : w = 0 ∨ ∃ o1, w = nI o1 ∧ 1 ≤ o1 ∧ o1 ≤ H.1) : ∃ s', mjF (d + 5) 243 [.ref 97, .int w, .int (nI kx)] (mjW0 s) = some (some (.int (b2 (asO T t.1 H f.1 f.2.1 w kk))), mjW0 s') ∧ oNw s s' := by
  have hmj := mjN_v
  have hn := Ac.1
  have l16 := hn.1
  obtain ⟨F, hC, vk, hk, h8, h2, h9, h5, hnm⟩ := K
  by_cases w0 : w = 0
  · refine ⟨s, ?_, offG.rf⟩
    have ea : asO T t.1 H f.1 f.2.1 w kk = true := by unfold asO; rw [decide_eq_true w0, Bool.true_or]
    rw [ea, e_243]
    unfold f_243 b_243_0
    rw [if_pos w0]
    rfl
  · obtain ⟨o1, e1, p1, p2⟩ := hv.resolve_left w0
    have self : f.2.1 ≤ H.1 := by
      rcases F with ⟨_, h⟩ | ⟨_, _, _, h, _⟩
      · omega
      · exact h
    obtain ⟨s1, a1, a2, a3⟩ := x_235 (d := d) Ac hb M P.1 P.2 hH hw hfl m384 F hC vk hk h8 h2 h5 hnm
    have r1 : ∀ h, ¬ (h = 97 ∨ h = 165 ∨ h = 166 ∨ h = 185) → s1.1 h = s.1 h := fun h hh => funext fun y => a2.1 h y (by omega)
    obtain ⟨h1, h2', h3, h4⟩ := M.2.1 o1 p1 p2
    have cl := (hH o1 p1 p2).1
    have n5c := (vK.n5 hn cl).2
    have n5 := (vK.n5 hn (vk.cl hn)).2
    have ck := vk.cl hn
    have b3 := bs_3 hn H H.1 (fun x x1 x2 => (hH x x1 x2).1)
    have fr := fr_lt T t.1 H p1 p2
    have w169 : s1.1 169 o1 = nI (16 * b + (H.2 o1).1) := by rw [r1 169 (by decide)]; exact h1
    obtain ⟨z, hz⟩ : ∃ z, z = uI s1 97 (upd (s1.1 97) 95 (nI (16 * b + (H.2 o1).1))) := ⟨_, rfl⟩
    have rz : ∀ h, ¬ h = 97 → z.1 h = s1.1 h := fun h e => by rw [hz]; exact uI_ne _ _ _ _ e
    have oz : oUp s1 z := by rw [hz]; exact offG.w (Or.inl ⟨rfl, rfl⟩)
    obtain ⟨s2, c1, c2, c3, c4⟩ := lq_243a (d := d + 2) (b := b) (tg := nI kx) hn hb l16 cl (by omega) (by omega) 5 0 mjN z (by omega) (by omega) (by rw [hz, uI_same, upd_g, if_pos rfl]) (by rw [rz 104 (by decide), r1 104 (by decide)]; exact P.1 _ cl) (by rw [rz 170 (by decide), r1 170 (by decide)]; exact h2') (fun x hx => by rw [rz 168 (by decide), r1 168 (by decide)]; exact h3 x hx) (fun x hx => by omega)
    have oc : cK (own (nmL t.1) (H.2 o1).1) = (H.2 o1).1 := own_ck hn cl
    have U1 : UPw t.1 b s2 (own (nmL t.1) (H.2 o1).1) (owQ t.1 H o1) := by
      refine ⟨by rw [c3, hz, uI_same, upd_g, if_pos rfl, oc], fun i hi => ?_⟩
      rw [oc] at hi
      rw [c4 i hi, show oK (own (nmL t.1) (H.2 o1).1) i = i from mkK_o n5c (fun j hj => by show j < 8; omega) hi]
      unfold owQ
      rw [if_pos hi]
    have A2 : ∀ x, x < t.1.length → ABr T t.1 b s2 x := fun x hx => c2.A (oz.A ((P.2 x hx).cg (r1 105 (by decide)) (r1 138 (by decide)) (r1 139 (by decide)) (r1 142 (by decide))))
    obtain ⟨s3, ww, y, d1, d2, d3, d4, d5, d6, d7⟩ := lq_243b (d := d + 2) (c0 := cK kk) Ac hb cl ck hk (fun x hx => by unfold owQ; rw [if_neg (by omega)]) 16 0 mjN _ s2 rfl (by omega) (by omega) U1 (by rw [c2.1 139 kx (by omega), rz 139 (by decide), r1 139 (by decide)]; exact h9) A2
    have o3 : oUp s1 s3 := oz.tr (c2.tr d2)
    have w138 : s3.1 138 kx = nI (nmL t.1 (cK kk)) := by rw [o3.1 138 kx (by omega), r1 138 (by decide)]; exact h8
    have w139 : s3.1 139 kx = nI (16 * b + cK kk) := by rw [o3.1 139 kx (by omega), r1 139 (by decide)]; exact h9
    have w185 : ∀ x, x < nmL t.1 (cK kk) → s3.1 185 x = nI (hereO T t.1 H f.1 f.2.1 (oK kk x)) := fun x hx => by rw [o3.1 185 x (by omega)]; exact a3 x hx
    have cw := (chn_v hn cl y ww d5).cl hn
    have y16 := up_end Ac cl (chn_c hn cl y ww d5)
    have pre : mjF (d + 5) 243 [.ref 97, .int w, .int (nI kx)] (mjW0 s) = b_243_102 (mjF (d + 4)) 97 (nI kx) (mjW0 s3) := by
      rw [e_243]
      unfold f_243 b_243_0
      rw [if_neg w0, xV_97, a1, bN_s, xg_97_109, e1, wa_169 (by omega), w169, xp_97_95, ← hz, show (0 : Int32) = nI 0 from rfl, c1]
      exact d1
    have nn : nN w = o1 := by rw [e1, nN_nI (by omega)]
    have as0 : asO T t.1 H f.1 f.2.1 w kk = ((vwT (nmL t.1) (abT T t.1) (H.2 o1).1 (cK kk)).isSome && allB (fun i => decide (seenO T t.1 H o1 (cK kk) i = hereO T t.1 H f.1 f.2.1 (oK kk i))) (nmL t.1 (cK kk))) := by
      unfold asO
      rw [decide_eq_false w0, Bool.false_or, nn]
    refine ⟨s3, ?_, offG.tr a2 o3.Nw⟩
    rw [pre]
    unfold b_243_102 b_243_120
    rw [xg_97_95, d3.1, xg_97_50, wa_139 hk, w139]
    by_cases ec : cK ww = cK kk
    · have vw : vwT (nmL t.1) (abT T t.1) (H.2 o1).1 (cK kk) = some ww := by
        have := vw_chn Ac cl d5 y16
        rw [ec] at this
        exact this
      obtain ⟨bb, g1, g2⟩ := lq_243c (s := s3) (g := fun i => decide (seenO T t.1 H o1 (cK kk) i = hereO T t.1 H f.1 f.2.1 (oK kk i))) (mjF (d + 4)) hk n5 (nmL t.1 (cK kk)) 0 mjN true (by omega) (by omega) w138 (fun x hx _ => by
        have e5 : s3.1 165 x = nI (seenO T t.1 H o1 (cK kk) x) := by
          rw [d3.2 x (by rw [ec]; exact hx)]
          unfold seenO owQ
          rw [vw]
        have b1 := seen_lt (a := cK kk) hH p1 p2 x
        have b2' := here_lt (m := f.1) (x := oK kk x) hH self
        rw [e5, w185 x hx, decide_eq_true_iff]
        exact nI_eq (by omega) (by omega))
      have eb : bb = asO T t.1 H f.1 f.2.1 w kk := by
        rw [as0, vw, Bool.eq_iff_iff, g2, Option.isSome_some, Bool.true_and, allB_iff]
        exact ⟨fun h x hx => h.2 x (Nat.zero_le _) hx, fun h => ⟨rfl, fun x _ hx => h x hx⟩⟩
      rw [ec, if_pos rfl, ← eb]
      exact g1
    · have vw : vwT (nmL t.1) (abT T t.1) (H.2 o1).1 (cK kk) = none := by
        cases hvw : vwT (nmL t.1) (abT T t.1) (H.2 o1).1 (cK kk) with
        | none => rfl
        | some w' =>
          obtain ⟨j', j1, j2, j3⟩ := vwk_at hvw
          exfalso
          by_cases l1 : j' < y
          · exact d7 j' (Nat.zero_le _) l1 w' j2 j3
          · by_cases l2 : j' = y
            · rw [l2, d5] at j2
              exact ec (by rw [Option.some.inj j2]; exact j3)
            · have z0 : chn (nmL t.1) (abT T t.1) (H.2 o1).1 (y + 1) = none := by
                show (match chn (nmL t.1) (abT T t.1) (H.2 o1).1 y with
                  | none => none
                  | some v => match abT T t.1 (cK v) with
                    | none => none
                    | some u => some (stand (nmL t.1) u v)) = none
                rw [d5]
                dsimp only
                rw [d6.resolve_left ec]
              have := chn_none (nmL t.1) (abT T t.1) z0 (j' - y - 1)
              rw [show y + 1 + (j' - y - 1) = j' by omega, j2] at this
              cases this
      obtain ⟨bb, g1, g2⟩ := lq_243c (s := s3) (g := fun _ => true) (mjF (d + 4)) hk n5 (nmL t.1 (cK kk)) 0 mjN false (by omega) (by omega) w138 (fun x hx h => by cases h)
      have eb : bb = asO T t.1 H f.1 f.2.1 w kk := by
        rw [as0, vw, Bool.eq_iff_iff, g2, Option.isSome_none, Bool.false_and]
        exact ⟨fun h => h.1, fun h => absurd h (by decide)⟩
      rw [if_neg (fun e => ec (by
        have := (nI_eq (by omega) (by omega)).mp e
        omega)), ← eb]
      exact g1
end MJB43
