/-! ===== the reference's act: FIELDS ===== -/
section MJB37
variable {T : TT} {N b wm cm k n d i i0 o1 m c : Nat} {L : List CD} {t : PT} {E : EV} {r : Row} {j : JS} {H : HEAP} {f : FRM} {fs : List FRM} {st : List Int32} {sc : SCL} {s s' : mjSt3} {v w : Int32}
theorem bs_mono (T : TT) (L : List CD) (H : HEAP) : ∀ (a c : Nat), bsH T L H a + 2 * c ≤ bsH T L H (a + c)
  | a, 0 => Nat.le_refl _
  | a, c + 1 => by
    have := bs_mono T L H a c
    show bsH T L H a + 2 * (c + 1) ≤ bsH T L H (a + c) + (2 + nmL L (H.2 (a + c + 1)).1 + fldT T L (H.2 (a + c + 1)).1)
    omega
theorem bs_3 (hn : HN T N L) (H : HEAP) : ∀ (o : Nat), (∀ x, 1 ≤ x → x ≤ o → (H.2 x).1 < L.length) → 3 * o ≤ bsH T L H o
  | 0, _ => Nat.le_refl _
  | o + 1, h => by
    have a := bs_3 hn H o (fun x h1 h2 => h x h1 (by omega))
    have n1 := (vK.n5 hn (h (o + 1) (by omega) (Nat.le_refl _))).1
    show 3 * (o + 1) ≤ bsH T L H o + (2 + nmL L (H.2 (o + 1)).1 + fldT T L (H.2 (o + 1)).1)
    omega
/-- an OBJECT's WORDS stand below the end -/
theorem fr_lt (T : TT) (L : List CD) (H : HEAP) (a1 : 1 ≤ o1) (a2 : o1 ≤ H.1) : frO T L H o1 + nmL L (H.2 o1).1 + fldT T L (H.2 o1).1 + 2 * o1 ≤ bsH T L H H.1 := by
  have m := bs_mono T L H o1 (H.1 - o1)
  rw [show o1 + (H.1 - o1) = H.1 by omega] at m
  have g := bs_ge T L H (o1 - 1)
  have e : bsH T L H o1 = bsH T L H (o1 - 1) + szO T L (H.2 o1).1 := by
    have : o1 = (o1 - 1) + 1 := by omega
    rw [this]
    rfl
  unfold szO at e
  unfold frO
  omega
theorem num_lt2 (Ac : ACY T N L) (hc : c < L.length) (hm : m < nMem L) (ms : mSM L m = false) (v : (vwT (nmL L) (abT T L) c (hmM L m)).isSome = true) : numM T L m < fldT T L c := by
  have n := num_fld (T := T) hm ms
  have f := ofl_fld (T := T) (c := hmM L m) Ac.1
  obtain ⟨x, hx⟩ := (vw_iff Ac hc).mp v
  cases x with
  | zero =>
    have e : c = hmM L m := by
      have : some c = some (hmM L m) := hx
      exact Option.some.inj this
    rw [e]
    omega
  | succ x =>
    have := fld_anc Ac x c (hmM L m) hc hx
    omega
theorem x_fld (h : HPr T L b H s) (hN : ∀ c, c < L.length → s.1 104 (16 * b + c) = nI (nmL L c)) (hn : HN T N L) (hH : HOK T L H) (hw : bsH T L H H.1 ≤ 4000) (hb : b ≤ 1) (a1 : 1 ≤ o1) (a2 : o1 ≤ H.1) (hi : i < fldT T L (H.2 o1).1) : o1 < 1400 ∧ s.1 170 o1 = nI (frO T L H o1) ∧ s.1 169 o1 = nI (16 * b + (H.2 o1).1) ∧ (H.2 o1).1 < 16 ∧ s.1 104 (16 * b + (H.2 o1).1) = nI (nmL L (H.2 o1).1) ∧ frO T L H o1 + nmL L (H.2 o1).1 + i < 4000 ∧ s.1 168 (frO T L H o1 + nmL L (H.2 o1).1 + i) = (H.2 o1).2.2 i := by
  obtain ⟨h1, h2, h3, h4⟩ := h o1 a1 a2
  have cl := (hH o1 a1 a2).1
  have l16 := hn.1
  have b3 := bs_3 hn H H.1 (fun x x1 x2 => (hH x x1 x2).1)
  have fr := fr_lt T L H a1 a2
  exact ⟨by omega, h2, h1, by omega, hN _ cl, by omega, h4 i hi⟩
theorem ac_10 (M : MRn T t b wm cm (H, f :: fs, k, v :: st, sc) s) (W : RwJ E b i r j s) (o : r.1 = 10) (hl : st.length < 8000) (hN : ∀ c, c < t.1.length → s.1 104 (16 * b + c) = nI (nmL t.1 c)) (hn : HN T N t.1) (hH : HOK T t.1 H) (hw : bsH T t.1 H H.1 ≤ 4000) {x : Nat × Bool} {p : Nat × Nat} (hj : j.1.headD (0, false) = x ∧ ¬ j.1 = []) (hp : prtE E x r.2.2.2.2 false = some p) (hv : v = 0 ∨ ∃ o1, v = nI o1 ∧ 1 ≤ o1 ∧ o1 ≤ H.1 ∧ slotJ E r j < fldT T t.1 (H.2 o1).1) : gAct T t b wm cm (aStep T t.1 E j i0 wm cm r (H, f :: fs, k, v :: st, sc)) s (mjF (d + 2) 231 [.ref 97, .int (nI (5000 * b + i))] (mjW0 s)) := by
  have hi := W.2.1
  have hb := W.2.2
  have e145 : s.1 145 (5000 * b + i) = nI (slotJ E r j) := by
    rw [W.1.2.2.1]
    show nA E r j = _
    unfold nA slotJ
    rw [o, if_neg (by decide), if_pos (by decide)]
    cases hj1 : j.1 with
    | nil => exact absurd hj1 hj.2
    | cons y ys =>
      have ey : y = x := by
        have := hj.1
        rw [hj1] at this
        exact this
      dsimp only
      rw [ey, hp]
  obtain ⟨s1, a1, a2, a3⟩ := x_238 (d := d) M hl
  have rr : ∀ h, h = 104 ∨ h = 144 ∨ h = 145 → s1.1 h = s.1 h := fun h hh => funext fun y => a2.1 h y (by unfold chRn; omega)
  have pre : mjF (d + 2) 231 [.ref 97, .int (nI (5000 * b + i))] (mjW0 s) = (if v = 0 then gR (mjW0 s1) 97 12 55 (fun v48 => aI (mjW0 s1) v48 (nI (5000 * b + i)) (fun v49 => rV (mjW0 s1) 97 12 (bN (mjF (d + 1) 234 [.ref 97, .int (1 : Int32), .int v49] (mjW0 s1)) (fun hp50 => some (none, hp50))))) else gR (mjW0 s1) 97 12 108 (fun v37 => gR (mjW0 s1) 97 12 110 (fun v38 => aI (mjW0 s1) v38 v (fun v39 => gR (mjW0 s1) 97 12 15 (fun v40 => gR (mjW0 s1) 97 12 109 (fun v41 => aI (mjW0 s1) v41 v (fun v42 => aI (mjW0 s1) v40 v42 (fun v43 => gR (mjW0 s1) 97 12 56 (fun v44 => aI (mjW0 s1) v44 (nI (5000 * b + i)) (fun v45 => aI (mjW0 s1) v37 ((v39 + v43) + v45) (fun v46 => rV (mjW0 s1) 97 12 (bN (mjF (d + 1) 232 [.ref 97, .int v46] (mjW0 s1)) (fun hp47 => some (none, hp47)))))))))))))) := by
    rw [e_231]
    unfold f_231 b_231_0
    rw [xg_97_116, M.c16, xg_97_54, wa_143 (by omega), W.1.1, o, if_neg (by decide), if_neg (by decide), if_neg (by decide), if_neg (by decide), if_neg (by decide), if_neg (by decide), if_neg (by decide), if_neg (by decide), if_neg (by decide), if_pos rfl, xV_97, a1, bI_s]
  rw [as_10 o, pre]
  show gAct T t b wm cm (if v = 0 then aFail (H, f :: fs, k, v :: st, sc) 1 r.2.1 else (H, f :: fs, k, (H.2 (nN v)).2.2 (slotJ E r j) :: st, sc)) s _
  by_cases v0 : v = 0
  · rw [if_pos v0, if_pos v0, xg_97_55, wa_144 (by omega), rr 144 (by omega), W.1.2.1]
    obtain ⟨s3, p1, p2, p3⟩ := x_234 (d := d) a3 1 r.2.1
    exact ⟨s3, by rw [xV_97, p1, bN_s], offG.tr a2 p2, p3.fl⟩
  · rw [if_neg v0, if_neg v0]
    obtain ⟨o1, q1, q2, q3, q4⟩ := hv.resolve_left v0
    obtain ⟨f1, f2, f3, f4, f5, f6, f7⟩ := x_fld a3.2.1 (fun c hc => by rw [rr 104 (by omega)]; exact hN c hc) hn hH hw hb q2 q3 q4
    obtain ⟨s3, p1, p2, p3⟩ := x_232 (d := d) a3 hl ((H.2 o1).2.2 (slotJ E r j))
    refine ⟨s3, ?_, offG.tr a2 p2, by rw [q1, nN_nI (by omega)]; exact p3⟩
    rw [q1, xg_97_108, xg_97_110, wa_170 f1, f2, xg_97_15, xg_97_109, wa_169 f1, f3, wa_104 (by omega), f5, xg_97_56, wa_145 (by omega), rr 145 (by omega), e145, nI_add, nI_add, wa_168 f6, f7, xV_97, p1, bN_s]
end MJB37
