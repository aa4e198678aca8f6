/-! ===== the reference: isLikeType, isLike ===== -/
section MJA81
variable {T : TT} {d N b k t c n m v u a o : Nat} {ks : List Nat} {L : List CD} {s s' : mjSt3} {ti to : Int32}
/-- a NAME in a KIND of CLASS c is one of c's -/
theorem kd_nm (hn : HN T N L) (hcl : c < L.length) {beh : Bool} (h : kdT T L (some c) beh t = some u) {i : Nat} (hi : i < nmL L (cK u)) (h5 : oK u i < 5) : oK u i < nmL L c := by
  unfold kdT at h
  cases hc : clsK T L (kyT T t) with
  | none => rw [hc] at h; cases h
  | some e =>
    rw [hc] at h
    dsimp only at h
    have he : e < L.length := fnd_lt hc
    have n5 := vK.n5 hn he
    by_cases g : cntO T 6 (t + 2) = (hC L e).2.1
    · rw [if_pos g] at h
      cases hf : fnd (fun i => decide (owT T L (some c) beh (t + 2 + 2 * i) = none)) (hC L e).2.1 with
      | some i => rw [hf] at h; cases h
      | none =>
        rw [hf] at h
        cases h
        have f8 : ∀ i, i < nmL L e → (owT T L (some c) beh (t + 2 + 2 * i)).getD 0 < 8 := by
          intro i hi
          cases ho : owT T L (some c) beh (t + 2 + 2 * i) with
          | none => show 0 < 8; omega
          | some x =>
            have := owT_le hn (fun c' e => by cases e; exact hcl) ho
            show x < 8
            omega
        have ec : cK (mkK e (hC L e).2.1 (fun i => (owT T L (some c) beh (t + 2 + 2 * i)).getD 0)) = e := mkK_c n5.2 f8
        rw [ec] at hi
        have eo : oK (mkK e (hC L e).2.1 (fun i => (owT T L (some c) beh (t + 2 + 2 * i)).getD 0)) i = (owT T L (some c) beh (t + 2 + 2 * i)).getD 0 := mkK_o n5.2 f8 hi
        rw [eo] at h5 ⊢
        have nn := of_decide_eq_false (fnd_none.mp hf i hi)
        cases ho : owT T L (some c) beh (t + 2 + 2 * i) with
        | none => exact absurd ho nn
        | some x =>
          rw [ho] at h5
          have h5' : x < 5 := h5
          unfold owT at ho
          by_cases g13 : (T (t + 2 + 2 * i)).1 = 13
          · rw [if_pos g13] at ho; cases ho; omega
          · rw [if_neg g13] at ho
            dsimp only at ho
            by_cases g12 : (T (t + 2 + 2 * i)).1 = 12
            · rw [if_pos g12] at ho
              by_cases gb : beh = true
              · rw [if_pos gb] at ho; cases ho
              · rw [if_neg gb] at ho; cases ho; omega
            · rw [if_neg g12] at ho
              exact fnd_lt ho
    · rw [if_neg g] at h; cases h
/-- a TYPE's NAMES are those of CLASS c -/
def tyN (L : List CD) (c ty : Nat) : Prop := ∀ kk, ty = kk + 2 → ∀ i, i < nmL L (cK kk) → oK kk i < 5 → oK kk i < nmL L c
theorem tyT_N (hn : HN T N L) (hcl : c < L.length) : tyN L c (tyT T L (some c) t) := by
  intro kk h i hi h5
  unfold tyT at h
  by_cases g : (T t).1 = 10
  · rw [if_pos g] at h; omega
  · rw [if_neg g] at h
    cases hk : kdT T L (some c) false t with
    | none => rw [hk] at h; exact absurd (show 0 = kk + 2 from h) (by omega)
    | some x =>
      rw [hk] at h
      have e : x = kk := by
        have : x + 2 = kk + 2 := h
        omega
      subst e
      exact kd_nm hn hcl hk hi h5
theorem vK.eq (hn : HN T N L) (h : vK L k) : k = mkK (cK k) (nmL L (cK k)) (fun i => oK k i) := by
  obtain ⟨e, f, h1, h2, h3⟩ := h
  have n5 := (vK.n5 hn h1).2
  have f8 : ∀ i, i < nmL L e → f i < 8 := fun i hi => by have := h3 i hi; omega
  have ec : cK k = e := by rw [h2]; exact mkK_c n5 f8
  rw [ec]
  conv => lhs; rw [h2]
  refine mkK_cg (fun i hi => ?_)
  rw [h2]
  exact (mkK_o n5 f8 hi).symm
theorem L320_S (R : mjR) (n a : Nat) (b e f g : Int32) (hp : mjH) : L_320_46 R (n + 1) a b e f g hp = b_320_46 R (L_320_46 R n) a b e f g hp := rfl
theorem lq_320 {ka kb ia ib : Nat} (hn : HN T N L) (hv : vK L v) (U : UPv L b s v) (va : vK L ka) (vb : vK L kb) (ha : ia < 1600) (hb' : ib < 1600) (ca : s.1 138 ia = nI (nmL L (cK ka))) (Ka : KRr b s ia (nmL L (cK ka)) ka) (Kb : KRr b s ib (nmL L (cK kb)) kb) (hnm : tyN L (cK v) (kb + 2)) : ∀ (r i n : Nat) (g : Bool), i + r = nmL L (cK ka) → r < n → (g = true → cK ka = cK kb) → L_320_46 (mjF (d + 1)) n 97 (nI ia) (nI ib) (b2 g) (nI i) (mjW0 s) = some (some (.int (b2 (g && allR (fun i => decide (oK ka i = if oK kb i < 5 then oK v (oK kb i) else oK kb i)) i r))), mjW0 s)
  | r, i, 0, g, e, hr, hg => by omega
  | 0, i, n + 1, g, e, hr, hg => by
    have n5 := (vK.n5 hn (va.cl hn)).2
    rw [L320_S]
    unfold b_320_46 b_320_102
    rw [xg_97_49, wa_138 ha, ca, if_pos (nI_le (by omega) (by omega)), if_pos (b2_nar _)]
    show _ = some (some (Value.int (b2 (g && true))), mjW0 s)
    rw [Bool.and_true]
  | r + 1, i, n + 1, g, e, hr, hg => by
    have n5 := (vK.n5 hn (va.cl hn)).2
    rw [L320_S]
    unfold b_320_46 b_320_102 b_320_95
    rw [xg_97_49, wa_138 ha, ca, if_neg (nI_ge (by omega) (by omega))]
    cases g with
    | false =>
      rw [if_pos (show b2 false = 0 from rfl), if_pos (b2_nar _)]
      rfl
    | true =>
      have ec := hg rfl
      have hi : i < nmL L (cK kb) := by rw [← ec]; omega
      have ao := va.ow hn i (by omega)
      have bo := vb.ow hn i (by omega)
      have vo := hv.ow hn
      have ro : (if oK kb i < 5 then oK v (oK kb i) else oK kb i) ≤ 6 := by
        by_cases g5 : oK kb i < 5
        · rw [if_pos g5]; exact vo _ g5
        · rw [if_neg g5]; exact bo
      rw [if_neg (show ¬ b2 true = 0 by decide), xg_97_53, i5m, wa_142 (by omega), Ka.2 i (by omega), xg_97_53, i5m, wa_142 (by omega), Kb.2 i hi, xV_97, x_318 hv hn U bo (hnm kb rfl i hi), bI_s, nI_1, Bool.true_and]
      show _ = some (some (Value.int (b2 (decide (oK ka i = if oK kb i < 5 then oK v (oK kb i) else oK kb i) && allR _ (i + 1) r))), mjW0 s)
      by_cases q : oK ka i = if oK kb i < 5 then oK v (oK kb i) else oK kb i
      · rw [if_pos ((oR_inj ao ro).mpr q), decide_eq_true q, Bool.true_and]
        have := lq_320 hn hv U va vb ha hb' ca Ka Kb hnm r (i + 1) n true (by omega) (by omega) (fun _ => ec)
        rw [Bool.true_and] at this
        exact this
      · rw [if_neg (fun x => q ((oR_inj ao ro).mp x)), decide_eq_false q, Bool.false_and]
        have := lq_320 hn hv U va vb ha hb' ca Ka Kb hnm r (i + 1) n false (by omega) (by omega) (fun e => by cases e)
        rw [Bool.false_and] at this
        exact this
/-- isLikeType: TYPE ta is tb seen with the OWNERS v -/
theorem x_320 {ta tb : Nat} (hb : b ≤ 1) (h16 : L.length ≤ 16) (hn : HN T N L) (hv : vK L v) (U : UPv L b s v) (Ka : TKr L b s ti ta) (Kb : TKr L b s to tb) (hnm : tyN L (cK v) tb) : mjF (d + 2) 320 [.ref 97, .int ti, .int to] (mjW0 s) = some (some (.int (b2 (decide (ta = sty (nmL L) tb v)))), mjW0 s) := by
  rw [e_320]
  unfold f_320 b_320_0 b_320_8 b_320_20 b_320_42
  match ta, tb, Ka, Kb, hnm with
  | 0, 0, Ka, Kb, hnm =>
    have e1 : ti = -1 := Ka
    have e2 : to = -1 := Kb
    rw [e1, e2]
    rfl
  | 0, kb + 2, Ka, ⟨vb, ib, b1, b2, b3, b4⟩, hnm =>
    have e1 : ti = -1 := Ka
    rw [e1, b2, if_pos (by decide), if_neg (by decide), if_pos (nI_pos' (by omega))]
    rw [decide_eq_false (show ¬ 0 = sty (nmL L) (kb + 2) v from fun e => by
      have e' : 0 = stand (nmL L) kb v + 2 := e
      omega)]
    rfl
  | ka + 2, 0, ⟨va, ia, a1, a2, a3, a4⟩, Kb, hnm =>
    have e2 : to = -1 := Kb
    rw [e2, a2, if_neg (nI_pos (by omega)), if_neg (by decide), if_pos (nI_pos' (by omega))]
    rw [decide_eq_false (show ¬ ka + 2 = sty (nmL L) 0 v from fun e => by
      have e' : ka + 2 = 0 := e
      omega)]
    rfl
  | ka + 2, kb + 2, ⟨va, ia, a1, a2, a3, a4⟩, ⟨vb, ib, b1, b2', b3, b4⟩, hnm =>
    have cal := va.cl hn
    have cbl := vb.cl hn
    have n5 := (vK.n5 hn cal).2
    have nb5 := (vK.n5 hn cbl).2
    rw [a2, b2', if_neg (nI_pos (by omega)), if_pos (nI_pos' (by omega)), xg_97_50, wa_139 a1, a4.1, xg_97_50, wa_139 b1, b4.1]
    have eqv : (ka + 2 = sty (nmL L) (kb + 2) v) ↔ cK ka = cK kb ∧ ∀ i, i < nmL L (cK ka) → oK ka i = if oK kb i < 5 then oK v (oK kb i) else oK kb i := by
      have e1 : (ka + 2 = sty (nmL L) (kb + 2) v) ↔ ka = stand (nmL L) kb v := by
        show ka + 2 = stand (nmL L) kb v + 2 ↔ _
        omega
      rw [e1]
      constructor
      · intro e
        have c1 : cK ka = cK kb := by rw [e]; exact stand_c hn vb
        refine ⟨c1, fun i hi => ?_⟩
        rw [c1] at hi
        rw [e]
        exact stand_o hn vb hi
      · intro ⟨c1, h⟩
        rw [va.eq hn, c1]
        unfold stand
        refine mkK_cg (fun i hi => ?_)
        rw [← c1] at hi
        exact h i hi
    by_cases q : cK ka = cK kb
    · rw [if_pos (by rw [q]), show (1 : Int32) = b2 true from rfl, show (0 : Int32) = nI 0 from rfl, lq_320 (d := d) hn hv U va vb a1 b1 a3 a4 b4 hnm (nmL L (cK ka)) 0 mjN true (by omega) (by have := mjN_v; omega) (fun _ => q), Bool.true_and]
      have : allR (fun i => decide (oK ka i = if oK kb i < 5 then oK v (oK kb i) else oK kb i)) 0 (nmL L (cK ka)) = decide (ka + 2 = sty (nmL L) (kb + 2) v) := by
        rw [Bool.eq_iff_iff, allR_iff, decide_eq_true_iff, eqv]
        exact ⟨fun x => ⟨q, fun i hi => of_decide_eq_true (x i (Nat.zero_le _) (by omega))⟩, fun x i _ hi => decide_eq_true (x.2 i (by omega))⟩
      rw [this]
    · rw [if_neg (fun x => q (by have := (nI_eq (by omega) (by omega)).mp x; omega)), show (0 : Int32) = nI 0 from rfl]
      have := lq_320 (d := d) hn hv U va vb a1 b1 a3 a4 b4 hnm (nmL L (cK ka)) 0 mjN false (by omega) (by have := mjN_v; omega) (fun e => by cases e)
      rw [Bool.false_and] at this
      rw [show L_320_46 (mjF (d + 1)) mjN 97 (nI ia) (nI ib) (nI 0) (nI 0) (mjW0 s) = _ from this, decide_eq_false (fun x => q (eqv.mp x).1)]
theorem L319_S (R : mjR) (n a : Nat) (b e f g : Int32) (hp : mjH) : L_319_43 R (n + 1) a b e f g hp = b_319_43 R (L_319_43 R n) a b e f g hp := rfl
theorem py_N (hn : HN T N L) (hm : hmM L m < L.length) {i : Nat} : tyN L (hmM L m) (pyT T L m i) := by
  unfold pyT
  cases h : (psM L m)[i]? with
  | none => intro kk h; exact absurd (show 0 = kk + 2 from h) (by omega)
  | some p => exact tyT_N hn hm
theorem lq_319 (J : RJ T N b ks L s) (hv : vK L v) (U : UPv L b s v) (hm : m < nMem L) (ho : o < nMem L) (Km : TMr T L b s m) (Ko : TMr T L b s o) (hvo : cK v = hmM L o) : ∀ (r i n : Nat) (g : Bool), i + r = (psM L m).length → r < n → (g = true → (psM L m).length = (psM L o).length) → L_319_43 (mjF (d + 2)) n 97 (nI (400 * b + m)) (nI (400 * b + o)) (b2 g) (nI i) (mjW0 s) = some (some (.int (b2 (g && allR (fun i => decide (pyT T L m i = sty (nmL L) (pyT T L o i) v)) i r))), mjW0 s)
  | r, i, 0, g, e, hr, hg => by omega
  | 0, i, n + 1, g, e, hr, hg => by
    have hb := J.b1
    have m384 := J.n384
    have p6 := J.p6 hm
    rw [L319_S]
    unfold b_319_43 b_319_93
    rw [xg_97_39, wa_128 (by omega), p6.1, if_pos (nI_le (by omega) (by omega)), if_pos (b2_nar _)]
    show _ = some (some (Value.int (b2 (g && true))), mjW0 s)
    rw [Bool.and_true]
  | r + 1, i, n + 1, g, e, hr, hg => by
    have hb := J.b1
    have h16 := J.len
    have hn := J.2.2.2.2.2.1
    have m384 := J.n384
    have p6 := J.p6 hm
    rw [L319_S]
    unfold b_319_43 b_319_93
    rw [xg_97_39, wa_128 (by omega), p6.1, if_neg (nI_ge (by omega) (by omega))]
    cases g with
    | false =>
      rw [if_pos (show b2 false = 0 from rfl), if_pos (b2_nar _)]
      rfl
    | true =>
      have el := hg rfl
      have hol := (J.mem ho).2
      rw [if_neg (show ¬ b2 true = 0 by decide), xg_97_44, i6m, wa_133 (by omega), xg_97_44, i6m, wa_133 (by omega), xV_97, x_320 (d := d) hb h16 hn hv U (Km.2 i (by omega)) (Ko.2 i (by omega)) (by rw [hvo]; exact py_N hn hol), bI_s, nI_1, Bool.true_and]
      exact lq_319 J hv U hm ho Km Ko hvo r (i + 1) n _ (by omega) (by omega) (fun _ => el)
theorem samV_iff : samV T L m o v ↔ tyM T L m = sty (nmL L) (tyM T L o) v ∧ (psM L m).length = (psM L o).length ∧ ∀ i, i < (psM L m).length → pyT T L m i = sty (nmL L) (pyT T L o i) v := Iff.rfl
/-- isLike -/
theorem x_319 (J : RJ T N b ks L s) (hv : vK L v) (U : UPv L b s v) (hm : m < nMem L) (ho : o < nMem L) (Km : TMr T L b s m) (Ko : TMr T L b s o) (hvo : cK v = hmM L o) : ∃ r : Bool, mjF (d + 3) 319 [.ref 97, .int (nI (400 * b + m)), .int (nI (400 * b + o))] (mjW0 s) = some (some (.int (b2 r)), mjW0 s) ∧ (r = true ↔ samV T L m o v) := by
  have hb := J.b1
  have h16 := J.len
  have hn := J.2.2.2.2.2.1
  have m384 := J.n384
  have pm := J.p6 hm
  have po := J.p6 ho
  have hol := (J.mem ho).2
  have run : ∀ g : Bool, (g = true → (psM L m).length = (psM L o).length) → L_319_43 (mjF (d + 2)) mjN 97 (nI (400 * b + m)) (nI (400 * b + o)) (b2 g) (nI 0) (mjW0 s) = _ := fun g hg => lq_319 (d := d) J hv U hm ho Km Ko hvo (psM L m).length 0 mjN g (by omega) (by have := mjN_v; omega) hg
  by_cases q : (psM L m).length = (psM L o).length
  · refine ⟨decide (tyM T L m = sty (nmL L) (tyM T L o) v) && allR (fun i => decide (pyT T L m i = sty (nmL L) (pyT T L o i) v)) 0 (psM L m).length, ?_, ?_⟩
    · rw [e_319]
      unfold f_319 b_319_0 b_319_38 b_319_39
      rw [xg_97_39, wa_128 (by omega), pm.1, xg_97_39, wa_128 (by omega), po.1, if_pos (by rw [q]), xg_97_37, wa_126 (by omega), xg_97_37, wa_126 (by omega), xV_97, x_320 (d := d) hb h16 hn hv U Km.1 Ko.1 (by rw [hvo]; exact tyT_N hn hol), bI_s, ← run _ (fun _ => q)]
      cases decide (tyM T L m = sty (nmL L) (tyM T L o) v) with
      | false => rw [if_pos (show b2 false = 0 from rfl)]; rfl
      | true => rw [if_neg (show ¬ b2 true = 0 by decide)]; rfl
    · rw [Bool.and_eq_true, decide_eq_true_iff, allR_iff]
      exact ⟨fun x => ⟨x.1, q, fun i hi => of_decide_eq_true (x.2 i (Nat.zero_le _) (by omega))⟩, fun x => ⟨x.1, fun i _ hi => decide_eq_true (x.2.2 i (by omega))⟩⟩
  · refine ⟨false, ?_, ⟨fun x => (by cases x), fun x => absurd x.2.1 q⟩⟩
    have e := run false (fun e => by cases e)
    rw [Bool.false_and] at e
    rw [e_319]
    unfold f_319 b_319_0 b_319_38 b_319_39
    rw [xg_97_39, wa_128 (by omega), pm.1, xg_97_39, wa_128 (by omega), po.1, if_neg (fun x => q ((nI_eq (by omega) (by omega)).mp x))]
    exact e
end MJA81
