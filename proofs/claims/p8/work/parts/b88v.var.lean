/-! ===== VARIABLES that were not told are 0 ===== -/
section MJB88V
variable {T : TT} {N b kb q m i : Nat} {E : EV} {t : PT} {rs : List RcM} {z : PB} {tr : Bool} {cs : Nat → Nat} {H : HEAP} {f : FRM} {s : mjSt3}
theorem vtR_out : ∀ (a : List Row) (j : JS) (G : GS) (j' : JS) (l : List Ins), sdG a G → jrun E a j = some (j', l) → ∀ v, j.2.2.2.1 + n20 a ≤ v → vtR E a j v = 1
  | [], _, _, _, _, _, _, _, _ => rfl
  | r :: a, j, G, j', l, sc, h, v, hv => by
    obtain ⟨j1, l1, l2, h1, h2, h3⟩ := jcons2 h
    have t1 := (td_step sc.1 h1).1
    have hv' : j.2.2.2.1 + ((if r.1 = 20 then 1 else 0) + n20 a) ≤ v := hv
    show (match jrow E r j with
      | none => fun _ => 0
      | some (j', _) => fun v => if r.1 = 20 ∧ v = j.2.2.2.1 then j.2.2.2.2.2.1.2 else vtR E a j' v) v = 1
    rw [h1]
    dsimp only
    rw [if_neg (fun q => by
      rw [if_pos q.1] at hv'
      have := q.2
      omega)]
    exact vtR_out a j1 _ j' l2 sc.2 h2 v (by omega)
theorem IPG.vn2 (G : IPG T N b q t rs kb z tr cs s) (hm : m ≤ 384) (im : isMT t.1 m = true) : vnT t m = npT t.1 m + n20 (osM rs z m) ∧ ∃ j l, sdG (osM rs z m) [] ∧ jrun (EMx T t tr (800 * b) m) (osM rs z m) (jmT T t.1 m) = some (j, l) := by
  obtain ⟨R, hN⟩ := G.2.2.2.2.2.2
  have hb := G.1.1
  obtain ⟨Ac, PM, PB⟩ := G.2.1.1.1
  obtain ⟨⟨g1, g2, g3⟩, sw, j, l, hj⟩ := PB m hm im
  obtain ⟨⟨o, ho, k1⟩, k2, k3, k4, k5, ⟨k6, k6'⟩, k7, k8, k9⟩ := MBk_ex R (by omega) hN m hm im
  have n16 : npT t.1 m ≤ 16 := by
    unfold npT
    by_cases e : m = 384
    · rw [if_pos e]; omega
    · rw [if_neg e]
      have := (PM m (isMT_lt im e).1).2.1
      omega
  obtain ⟨_, _, w3⟩ := prS_gd 30 0 o _ _ _ _ _ (by omega) (by omega) n16 k1
  obtain ⟨lx', s1, s2⟩ := w3 (by omega) (i0T t m + (zT rs z m).2.2.2.1.length) 0
  have vr := (val_run (osM rs z m) _ _ [] s1 g1 rfl (Nat.zero_le _)).2.1
  refine ⟨?_, j, l, g1, hj⟩
  rw [← k2]
  have s3 := congrArg (fun x : WS => x.2.1) s2
  exact s3.symm.trans vr
theorem FOK.out (F : FOK T t rs z tr (800 * b) H f) (G : IPG T N b q t rs kb z tr cs s) : ∀ x, vnT t f.1 ≤ x → x < 16 → f.2.2.2.1 x = 0 := by
  intro x h1 h2
  obtain ⟨fm, im⟩ := F.mt G.2.1.1.2.1
  obtain ⟨e, j, l, sg, hj⟩ := G.vn2 fm im
  have h := F.2 x h2
  have e1 : vtX T t rs z tr (800 * b) f.1 x = 1 := by
    unfold vtX vtM
    rw [if_neg (by omega)]
    exact vtR_out _ _ [] j l sg hj x (by
      have : (jmT T t.1 f.1).2.2.2.1 = npT t.1 f.1 := rfl
      omega)
  rw [e1] at h
  exact h
theorem pair_variable2 (I : Inv i s) (a v : Int32) : PairOK (Inv (i + 1)) 215 345 [.int a, .int v] s := by
  have J : Inv (i + 1) s := I.mono (by omega)
  rcases I.frm a with ⟨hc, r344⟩ | ⟨T, N, b, q, t, rs, kb, z, tr, cs, wm, cm, A, k, f, G, R, F, f1, f2, ek, k40, a0, al, r344⟩
  · refine ⟨0, s, s, ?_, ?_, J⟩
    · rw [e_215 (d := 1998)]
      unfold f_215 b_215_0 b_215_20
      rw [xg_0_12, xg_82_1]
      by_cases h : a < 0
      · rw [if_pos h]
      · rw [if_neg h, xg_83_0, if_neg (hc.resolve_left h)]
    · rw [e_345 (d := 1998)]
      unfold f_345 b_345_0 b_345_18
      rw [xV_97, r344 1997, bI_s, if_pos rfl]
  · obtain ⟨c1, c2, c3, c4⟩ := FRc.nth _ _ _ R.2.2.2.1.2.2.1 f1
    obtain ⟨d1, d2, d3, d4⟩ := FRr.nth _ _ _ R.2.2.2.2.1.2.2.1 f1
    have e6 := G.1.2.2.2.1
    have hq : isP q := G.2.2.2.1.1.1
    obtain ⟨fm, im⟩ := F.mt G.2.1.1.2.1
    have hv := G.2.2.2.2.2.1 f.1 fm im
    have v16 := G.vn fm im
    have r344' := r344 1997
    have pc : mjF 1999 215 [.ref 0, .int a, .int v] (mjW0 s) = (f_215 (mjF 1998) 0 (nI k) v (mjW0 s)) := by rw [ek]; exact e_215 (d := 1998)
    have pr : mjF 1999 345 [.ref 97, .int a, .int v] (mjW0 s) = (f_345 (mjF 1998) 97 (nI k) v (mjW0 s)) := by rw [ek]; exact e_345 (d := 1998)
    rw [ek] at r344' a0 al
    unfold f_215 b_215_0 b_215_20 b_215_51 b_215_52 at pc
    rw [xg_0_12, xg_82_1, if_neg a0, xg_83_0, if_pos al] at pc
    unfold f_345 b_345_0 b_345_18 at pr
    rw [xV_97, r344', bI_s, if_neg (show ¬ ((1 : Int32) = 0) by decide)] at pr
    by_cases h1 : v < 0
    · refine ⟨0, s, s, ?_, ?_, J⟩
      · rw [pc, if_pos h1, if_pos rfl]
      · rw [pr, if_pos h1]
    rw [if_neg h1, xg_0_6, e6, yg_14 hq, ymg_8 hq, xg_83_2, wa_84 k40, c1, wya_22 hq (by omega), hv] at pc
    rw [if_neg h1] at pr
    obtain ⟨x, x31, ex⟩ := nI_of h1
    have F2 := F.out G
    by_cases h2 : v < 16
    · have xl : x < 16 := by
        rw [ex] at h2
        exact (nI_ltI (a := x) (b := 16) (by omega) (by omega)).mp h2
      have er : mjF 1999 345 [.ref 97, .int a, .int v] (mjW0 s) = some (some (.int (f.2.2.2.1 x)), mjW0 s) := by
        rw [pr, if_pos h2, xg_97_115, ex, show (16 : Int32) * nI k + nI x = nI (16 * k + x) by rw [show (16 : Int32) = nI 16 from rfl, nI_mul, nI_add], wa_175 (by omega), d4 x xl]
      by_cases h3 : nI (vnT t f.1) ≤ v
      · have xg : vnT t f.1 ≤ x := by
          rw [ex] at h3
          exact (nI_leI (by omega) (by omega)).mp h3
        refine ⟨0, s, s, ?_, ?_, J⟩
        · rw [pc, if_pos h3, if_pos rfl]
        · rw [er, F2 x xg xl]
      · refine ⟨f.2.2.2.1 x, s, s, ?_, er, J⟩
        rw [pc, if_neg h3, if_neg (show ¬ ((1 : Int32) = 0) by decide), xV_83, e_39 (d := 1997)]
        unfold f_39 b_39_0
        rw [xg_83_6, ex, show nI k * (16 : Int32) + nI x = nI (16 * k + x) by rw [show (16 : Int32) = nI 16 from rfl, nI_mul, nI_add, Nat.mul_comm], wa_88 (by omega), bI_s, c4 x xl]
    · have h3 : nI (vnT t f.1) ≤ v := by
        rw [ex] at h2 ⊢
        have := (nI_leI (a := 16) (b := x) (by omega) (by omega)).mp (Int32.not_lt.mp h2)
        exact (nI_leI (by omega) (by omega)).mpr (by omega)
      refine ⟨0, s, s, ?_, ?_, J⟩
      · rw [pc, if_pos h3, if_pos rfl]
      · rw [pr, if_neg h2]
end MJB88V
