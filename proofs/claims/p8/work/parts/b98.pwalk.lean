/-! ===== way, above, leaks, leak, past, on both ===== -/
section MJB98
variable {T : TT} {d N b kb q i o c m n wm cm k k' : Nat} {t : PT} {L : List CD} {rs : List RcM} {z : PB} {tr : Bool} {cs : Nat → Nat} {H : HEAP} {A : AMS} {Q : WQ} {s s' s1 s2 : mjSt3} {a v : Int32} {e e' : Nat × Nat × Nat × Nat}
theorem WOK.one (hQ : WOK H Q) (h1 : Q[k]? = some e) (h2 : Q[k']? = some e') (he : e.1 = e'.1) : e = e' := by
  have nd := hQ.1
  have l1 := (List.getElem?_eq_some_iff.mp h1).1
  have l2 := (List.getElem?_eq_some_iff.mp h2).1
  have m1 : (Q.map (fun e => e.1))[k]? = some e.1 := by rw [List.getElem?_map, h1]; rfl
  have m2 : (Q.map (fun e => e.1))[k']? = some e'.1 := by rw [List.getElem?_map, h2]; rfl
  have ek : k = k' := by
    exact (List.getElem?_inj (by rw [List.length_map]; exact l1) nd).mp (by rw [m1, m2, he])
  rw [ek, h2] at h1
  exact (Option.some.inj h1).symm
theorem walkO_ok (P : HWp T L b H) (o1 : 1 ≤ o) (o2 : o ≤ H.1) : WOK H (walkO T L H o) := (cls_go (Nat.zero_le _) P (H.1 + 1) 0 [(o, 0, 0, 0)] (by omega) (WOK.nil.come (Q := []) (fo := 0) (fi := 0) (d := 0) o1 o2 (Or.inl ⟨rfl, rfl⟩)) (fun j y hj _ => absurd hj (Nat.not_lt_zero j))).2.1
theorem IRN.hwp (G : IPG T N b q t rs kb z tr cs s) (R : IRN i T b q t rs z tr cs wm cm A s) : HWp T t.1 b A.1 := by
  have hn := G.2.1.1.1.1.1
  exact ⟨R.2.2.1.1.1, R.hb G, G.1.1, hn.1, fun c hc => vK.n5 hn hc, G.2.1.2.2.1⟩
theorem IRN.hwr (G : IPG T N b q t rs kb z tr cs s) (R : IRN i T b q t rs z tr cs wm cm A s) : HWr T t.1 b A.1 s := by
  obtain ⟨_, rf, _, _, r184⟩ := G.ref
  have PGs := G.2.2.2.1
  have g13 := PGs.2.2.2.2.1
  have g16 := PGs.2.2.2.2.2.2.1
  have Ac := G.2.1.1.1.1
  have hh : ∀ m, m < nMem t.1 → hmM t.1 m < t.1.length := fun m hm => (g16 m hm).2.1
  refine ⟨R.2.2.2.2.1.2.1, R.2.2.2.2.1.1.2.2.1.2.1, fun c hc => ⟨(rf c hc).1, (rf c hc).2.2.2.1⟩, fun c hc i hi => ?_⟩
  obtain ⟨m, m1, m2, m3, m4⟩ := fld_ex Ac (fun c hc => (g13 c hc).2.2.2.2.2) hc hi
  rw [← m4, r184 c hc m m1 m2 m3, ob_at Ac hh hc m1 m2 m3]
theorem IRN.hwc (G : IPG T N b q t rs kb z tr cs s) (R : IRN i T b q t rs z tr cs wm cm A s) : HWc T t.1 q A.1 s := by
  have PGs := G.2.2.2.1
  exact ⟨R.2.2.2.1.2.1, R.2.2.2.1.1.2.2.1.2.1, R.2.2.2.2.2.1.2.2, fun _ => ⟨PGs.1.1, PGs.2.2.1.1, PGs.2.2.2.1.2⟩⟩
theorem HWr.lo (h : HWr T L b H s) (e : ∀ h, 97 ≤ h → s'.1 h = s.1 h) : HWr T L b H s' := by
  obtain ⟨h1, h2, h3, h4⟩ := h
  exact ⟨h1.keep (fun x hx => e x (by omega)), by rw [e 97 (by omega)]; exact h2, fun c hc => by rw [e 104 (by omega), e 109 (by omega)]; exact h3 c hc, fun c hc i hi => by rw [e 184 (by omega)]; exact h4 c hc i hi⟩
/-- no OBJECTS -/
theorem IZ.hwc (h : IZ s) : ∃ (T : TT) (H : HEAP), HWc T [] (s.2.2 91 1) H s ∧ HWp T [] 0 H ∧ H.1 = 0 := by
  refine ⟨fun _ => (0, 0, 0, 0), (0, fun _ => (0, fun _ => 0, fun _ => 0)), ⟨fun o o1 o2 => ?_, h.2.2.1.1, rfl, fun x => ?_⟩, ⟨fun o o1 o2 => ?_, ⟨Nat.zero_le _, Nat.le_refl _⟩, Nat.zero_le _, Nat.zero_le _, fun c hc => absurd hc (Nat.not_lt_zero c), fun c => Nat.zero_le _⟩, rfl⟩
  · have o2' : o ≤ 0 := o2
    omega
  · have x' : 1 ≤ 0 := x
    omega
  · have o2' : o ≤ 0 := o2
    omega
/-- behind the class's walker and the reference's -/
theorem Inv.wkR (hB : IBs s) (G : IPG T N b q t rs kb z tr cs s) (R : IRN i T b q t rs z tr cs wm cm A s) (o1 : oWc s s1) (K1 : KNc A.1.1 s1) (o2 : oWl s1 s2) (K2 : KNm T t.1 A.1 s2) : Inv (i + 1) s2 := by
  have hq := G.isq
  have f1 : ∀ h, ¬ (91 ≤ h ∧ h ≤ 96) → s1.1 h = s.1 h := fun h e => funext fun j => o1.1 h j e
  have f2 : ∀ h, h < 97 ∨ h = 98 ∨ (99 ≤ h ∧ h ≤ 176) ∨ h = 184 → s2.1 h = s1.1 h := fun h e => funext fun j => o2.1 h j (by omega)
  have u2 : ∀ j, ¬ (j = 124 ∨ j = 126 ∨ j = 127) → s2.1 97 j = s1.1 97 j := fun j e => o2.1 97 j (by omega)
  have l2 : s2.2 = s.2 := (Prod.ext (funext fun h => funext fun j => o2.2.1 h j (fun x => x)) o2.2.2).trans (Prod.ext (funext fun h => funext fun j => o1.2.1 h j (fun x => x)) o1.2.2)
  have g : ∀ h, ¬ (91 ≤ h ∧ h ≤ 96) → (h < 97 ∨ h = 98 ∨ (99 ≤ h ∧ h ≤ 176) ∨ h = 184) → s2.1 h = s.1 h := fun h e e' => by rw [f2 h e', f1 h e]
  have u : ∀ j, ¬ (j = 124 ∨ j = 126 ∨ j = 127) → s2.1 97 j = s.1 97 j := fun j e => by rw [u2 j e, f1 97 (by omega)]
  obtain ⟨w4, ⟨p1, p2, p3, p4⟩, k1, M, Mr, x1, _, _⟩ := R
  refine ⟨hB.keep (by rw [g 0 (by omega) (by omega)]) (g 1 (by omega) (by omega)) ⟨u 1 (by omega), u 9 (by omega)⟩ (g 98 (by omega) (by omega)) ⟨by rw [l2], by rw [l2]⟩ (by rw [l2]) (by rw [l2]; exact hB.2.2.2.2.2), Or.inr ⟨T, N, b, q, t, rs, kb, z, tr, cs, G.keep ⟨u 9 (by omega), u 10 (by omega)⟩ ⟨by rw [l2], by rw [g 0 (by omega) (by omega)]⟩ (fun J => J.keep (fun x y w => by have := inB_nr w; rw [g x (by omega) (by omega)]) (fun x y _ => by rw [l2])) (fun x hx => g x (by omega) (by omega)) (fun x _ => by rw [l2]), Or.inr ⟨wm, cm, A, w4, ⟨p1, p2, p3, by omega⟩, k1, M.hi (fun h e => g h (by omega) (by omega)), (Mr.lo (fun h e => f1 h (by omega))).wk u2 (fun h e => f2 h (by omega)), by rw [l2]; exact x1, K1.keep (fun h e => f2 h (by omega)), K2⟩⟩⟩
theorem Inv.wkZ (I : Inv i s) (hz : IZ s) (o1 : oWc s s1) (K1 : KNc 0 s1) : Inv (i + 1) s1 := by
  have f1 : ∀ h, ¬ (91 ≤ h ∧ h ≤ 96) → s1.1 h = s.1 h := fun h e => funext fun j => o1.1 h j e
  have l1 : s1.2 = s.2 := Prod.ext (funext fun h => funext fun j => o1.2.1 h j (fun x => x)) o1.2.2
  have hz1 : IZ s1 := by
    obtain ⟨a1, a2, a3, a4, _⟩ := hz
    exact ⟨by rw [f1 97 (by omega), f1 82 (by omega)]; exact a1, by rw [f1 82 (by omega)]; exact a2, by rw [f1 79 (by omega)]; exact a3, by rw [f1 83 (by omega)]; exact a4, K1⟩
  have hB : IBs s1 := I.1.keep (by rw [f1 0 (by omega)]) (f1 1 (by omega)) ⟨by rw [f1 97 (by omega)], by rw [f1 97 (by omega)]⟩ (f1 98 (by omega)) ⟨by rw [l1], by rw [l1]⟩ (by rw [l1]) (by rw [l1]; exact I.1.2.2.2.2.2)
  refine ⟨hB, ?_⟩
  rcases I.2 with ⟨b1, b2', _⟩ | ⟨T, N, b, q, t, rs, kb, z, tr, cs, G, _⟩
  · exact Or.inl ⟨by rw [f1 0 (by omega)]; exact b1, by rw [f1 97 (by omega)]; exact b2', hz1⟩
  · have hq := G.isq
    exact Or.inr ⟨T, N, b, q, t, rs, kb, z, tr, cs, G.keep ⟨by rw [f1 97 (by omega)], by rw [f1 97 (by omega)]⟩ ⟨by rw [l1], by rw [f1 0 (by omega)]⟩ (fun J => J.lo (fun h e => f1 h (by omega)) (fun h _ => by rw [l1])) (fun x hx => f1 x (by omega)) (fun x _ => by rw [l1]), Or.inl hz1⟩
theorem oWs.kn (o : oWs s s') (K : KNc n s) : KNc n s' := by
  unfold KNc
  rw [o.1 91 5 (by omega), o.1 91 9 (by omega), show s'.1 94 = s.1 94 from funext fun j => o.1 94 j (by omega)]
  exact K
theorem h246_wl (G : IPG T N b q t rs kb z tr cs s) (R : IRN i T b q t rs z tr cs wm cm A s) (e : ∀ h, 97 ≤ h → s1.1 h = s.1 h) : ∀ (d x : Nat) (s' : mjSt3), 1 ≤ x → x ≤ A.1.1 → oWl s1 s' → mjF (d + 1) 246 [.ref 97, .int (nI x)] (mjW0 s') = some (some (.int 1), mjW0 s') := by
  intro d x s' x1 x2 o
  have B := R.hb G
  have b1 := B.1
  have b2' := B.2
  have r103 : s'.1 97 103 = nI A.1.1 := by rw [o.1 97 103 (by omega), e 97 (by omega)]; exact R.2.2.2.2.1.1.2.2.1.2.1
  have r96 : s'.1 97 96 = nI A.2.2.2.2.2.2.2.2.1 := by rw [o.1 97 96 (by omega), e 97 (by omega)]; exact R.2.2.2.2.1.1.1.1
  have p1 := R.2.1.1
  have p3 := R.2.1.2.1
  rw [x_246g, r103, r96, if_neg]
  rintro (h | h | h)
  · exact nI_nle (by omega) (by omega) h
  · exact nI_nlt (b := 1) x1 (by omega) h
  · exact nI_nlt x2 (by omega) h
theorem pair_way (I : Inv i s) (a v : Int32) : PairOK (Inv (i + 1)) 220 245 [.int a, .int v] s := by
  have J : Inv (i + 1) s := I.mono (by omega)
  rcases I.obj a with ⟨c43, r246⟩ | ⟨T, N, b, q, t, rs, kb, z, tr, cs, wm, cm, A, o, G, R, B, eo, o1, o2, c43, r246⟩
  · refine ⟨-1, s, s, ?_, ?_, J⟩
    · rw [e_220 (d := 1998)]
      unfold f_220 b_220_0 b_220_34
      rw [xg_0_11, xV_79, c43 1997, bI_s, if_pos rfl]
    · rw [e_245 (d := 1998)]
      unfold f_245 b_245_0 b_245_16
      rw [xV_97, r246 1997, bI_s, if_pos rfl]
  · rcases R.obj G v with ⟨d43, d246⟩ | ⟨c, ec, hc1, hc2, d43, d246⟩
    · refine ⟨-1, s, s, ?_, ?_, J⟩
      · rw [e_220 (d := 1998)]
        unfold f_220 b_220_0 b_220_34
        rw [xg_0_11, xV_79, c43 1997, bI_s, if_neg (show ¬ ((1 : Int32) = 0) by decide), xg_0_11, xV_79, d43 1997, bI_s, if_pos rfl]
      · rw [e_245 (d := 1998)]
        unfold f_245 b_245_0 b_245_16
        rw [xV_97, r246 1997, bI_s, if_neg (show ¬ ((1 : Int32) = 0) by decide), xV_97, d246 1997, bI_s, if_pos rfl]
    · have P := R.hwp G
      obtain ⟨s1, w1, x1, x2, x3⟩ := x_185 (d := 1993) (c := c) P (R.hwc G) o1 o2 hc2
      have f1 : ∀ h, 97 ≤ h → s1.1 h = s.1 h := fun h e => funext fun j => x2.1 h j (by omega)
      obtain ⟨s2, w2, y1, y2, y3, y4, y5, y6⟩ := x_245 (d := 1996) P ((R.hwr G).lo f1) o1 o2 hc1 hc2 (h246_wl G R f1)
      have ew : w1 = w2 := by
        have hok := walkO_ok (T := T) (L := t.1) P o1 o2
        rcases x3 with ⟨x4, x5⟩ | ⟨k1, e1, x4, x5, x6⟩
        · rcases y6 with ⟨y7, y8⟩ | ⟨k2, e2, y7, y8, y9⟩
          · rw [x4, y7]
          · exact absurd ⟨e2, List.mem_of_getElem? y7, y8⟩ x5
        · rcases y6 with ⟨y7, y8⟩ | ⟨k2, e2, y7, y8, y9⟩
          · exact absurd ⟨e1, List.mem_of_getElem? x4, x5⟩ y8
          · rw [x6, y9, hok.one x4 y7 (by rw [x5, y8])]
      have K2 : KNm T t.1 A.1 s2 := (R.2.2.2.2.2.2.2).gen ⟨by rw [y3, f1 97 (by omega)], by rw [y4, f1 97 (by omega)]⟩ (by rw [y5, f1 181 (by omega)])
      refine ⟨w1, s1, s2, ?_, ?_, Inv.wkR I.1 G R x2.toC (x2.kn R.2.2.2.2.2.2.1) y2 K2⟩
      · rw [e_220 (d := 1998)]
        unfold f_220 b_220_0 b_220_34
        rw [xg_0_11, xV_79, c43 1997, bI_s, if_neg (show ¬ ((1 : Int32) = 0) by decide), xg_0_11, xV_79, d43 1997, bI_s, if_neg (show ¬ ((1 : Int32) = 0) by decide), xg_0_13, xV_91, eo, ec, x1, bI_s]
      · rw [ew, eo, ec]
        exact y1
theorem pair_above (I : Inv i s) (a : Int32) : PairGo (Inv (i + 1)) 221 257 [.int a] s := by
  have J : Inv (i + 1) s := I.mono (by omega)
  rcases I.obj a with ⟨c43, r246⟩ | ⟨T, N, b, q, t, rs, kb, z, tr, cs, wm, cm, A, o, G, R, B, eo, o1, o2, c43, r246⟩
  · refine ⟨-1, -1, s, s, ?_, ?_, J⟩
    · rw [e_221 (d := 1998)]
      unfold f_221 b_221_0
      rw [xg_0_11, xV_79, c43 1997, bI_s, if_pos rfl]
    · rw [e_257 (d := 1998)]
      unfold f_257 b_257_0
      rw [xV_97, r246 1997, bI_s, if_pos rfl]
  · have P := R.hwp G
    have b1 := B.1
    have b2' := B.2
    obtain ⟨s1, x1, x2, x3, x4, x5⟩ := x_193 (d := 1992) P (R.hwc G) R.2.2.2.2.2.2.1
    have f1 : ∀ h, 97 ≤ h → s1.1 h = s.1 h := fun h e => funext fun j => x2.1 h j (by omega)
    obtain ⟨s2, w2, y1, y2, y3, y4, y5, _⟩ := x_257 (d := 1995) P ((R.hwr G).lo f1) o1 o2 (fun d => h246_wl G R f1 d o s1 o1 o2 offG.rf)
    have K2 : KNm T t.1 A.1 s2 := (R.2.2.2.2.2.2.2).gen ⟨by rw [y3, f1 97 (by omega)], by rw [y4, f1 97 (by omega)]⟩ (by rw [y5, f1 181 (by omega)])
    refine ⟨s1.1 94 o, w2, s1, s2, ?_, by rw [eo]; exact y1, Inv.wkR I.1 G R x2 (Or.inr ⟨x3, x4, x5⟩) y2 K2⟩
    have x192 : mjF 1998 192 [.ref 91, .int (nI o)] (mjW0 s) = some (some (.int (s1.1 94 o)), mjW0 s1) := by
      rw [e_192 (d := 1997)]
      unfold f_192 b_192_0
      rw [xV_91, x1, bN_s, xg_91_6, wa_94 (by omega)]
    have c43' := c43 1997
    rw [eo] at c43' ⊢
    rw [e_221 (d := 1998)]
    unfold f_221 b_221_0
    rw [xg_0_11, xV_79, c43', bI_s, if_neg (show ¬ ((1 : Int32) = 0) by decide), xg_0_13, xV_91, x192, bI_s]
/-- a RUN, or none -/
theorem Inv.run (I : Inv i s) : IZ s ∨ ∃ T N b q t rs kb z tr cs wm cm A, IPG T N b q t rs kb z tr cs s ∧ IRN i T b q t rs z tr cs wm cm A s := by
  rcases I.2 with ⟨_, _, h⟩ | ⟨T, N, b, q, t, rs, kb, z, tr, cs, G, hR⟩
  · exact Or.inl h
  · rcases hR with h | ⟨wm, cm, A, R⟩
    · exact Or.inl h
    · exact Or.inr ⟨T, N, b, q, t, rs, kb, z, tr, cs, wm, cm, A, G, R⟩
theorem IRN.n96 (R : IRN i T b q t rs z tr cs wm cm A s) (e : s1.1 97 = s.1 97) : ¬ s1.1 97 96 = 0 := by
  rw [e, show s.1 97 96 = nI A.2.2.2.2.2.2.2.2.1 from R.2.2.2.2.1.1.1.1]
  have p1 := R.2.1.1
  have p3 := R.2.1.2.1
  exact nI_ne0 (by omega) (by omega)
theorem pair_leaks (I : Inv i s) : PairGo (Inv (i + 1)) 222 251 [] s := by
  have fin : ∀ s1, mjF 1997 193 [.ref 91] (mjW0 s) = some (none, mjW0 s1) → mjF 1999 222 [.ref 0] (mjW0 s) = some (some (.int (s1.1 91 9)), mjW0 s1) := by
    intro s1 x1
    rw [e_222 (d := 1998)]
    unfold f_222 b_222_0
    rw [xg_0_13, xV_91, e_198 (d := 1997)]
    unfold f_198 b_198_0
    rw [xV_91, x1, bN_s, xg_91_9, bI_s]
  rcases I.run with hz | ⟨T, N, b, q, t, rs, kb, z, tr, cs, wm, cm, A, G, R⟩
  · obtain ⟨T, H, hW, P, h0⟩ := hz.hwc
    obtain ⟨s1, x1, x2, x3, x4, x5⟩ := x_193 (d := 1992) P hW (by rw [h0]; exact hz.2.2.2.2)
    rw [h0] at x4 x5
    refine ⟨s1.1 91 9, 0, s1, s1, fin s1 x1, ?_, I.wkZ hz x2 (Or.inr ⟨x3, x4, x5⟩)⟩
    rw [e_251 (d := 1998)]
    unfold f_251 b_251_0
    rw [xg_97_96, show s1.1 97 = s.1 97 from funext fun j => x2.1 97 j (by omega), hz.1.1, if_pos rfl]
  · have P := R.hwp G
    obtain ⟨s1, x1, x2, x3, x4, x5⟩ := x_193 (d := 1992) P (R.hwc G) R.2.2.2.2.2.2.1
    have f1 : ∀ h, 97 ≤ h → s1.1 h = s.1 h := fun h e => funext fun j => x2.1 h j (by omega)
    have K0 : KNm T t.1 A.1 s1 := (R.2.2.2.2.2.2.2).gen ⟨by rw [f1 97 (by omega)], by rw [f1 97 (by omega)]⟩ (f1 181 (by omega))
    obtain ⟨s2, y1, y2, y3⟩ := x_251 (d := 1994) P ((R.hwr G).lo f1) K0 (R.n96 (f1 97 (by omega)))
    exact ⟨_, _, s1, s2, fin s1 x1, y1, Inv.wkR I.1 G R x2 (Or.inr ⟨x3, x4, x5⟩) y2 y3⟩
theorem pair_leak (I : Inv i s) (a : Int32) : PairGo (Inv (i + 1)) 223 255 [.int a] s := by
  have fin : ∀ s1 n, n ≤ 1334 → mjF 1997 193 [.ref 91] (mjW0 s) = some (none, mjW0 s1) → (∃ t, t ≤ n ∧ s1.1 91 9 = nI t) → ∃ r, mjF 1999 223 [.ref 0, .int a] (mjW0 s) = some (some (.int r), mjW0 s1) := by
    intro s1 n hn x1 ⟨t, t1, t2⟩
    have pre : mjF 1999 223 [.ref 0, .int a] (mjW0 s) = bI (if a < 0 then some (some (.int (-1)), mjW0 s1) else (if nI t ≤ a then some (some (.int (-1)), mjW0 s1) else gR (mjW0 s1) 91 10 8 (fun v3 => aI (mjW0 s1) v3 a (fun v4 => some (some (.int v4), mjW0 s1))))) (fun v2 hp3 => some (some (.int v2), hp3)) := by
      rw [e_223 (d := 1998)]
      unfold f_223 b_223_0
      rw [xg_0_13, xV_91, e_199 (d := 1997)]
      unfold f_199 b_199_0 b_199_25
      rw [xV_91, x1, bN_s, xg_91_9, t2]
    rw [pre]
    by_cases h1 : a < 0
    · rw [if_pos h1]; exact ⟨_, rfl⟩
    · rw [if_neg h1]
      by_cases h2 : nI t ≤ a
      · rw [if_pos h2]; exact ⟨_, rfl⟩
      · obtain ⟨x, x31, ex⟩ := nI_of h1
        have xl : x < t := by
          rw [ex] at h2
          exact (nI_ltI (by omega) (by omega)).mp (Int32.not_le.mp h2)
        rw [if_neg h2, xg_91_8, ex, wa_96 (by omega)]
        exact ⟨_, rfl⟩
  rcases I.run with hz | ⟨T, N, b, q, t, rs, kb, z, tr, cs, wm, cm, A, G, R⟩
  · obtain ⟨T, H, hW, P, h0⟩ := hz.hwc
    obtain ⟨s1, x1, x2, x3, x4, x5⟩ := x_193 (d := 1992) P hW (by rw [h0]; exact hz.2.2.2.2)
    rw [h0] at x4 x5
    obtain ⟨r, hr⟩ := fin s1 0 (by omega) x1 x4
    refine ⟨r, -1, s1, s1, hr, ?_, I.wkZ hz x2 (Or.inr ⟨x3, x4, x5⟩)⟩
    rw [e_255 (d := 1998)]
    unfold f_255 b_255_0 b_255_11
    rw [xg_97_96, show s1.1 97 = s.1 97 from funext fun j => x2.1 97 j (by omega), hz.1.1, if_pos rfl]
  · have P := R.hwp G
    have b1 := P.2.1.1
    have b2' := P.2.1.2
    obtain ⟨s1, x1, x2, x3, x4, x5⟩ := x_193 (d := 1992) P (R.hwc G) R.2.2.2.2.2.2.1
    have f1 : ∀ h, 97 ≤ h → s1.1 h = s.1 h := fun h e => funext fun j => x2.1 h j (by omega)
    have K0 : KNm T t.1 A.1 s1 := (R.2.2.2.2.2.2.2).gen ⟨by rw [f1 97 (by omega)], by rw [f1 97 (by omega)]⟩ (f1 181 (by omega))
    obtain ⟨r, hr⟩ := fin s1 A.1.1 (by omega) x1 x4
    by_cases a0 : 0 ≤ a
    · obtain ⟨s2, y1, y2, y3⟩ := x_255 (d := 1994) P ((R.hwr G).lo f1) K0 (R.n96 (f1 97 (by omega))) a0
      exact ⟨r, _, s1, s2, hr, y1, Inv.wkR I.1 G R x2 (Or.inr ⟨x3, x4, x5⟩) y2 y3⟩
    · refine ⟨r, -1, s1, s1, hr, ?_, Inv.wkR I.1 G R x2 (Or.inr ⟨x3, x4, x5⟩) offG.rf K0⟩
      rw [e_255 (d := 1998)]
      unfold f_255 b_255_0 b_255_11
      rw [xg_97_96, if_neg (R.n96 (f1 97 (by omega))), if_neg a0]
theorem pair_past (I : Inv i s) (a v : Int32) : PairGo (Inv (i + 1)) 224 256 [.int a, .int v] s := by
  have J : Inv (i + 1) s := I.mono (by omega)
  rcases I.obj a with ⟨c43, r246⟩ | ⟨T, N, b, q, t, rs, kb, z, tr, cs, wm, cm, A, o, G, R, B, eo, o1, o2, c43, r246⟩
  · refine ⟨-1, -1, s, s, ?_, ?_, J⟩
    · rw [e_224 (d := 1998)]
      unfold f_224 b_224_0
      rw [xg_0_11, xV_79, c43 1997, bI_s, if_pos rfl]
    · rw [e_256 (d := 1998)]
      unfold f_256 b_256_0 b_256_12
      rw [xV_97, r246 1997, bI_s, if_pos rfl]
  · have P := R.hwp G
    have b1 := P.2.1.1
    have b2' := P.2.1.2
    have ol := (P.1 o o1 o2).2.1 0
    obtain ⟨s1, x1, x2, x3, x4, x5⟩ := x_193 (d := 1992) P (R.hwc G) R.2.2.2.2.2.2.1
    have hW1 := (R.hwc G).ws x2
    obtain ⟨lk, x197⟩ := x_197 (d := 1995) P hW1 x5 o1 o2
    have x49 : mjF 1997 49 [.ref 79, .int (nI o), .int 0] (mjW0 s1) = some (some (.int (nI ((A.1.2 o).2.1 0))), mjW0 s1) := x_49 (d := 1996) (i := 0) hW1.1 P.2.1 o1 o2 (P.n1 o1 o2)
    obtain ⟨s2, y1, y2, y3, y4⟩ := x_186R (d := 1993) (sh := (A.1.2 o).2.1 0) P (by omega) hW1
    have hW2 := hW1.ws y2.toC
    have c43' := c43 1997
    have pre : mjF 1999 224 [.ref 0, .int a, .int v] (mjW0 s) = bI (mjF 1998 200 [.ref 91, .int (nI o), .int v] (mjW0 s)) (fun v5 hp6 => some (some (.int v5), hp6)) := by
      rw [eo] at c43' ⊢
      rw [e_224 (d := 1998)]
      unfold f_224 b_224_0
      rw [xg_0_11, xV_79, c43', bI_s, if_neg (show ¬ ((1 : Int32) = 0) by decide), xg_0_13, xV_91]
    have K1 : KNc A.1.1 s1 := Or.inr ⟨x3, x4, x5⟩
    have cl : ∃ r s3, mjF 1999 224 [.ref 0, .int a, .int v] (mjW0 s) = some (some (.int r), mjW0 s3) ∧ oWc s s3 ∧ KNc A.1.1 s3 := by
      rw [pre, e_200 (d := 1997)]
      unfold f_200 b_200_0 b_200_43
      rw [xV_91, x1, bN_s, xV_91, x197, bI_s]
      cases lk with
      | false =>
        rw [if_pos (show b2 false = 0 from rfl)]
        exact ⟨_, s1, rfl, x2, K1⟩
      | true =>
        have o12 : oWc s s2 := offG.tr x2 y2.toC
        have K2 : KNc A.1.1 s2 := y2.kn K1
        rw [if_neg (show ¬ b2 true = 0 by decide), xg_91_0, xV_79, x49, bI_s, xV_91, y1, bN_s, xV_91]
        by_cases g : inW (walkR T t.1 A.1 ((A.1.2 o).2.1 0)) o
        · obtain ⟨e, e1, e2⟩ := g
          obtain ⟨k, hk⟩ := List.getElem?_of_mem e1
          have ln := y4.len
          have kl := (List.getElem?_eq_some_iff.mp hk).1
          have ds := y4.dist k k e (Nat.le_refl _) hk
          have x191 := x_191 (d := 1996) (by omega) hW2.2.1 y3 y4 hk
          rw [e2] at x191
          rw [x191, bI_s]
          by_cases h1 : v < 0
          · rw [if_pos h1]; exact ⟨_, s2, rfl, o12, K2⟩
          · rw [if_neg h1]
            by_cases h2 : v ≤ nI e.2.2.2
            · obtain ⟨x, x31, ex⟩ := nI_of h1
              have xl : x ≤ e.2.2.2 := by
                rw [ex] at h2
                exact (nI_leI (by omega) (by omega)).mp h2
              have l := lq_200 (x := x) (mjF 1997) (show A.1.1 ≤ 1334 by omega) y3 y4 (by omega) (k + 1) k mjN e (by omega) (by unfold mjN; omega) hk
              rw [e2] at l
              rw [if_pos h2, ex, l]
              exact ⟨_, s2, rfl, o12, K2⟩
            · rw [if_neg h2]; exact ⟨_, s2, rfl, o12, K2⟩
        · rw [x_191n (d := 1996) (by omega) y3 o2 g, bI_s]
          by_cases h1 : v < 0
          · rw [if_pos h1]; exact ⟨_, s2, rfl, o12, K2⟩
          · rw [if_neg h1]
            by_cases h2 : v ≤ 0
            · rw [if_pos h2, show mjN = 99999999 + 1 from rfl, L200_S]
              unfold b_200_51
              rw [if_pos (show (0 : Int32) ≤ v from Int32.not_lt.mp h1)]
              exact ⟨_, s2, rfl, o12, K2⟩
            · rw [if_neg h2]; exact ⟨_, s2, rfl, o12, K2⟩
    obtain ⟨r, s3, z1, z2, z3⟩ := cl
    have f3 : ∀ h, 97 ≤ h → s3.1 h = s.1 h := fun h e => funext fun j => z2.1 h j (by omega)
    have K0 : KNm T t.1 A.1 s3 := (R.2.2.2.2.2.2.2).gen ⟨by rw [f3 97 (by omega)], by rw [f3 97 (by omega)]⟩ (f3 181 (by omega))
    obtain ⟨s4, w2, u1, u2, u3, _⟩ := x_256 (d := 1994) (a := v) P ((R.hwr G).lo f3) K0 o1 o2 (fun d => h246_wl G R f3 d o s3 o1 o2 offG.rf)
    exact ⟨r, w2, s3, s4, z1, by rw [eo]; exact u1, Inv.wkR I.1 G R z2 z3 u2 u3⟩
end MJB98
