/-! ===== the class's RUN: makeObject ===== -/
section MJB59
variable {T : TT} {N wm cm pc k n d i o q w x kk c : Nat} {pf : Nat → Nat → Nat} {L : List CD} {H H' : HEAP} {f g : FRM} {fs gs : List FRM} {st : List Int32} {sc : SCL} {s s' : mjSt3} {A : AMS} {v : Int32} {ow ow' : Nat → Nat}
theorem CRn.owc (M : CRn T L pf wm cm pc (addO H c ow, f :: fs, k, st, sc) s) (e : ∀ i, i < nmL L c → ow i = ow' i) : CRn T L pf wm cm pc (addO H c ow', f :: fs, k, st, sc) s := by
  have hHp : HPc T L (addO H c ow) s := M.2.1
  obtain ⟨l1, l2, l3, l4, l5⟩ := hHp.last
  exact M.hps (fun _ _ _ => rfl) (by rw [bs_ad1, bs_ad1]) rfl (hHp.res.add (fun x => by
    by_cases q : x = H.1 + 1
    · rw [if_pos q, q, l1]
    · rw [if_neg q]) l2 l3 (fun i hi => by rw [l4 i hi, e i hi]) l5 (fun _ _ => rfl))
/-- setOwner of the last OBJECT -/
theorem x_50 (M : CRn T L pf wm cm pc (addO H c ow, f :: fs, k, st, sc) s) (hb : bsH T L H H.1 + szO T L c ≤ 4000) (h3 : 3 * H.1 ≤ bsH T L H H.1) (hn : 1 ≤ nmL L c) (hi : i < nmL L c) : ∃ s', mjF (d + 1) 50 [.ref 79, .int (nI (H.1 + 1)), .int (nI i), .int (nI w)] (mjW0 s) = some (none, mjW0 s') ∧ oCn s s' ∧ CRn T L pf wm cm pc (addO H c (fun x => if x = i then w else ow x), f :: fs, k, st, sc) s' := by
  have hHp : HPc T L (addO H c ow) s := M.2.1
  obtain ⟨l1, l2, l3, l4, l5⟩ := hHp.last
  have sz : szO T L c = 2 + nmL L c + fldT T L c := rfl
  obtain ⟨z1, g1⟩ : ∃ y, y = uI s 80 (upd (s.1 80) (bsH T L H H.1 + 2 + i) (nI w)) := ⟨_, rfl⟩
  have r1 : ∀ h, ¬ h = 80 → z1.1 h = s.1 h := fun h e => by rw [g1]; exact uI_ne _ _ _ _ e
  have v80 : ∀ x, z1.1 80 x = if x = bsH T L H H.1 + 2 + i then nI w else s.1 80 x := fun x => by rw [g1, uI_same, upd_g]
  refine ⟨z1, ?_, by rw [g1]; exact oCn.wr (by omega), M.hps (fun h _ e => r1 h e) (by rw [bs_ad1, bs_ad1]) rfl (hHp.res.add (fun x => ?_) (by rw [v80, if_neg (by omega)]; exact l2) (by rw [v80, if_neg (by omega)]; exact l3) (fun y hy => ?_) (fun y hy => by rw [v80, if_neg (by omega)]; exact l5 y hy) (fun y hy => by rw [v80, if_neg (by omega)]))⟩
  · rw [e_50]
    unfold f_50 b_50_0
    rw [xg_79_0, xg_79_1, wa_81 (by omega), l1, show nI (bsH T L H H.1) + 2 + nI i = nI (bsH T L H H.1 + 2 + i) by rw [show (2 : Int32) = nI 2 from rfl, nI_add, nI_add], ws_80 (by omega), ← g1]
  · rw [r1 81 (by decide)]
    by_cases q : x = H.1 + 1
    · rw [if_pos q, q, l1]
    · rw [if_neg q]
  · rw [v80]
    show _ = nI (if y = i then w else ow y)
    by_cases q : y = i
    · rw [if_pos q, if_pos (by omega)]
    · rw [if_neg q, if_neg (by omega)]; exact l4 y hy
theorem here_ad {m : Nat} (ho : o ≤ H.1) : hereO T L (addO H c ow) m o x = hereO T L H m o x := by
  have ex : (addO H c ow).2 o = H.2 o := if_neg (by omega)
  unfold hereO seenO
  rw [ex]
theorem FCL.ext (F : FCL T L H f) (e : HX H H') : FCL T L H' f := by
  rcases F with h | ⟨h1, h2, h3, h4, h5⟩
  · exact Or.inl h
  · exact Or.inr ⟨h1, h2, h3, Nat.le_trans h4 e.1, by rw [e.2 _ h3 h4]; exact h5⟩
theorem FCL.self (F : FCL T L H f) : f.2.1 ≤ H.1 := by
  rcases F with ⟨_, h⟩ | ⟨_, _, _, h, _⟩
  · omega
  · exact h
theorem L91_S (R : mjR) (n a : Nat) (b c e f' : Int32) (hp : mjH) : L_91_52 R (n + 1) a b c e f' hp = b_91_52 R (L_91_52 R n) a b c e f' hp := rfl
theorem PG.cg (P : PG T L q s) (e : ∀ h, q ≤ h ∧ h ≤ q + 27 → s'.1 h = s.1 h) (el : ∀ h, q ≤ h ∧ h ≤ q + 27 → s'.2.1 h = s.2.1 h) : PG T L q s' := by
  obtain ⟨⟨g1, g2, g3, g4⟩, ⟨g5, g6, g7⟩, ⟨g8, g9, g10⟩, ⟨g11, g12⟩, g13, ⟨g14, g15⟩, g16, g17, g18, g19⟩ := P
  refine ⟨⟨g1, fun c hc => by rw [e (q + 1) (by omega)]; exact g2 c hc, by rw [e q (by omega)]; exact g3, g4⟩, ⟨fun j hj => by rw [e (q + 5) (by omega)]; exact g5 j hj, INP.off g6 (e _ (by omega)) (e _ (by omega)), fun b hb a ha => by rw [e (q + 12) (by omega)]; exact g7 b hb a ha⟩, ⟨fun j hj => by rw [e (q + 8) (by omega)]; exact g8 j hj, fun m hm => by rw [e (q + 19) (by omega)]; exact g9 m hm, KNW.off g10 (e _ (by omega))⟩, ⟨fun m hm => ⟨by rw [e (q + 17) (by omega)]; exact (g11 m hm).1, fun j hj => by rw [e (q + 21) (by omega)]; exact (g11 m hm).2 j hj⟩, fun c hc i hi => by rw [el (q + 13) (by omega)]; exact g12 c hc i hi⟩, fun c hc => by rw [e (q + 2) (by omega), e (q + 6) (by omega), e (q + 9) (by omega), e (q + 10) (by omega)]; exact g13 c hc, ⟨by rw [e (q + 14) (by omega)]; exact g14, g15⟩, fun m hm => by rw [e (q + 16) (by omega), e (q + 18) (by omega), e (q + 20) (by omega)]; exact g16 m hm, fun m m' hm hm' => by rw [el (q + 15) (by omega)]; exact g17 m m' hm hm', by rw [e (q + 16) (by omega)]; exact g18, by rw [e (q + 20) (by omega)]; exact g19⟩
theorem CPH.run (C : CPH T L q s) (o : oCn s s') : CPH T L q s' := by
  obtain ⟨C1, C2, C3⟩ := C
  have hq : q = 2 ∨ q = 30 := C1.1.1
  have e : ∀ h, q ≤ h ∧ h ≤ q + 27 → s'.1 h = s.1 h := fun h hh => funext fun j => o.1 h j (fun x => by have : 79 ≤ h ∧ h ≤ 90 := x; omega)
  have el : s'.2.1 = s.2.1 := funext fun h => funext fun j => o.2.1 h j (fun x => x)
  exact ⟨PG.cg C1 e (fun h _ => by rw [el]), by rw [o.2.2]; exact C2, by rw [o.2.2]; exact C3⟩
theorem lq_91 (hn : HN T N L) (B : HBs T L H) (hO : HOK T L H) (F : FCL T L H f) (hl : fs.length < 40) (hs : st.length < 5120) (vk : vK L kk) (hb : bsH T L H H.1 + szO T L (cK kk) ≤ 4000) : ∀ (r i n : Nat) (s : mjSt3), i + r = nmL L (cK kk) → r < n → CPH T L q s → CRn T L pf wm cm pc (addO H (cK kk) (fun x => if x < i then hereO T L H f.1 f.2.1 (oK kk x) else 0), f :: fs, k, st, sc) s → ∃ s', L_91_52 (mjF (d + 4)) n 82 (nI kk) (nI (nmL L (cK kk))) (nI (H.1 + 1)) (nI i) (mjW0 s) = some (none, mjW0 s') ∧ oCn s s' ∧ CRn T L pf wm cm pc (addO H (cK kk) (fun x => hereO T L H f.1 f.2.1 (oK kk x)), f :: fs, k, nI (H.1 + 1) :: st, sc) s'
  | r, i, 0, s, e, hr, C, M => by omega
  | 0, i, n + 1, s, e, hr, C, M => by
    have ck := vk.cl hn
    have n5 := vK.n5 hn ck
    obtain ⟨s', a1, a2, a3⟩ := x_79 (d := d + 3) (M.owc (ow' := fun x => hereO T L H f.1 f.2.1 (oK kk x)) (fun x hx => if_pos (by omega))) hs (nI (H.1 + 1))
    refine ⟨s', ?_, a2, a3⟩
    rw [L91_S]
    unfold b_91_52
    rw [if_pos (nI_le (by omega) (by omega)), xV_82, a1, bN_s]
  | r + 1, i, n + 1, s, e, hr, C, M => by
    have ck := vk.cl hn
    have n5 := vK.n5 hn ck
    have hO' : HOK T L (addO H (cK kk) (fun x => if x < i then hereO T L H f.1 f.2.1 (oK kk x) else 0)) := hO.add ck (fun x => by
      by_cases q : x < i
      · rw [if_pos q]; exact here_lt hO F.self
      · rw [if_neg q]; omega)
    have b2' := B.2
    have sz : szO T L (cK kk) = 2 + nmL L (cK kk) + fldT T L (cK kk) := rfl
    have B' : HBs T L (addO H (cK kk) (fun x => if x < i then hereO T L H f.1 f.2.1 (oK kk x) else 0)) := ⟨by rw [bs_ad1]; exact hb, by rw [bs_ad1]; show 3 * (H.1 + 1) ≤ _; omega⟩
    have x92 := x_92 (d := d + 1) (x := oK kk i) hn M C B' hO' (F.ext HX.add) hl (vk.ow hn i (by omega))
    rw [here_ad F.self] at x92
    obtain ⟨s1, a1, a2, a3⟩ := x_50 (d := d + 3) (w := hereO T L H f.1 f.2.1 (oK kk i)) M hb b2' n5.1 (show i < nmL L (cK kk) by omega)
    obtain ⟨s2, c1, c2, c3⟩ := lq_91 hn B hO F hl hs vk hb r (i + 1) n s1 (by omega) (by omega) (C.run a2) (a3.owc (fun x hx => by
      by_cases q : x = i
      · rw [if_pos q, if_pos (by omega), q]
      · rw [if_neg q]
        by_cases q2 : x < i
        · rw [if_pos q2, if_pos (by omega)]
        · rw [if_neg q2, if_neg (by omega)]))
    refine ⟨s2, ?_, offG.tr a2 c2, c3⟩
    rw [L91_S]
    unfold b_91_52
    rw [if_neg (nI_ge (by omega) (by omega)), xg_82_0, x_106 (by have := vk.lt hn; omega) (by omega), bI_s, xV_82, x92, bI_s, xV_79, a1, bN_s, nI_1, c1]
/-- makeObject -/
theorem x_91 (hn : HN T N L) (M : CRn T L pf wm cm pc (H, f :: fs, k, st, sc) s) (C : CPH T L q s) (hO : HOK T L H) (hw : bsH T L H H.1 ≤ wm) (wm4 : wm ≤ 4000) (F : FCL T L H f) (hl : fs.length < 40) (hs : st.length < 5120) (vk : vK L kk) (h384 : ∀ c, fldT T L c ≤ 384) (p : Int32) : (wm < bsH T L H H.1 + szO T L (cK kk) → ∃ s', mjF (d + 5) 91 [.ref 82, .int (nI kk), .int p] (mjW0 s) = some (none, mjW0 s') ∧ oCn s s' ∧ ∀ pc', CRn T L pf wm cm pc' (aFail (H, f :: fs, k, st, sc) 4 p) s') ∧ (¬ wm < bsH T L H H.1 + szO T L (cK kk) → ∃ s', mjF (d + 5) 91 [.ref 82, .int (nI kk), .int p] (mjW0 s) = some (none, mjW0 s') ∧ oCn s s' ∧ CRn T L pf wm cm pc (addO H (cK kk) (fun x => hereO T L H f.1 f.2.1 (oK kk x)), f :: fs, k, nI (H.1 + 1) :: st, sc) s') := by
  have ck := vk.cl hn
  have n5 := vK.n5 hn ck
  have l16 := hn.1
  have hmj := mjN_v
  obtain ⟨⟨g1, g2, g3, g4⟩, ⟨g5, g6, g7⟩, ⟨g8, _⟩, _⟩ := C.1
  have B : HBs T L H := ⟨by omega, bs_3 hn H H.1 (fun x x1 x2 => (hO x x1 x2).1)⟩
  obtain ⟨m1, m2⟩ := x_47 (d := d + 1) M B hw wm4 (show cK kk < 16 by omega) n5 (h384 _)
  have pre : mjF (d + 5) 91 [.ref 82, .int (nI kk), .int p] (mjW0 s) = bI (mjF (d + 4) 47 [.ref 79, .int (nI (cK kk)), .int (nI (nmL L (cK kk))), .int (nI (fldT T L (cK kk)))] (mjW0 s)) (fun v10 hp11 => (if v10 = 0 then rV hp11 82 5 (bN (mjF (d + 4) 82 [.ref 82, .int (4 : Int32), .int p] hp11) (fun  hp12 => some (none, hp12))) else L_91_52 (mjF (d + 4)) mjN 82 (nI kk) (nI (nmL L (cK kk))) v10 (0 : Int32) hp11)) := by
    rw [e_91]
    unfold f_91 b_91_0
    rw [x_105 (by have := vk.lt hn; omega), bI_s, xg_82_2, C.2.1, yg_1 g1, wya_1 g1 (by omega), (g2 _ (by omega)).1, xg_82_0, xg_82_2, C.2.1, yg_8 g1, wya_8 g1 (by omega), g8 _ ck, xV_79]
  refine ⟨fun g => ?_, fun g => ?_⟩
  · obtain ⟨s', a1, a2, a3⟩ := x_82 (d := d + 2) M 4 p
    exact ⟨s', by rw [pre, m1 g, bI_s, if_pos rfl, xV_82, a1, bN_s], a2, a3⟩
  · obtain ⟨s1, a1, a2, a3⟩ := m2 g
    obtain ⟨s2, c1, c2, c3⟩ := lq_91 (d := d) (kk := kk) hn B hO F hl hs vk (by omega) (nmL L (cK kk)) 0 mjN s1 (by omega) (by omega) (C.run a2) (a3.owc (fun x _ => by rw [if_neg (by omega)]))
    have nz : ¬ nI (H.1 + 1) = 0 := fun e => by
      have := (nI_eq (a := H.1 + 1) (b := 0) (by have := B.1; have := B.2; omega) (by decide)).mp e
      omega
    exact ⟨s2, by rw [pre, a1, bI_s, if_neg nz]; exact c1, offG.tr a2 c2, c3⟩
end MJB59
