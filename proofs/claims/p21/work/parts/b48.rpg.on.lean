section
/-! ===== what a RUN of the reference reads of the program ===== -/
def RPG (T : TT) (b : Nat) (t : PT) (rs : List RcM) (z : PB) (tr : Bool) (s : mjSt3) : Prop := PGn T t b s ∧ (∀ c, c < t.1.length → s.1 109 (16 * b + c) = nI (fldT T t.1 c)) ∧ ((∀ a, a < t.1.length → s.1 107 (16 * b + a) = nI (fmL t.1 a) ∧ s.1 108 (16 * b + a) = nI (mcL t.1 a) ∧ fmL t.1 a + mcL t.1 a ≤ nMem t.1) ∧ nMem t.1 ≤ 384 ∧ ∀ m, m < nMem t.1 → s.2.1 132 (400 * b + m) = nkM T t.1 m ∧ s.1 125 (400 * b + m) = b2 (mSM t.1 m) ∧ omT T t.1 (hmM t.1 m) (nkM T t.1 m) = some m) ∧ (∀ m, m < nMem t.1 → s.1 124 (400 * b + m) = nI (16 * b + hmM t.1 m) ∧ (mSM t.1 m = true → s.1 129 (400 * b + m) = nI (i0T t m))) ∧ s.1 123 b = nI (i0T t 384) ∧ ∀ m, m ≤ 384 → isMT t.1 m = true → DnB T b t tr (zT rs z m) m s ∧ OvB b t (zT rs z m) m s
section MJB48
variable {T : TT} {N b kb : Nat} {t : PT} {rs : List RcM} {z : PB} {tr : Bool} {s s' : mjSt3}
theorem RPG_of (I : JBI T N b t rs z tr (fun _ => True) s) (uq : ∀ m, m < nMem t.1 → omT T t.1 (hmM t.1 m) (nkM T t.1 m) = some m) : RPG T b t rs z tr s := by
  obtain ⟨⟨⟨J, _, _, _⟩, Q, Pl⟩, h123, D⟩ := I
  refine ⟨⟨fun c hc => (J.hd hc).2.2.1.1, Q.2⟩, fun c hc => (Pl.1 c hc).1, ⟨fun a ha => ?_, J.n384, fun m hm => ⟨J.mn hm, J.sort hm, uq m hm⟩⟩, fun m hm => ⟨(J.mem hm).1.1.1, fun ms => ?_⟩, h123, fun m hm im => ⟨(D m hm im).2.1 trivial, (D m hm im).1⟩⟩
  · obtain ⟨x1, x2, x3, _⟩ := J.mc ha
    exact ⟨x2, x1, x3⟩
  · have m384 := J.n384
    have e : i0T t m = (mdM t.1 m).2.2.2.2.2.2.1 := if_neg (by omega)
    rw [(J.mem hm).1.2.2.2.1, e]
    exact if_pos ms
/-- a RUN leaves it -/
theorem RPG.run (G : RPG T b t rs z tr s) (o : oRn s s') : RPG T b t rs z tr s' := by
  have q : ∀ h, (100 ≤ h ∧ h ≤ 147) → s'.1 h = s.1 h := fun h hh => funext fun y => o.1 h y (by unfold chRn; omega)
  have l : s'.2.1 = s.2.1 := funext fun h => funext fun y => o.2.1 h y (fun e => e)
  obtain ⟨⟨g1, g2⟩, g3, ⟨g4, g5, g6⟩, g7, g8, g9⟩ := G
  refine ⟨⟨fun c hc => by rw [q 104 (by omega)]; exact g1 c hc, fun x hx => (g2 x hx).cg (q 105 (by omega)) (q 138 (by omega)) (q 139 (by omega)) (q 142 (by omega))⟩, fun c hc => by rw [q 109 (by omega)]; exact g3 c hc, ⟨fun a ha => by rw [q 107 (by omega), q 108 (by omega)]; exact g4 a ha, g5, fun m hm => by rw [l, q 125 (by omega)]; exact g6 m hm⟩, fun m hm => by rw [q 124 (by omega), q 129 (by omega)]; exact g7 m hm, by rw [q 123 (by omega)]; exact g8, fun m hm im => ?_⟩
  obtain ⟨d1, d2⟩ := g9 m hm im
  have rw' : ∀ (i : Nat) (r : Row), Rw s i r → Rw s' i r := fun i r h => ⟨by rw [q 143 (by omega)]; exact h.1, by rw [q 144 (by omega)]; exact h.2.1, by rw [q 145 (by omega)]; exact h.2.2.1, by rw [q 146 (by omega)]; exact h.2.2.2.1, by rw [l]; exact h.2.2.2.2⟩
  refine ⟨fun k r hk j1 l1 hj => ?_, rw' _ _ d2⟩
  obtain ⟨a1, a2⟩ := d1 k r hk j1 l1 hj
  exact ⟨rw' _ _ a1, fun h kk hkk => (a2 h kk hkk).cg (q 138 (by omega)) (q 139 (by omega)) (q 142 (by omega))⟩
theorem RPG.mt (G : RPG T b t rs z tr s) (h9 : s.1 97 9 = nI b) : MTr T t.1 b s := ⟨h9, fun a ha => ⟨(G.2.2.1.1 a ha).1, (G.2.2.1.1 a ha).2.1, (G.2.2.1.1 a ha).2.2, G.1.2 a ha⟩, G.2.2.1.2.1, G.2.2.1.2.2⟩
end MJB48
end
section
/-! ===== what the reference's act goes by at every order ===== -/
section MJB49
variable {T : TT} {N k0 kb b wm cm m k : Nat} {t : PT} {rs : List RcM} {z : PB} {tr : Bool} {H : HEAP} {r : Row} {j : JS} {l : List Ins} {f : FRM} {fs : List FRM} {st : List Int32} {sc : SCL} {s : mjSt3} {E : EV}
theorem PRX.vals (P : PRX T N k0 t rs kb z tr) (hm : m ≤ 384) (im : isMT t.1 m = true) (hk : k ≤ (osM rs z m).length) (ej : jrun (EMx T t tr k0 m) ((osM rs z m).take k) (jmT T t.1 m) = some (j, l)) : (jRS j).length ≤ 120 := by
  obtain ⟨j1, l1, a1, _, a3, _⟩ := P.1.pos hm im hk
  have e : j1 = j := (Prod.mk.inj (Option.some.inj (a1.symm.trans ej))).1
  rw [← e]
  exact a3
theorem sus_len (P : PRX T N k0 t rs kb z tr) : ∀ (fs : List FRM) (m k : Nat) (st : List Int32), SUS T t rs z tr k0 H fs m k st → st.length ≤ 120 * fs.length
  | [], m, k, st, h => by rw [h.2]; exact Nat.zero_le _
  | f :: fs, m, k, st, ⟨h0, h1, h2, j, l, x, xs, seg, rest, h3, h4, h5, h6, h7, h8⟩ => by
    have ih := sus_len P fs _ _ rest h8
    obtain ⟨fm, im⟩ := h1.mt P.2.1
    have b1 := P.vals fm im h2 h3
    rw [h4, List.length_cons] at b1
    have b2 := TYS.len _ _ h6
    rw [h7, List.length_append, List.length_cons]
    omega
/-- a typed RUN at an order -/
theorem AOK.info (P : PRX T N k0 t rs kb z tr) (hA : AOK T t rs z tr k0 wm cm (H, f :: fs, k, st, sc)) (ph : sc.2.2.2.2.1 = 1) : ∃ j l seg rest, jrun (EMx T t tr k0 f.1) ((osM rs z f.1).take k) (jmT T t.1 f.1) = some (j, l) ∧ FOK T t rs z tr k0 H f ∧ k ≤ (osM rs z f.1).length ∧ TYS T t.1 H seg (jRS j) ∧ st = seg ++ rest ∧ st.length ≤ 120 * (fs.length + 1) ∧ (f.1 ≤ 384 ∧ isMT t.1 f.1 = true) := by
  obtain ⟨f0, fs0, e0, F0, hk0, j0, l0, seg, rest, ej0, ty0, est, S0⟩ := hA.2.2.2.1 ph
  have ef : f = f0 := (List.cons.inj e0).1
  have efs : fs = fs0 := (List.cons.inj e0).2
  rw [← ef] at F0 hk0 ej0 S0
  rw [← efs] at S0
  have mt := FOK.mt F0 P.2.1
  have b1 := P.vals mt.1 mt.2 hk0 ej0
  have b2 := TYS.len _ _ ty0
  have b3 := sus_len P _ _ _ _ S0
  have est' : st = seg ++ rest := est
  refine ⟨j0, l0, seg, rest, ej0, F0, hk0, ty0, est', ?_, mt⟩
  rw [est', List.length_append]
  omega
/-- a VARIABLE's number in its order -/
theorem PRX.r20 (P : PRX T N k0 t rs kb z tr) (hm : m ≤ 384) (im : isMT t.1 m = true) (hk : (osM rs z m)[k]? = some r) (ej : jrun (EMx T t tr k0 m) ((osM rs z m).take k) (jmT T t.1 m) = some (j, l)) (o : r.1 = 20) : r.2.2.1 = nI j.2.2.2.1 := by
  have kl := (List.getElem?_eq_some_iff.mp hk).1
  obtain ⟨⟨g1, _, _⟩, sw, _⟩ := P.1.2.2 m hm im
  have dr : (osM rs z m).drop k = r :: (osM rs z m).drop (k + 1) := by
    rw [List.drop_eq_getElem_cons kl]
    congr 1
    exact (List.getElem?_eq_some_iff.mp hk).2
  have g1' : sdG ((osM rs z m).take k ++ (osM rs z m).drop k) [] := by rw [List.take_append_drop]; exact g1
  rw [sdG_app] at g1'
  have sw' : sdW ((osM rs z m).take k ++ (osM rs z m).drop k) (i0T t m) ((kqT T rs kb m, 0, [], 0), npT t.1 m, i0T t m + (osM rs z m).length, false, 0) := by rw [List.take_append_drop]; exact sw
  rw [sdW_app, dr] at sw'
  have td := (td_run _ _ [] j l g1'.1 ej).1
  have td0 : (jmT T t.1 m).2.2.2.1 = npT t.1 m := rfl
  have vr := (val_run _ _ _ [] sw'.1 g1'.1 rfl (Nat.zero_le _)).2.1
  have ow := sw'.2.1
  have eq1 : r.2.2.1 = nI (fdW ((osM rs z m).take k) (i0T t m) ((kqT T rs kb m, 0, [], 0), npT t.1 m, i0T t m + (osM rs z m).length, false, 0)).2.1 := by
    rcases ow with ok | ⟨q, _⟩ | ⟨q, _⟩ | ⟨q, _⟩ | ⟨q, _⟩ | ⟨_, _, _, q, _⟩ | ⟨q, _⟩ | q | ⟨q, _⟩ | ⟨q, _⟩
    · have := ok.1
      rw [o] at this
      exact absurd this (by decide)
    · rw [o] at q; exact absurd q (by decide)
    · rw [o] at q; exact absurd q (by decide)
    · rcases q with q | q <;> · have := q.1; rw [o] at this; exact absurd this (by decide)
    · rw [o] at q; exact absurd q (by decide)
    · exact q
    · rw [o] at q; exact absurd q (by decide)
    · rw [o] at q; exact absurd q (by decide)
    · rw [o] at q; exact absurd q (by decide)
    · rw [o] at q; exact absurd q (by decide)
  rw [eq1, vr]
  exact congrArg nI (by show npT t.1 m + n20 _ = j.2.2.2.1; omega)
/-- a KIND of an order -/
theorem NWk_of (P : PRX T N (800 * b) t rs kb z tr) (G : RPG T b t rs z tr s) (F : FOK T t rs z tr (800 * b) H f) {kk : Nat} (hkd : kdE (EMx T t tr (800 * b) f.1) r.2.2.1 = some kk) (K : TKr t.1 b s r.2.2.1 (kk + 2)) : ∃ kx, r.2.2.1 = nI kx ∧ NWk T t b H f kx kk s := by
  obtain ⟨v, kx, k1, k2, k3, k4, k5⟩ := K
  have hn := P.1.1.1
  have m384 := P.2.1
  refine ⟨kx, k2, F.1, fun h => (G.2.2.2.1 f.1 h).1, v, k1, k3, k5, k4, fun h => ?_, fun h => ?_⟩
  · unfold kdE at hkd
    rw [(EMx_main h).1] at hkd
    cases hk : kdT (EMx T t tr (800 * b) f.1).1 (EMx T t tr (800 * b) f.1).2.1 none false ((EMx T t tr (800 * b) f.1).2.2.2.1 r.2.2.1) with
    | none => rw [hk] at hkd; cases hkd
    | some k' =>
      rw [hk] at hkd
      dsimp only at hkd
      rw [EMx_1.1, EMx_1.2] at hk
      have key := (kd_vK hn (fun c hc => by cases hc) hk).2.2 rfl
      split at hkd
      · have e : k' = kk := Option.some.inj hkd
        rw [e] at key
        exact key
      · cases hkd
  · have n384 : ¬ f.1 = 384 := by omega
    unfold kdE at hkd
    rw [(EMx_m n384).1] at hkd
    cases hk : kdT (EMx T t tr (800 * b) f.1).1 (EMx T t tr (800 * b) f.1).2.1 (some (hmM t.1 f.1)) false ((EMx T t tr (800 * b) f.1).2.2.2.1 r.2.2.1) with
    | none => rw [hk] at hkd; cases hkd
    | some k' =>
      rw [hk] at hkd
      dsimp only at hkd
      rw [EMx_1.1, EMx_1.2] at hk
      split at hkd
      · have e : k' = kk := Option.some.inj hkd
        rw [e] at hk
        exact fun x hx h5 => kd_nm hn (P.1.2.1 f.1 h).2.2 hk hx h5
      · cases hkd
end MJB49
end
section
/-! ===== the reference's act is the pure machine's order ===== -/
section MJB50
variable {T : TT} {d N kb b wm cm k : Nat} {t : PT} {rs : List RcM} {z : PB} {tr : Bool} {H : HEAP} {r : Row} {j : JS} {l : List Ins} {f : FRM} {fs : List FRM} {st : List Int32} {sc : SCL} {s : mjSt3}
theorem vOK_obj {L : List CD} {kk : Nat} {v : Int32} (h : vOK T L H (kk + 2) v) : v = 0 ∨ ∃ o1, v = nI o1 ∧ 1 ≤ o1 ∧ o1 ≤ H.1 ∧ (vwT (nmL L) (abT T L) (H.2 o1).1 (cK kk)).isSome = true := by
  rcases h with h | ⟨o1, a1, a2, a3, a4⟩
  · exact Or.inl h
  · exact Or.inr ⟨o1, a3, a1, a2, a4⟩
theorem x_231 (P : PRX T N (800 * b) t rs kb z tr) (G0 : RPG T b t rs z tr s) (h9 : s.1 97 9 = nI b) (hb : b ≤ 1) (hA : AOK T t rs z tr (800 * b) wm cm (H, f :: fs, k, st, sc)) (ph : sc.2.2.2.2.1 = 1) (wm4 : wm ≤ 4000) (cm4 : cm ≤ 40) (ms4 : sc.1 ≤ 100) (hs : sc.2.1 < 100000000) (h384 : ∀ c, fldT T t.1 c ≤ 384) (M : MRn T t b wm cm (H, f :: fs, k + 1, st, sc) s) (ej : jrun (EMx T t tr (800 * b) f.1) ((osM rs z f.1).take k) (jmT T t.1 f.1) = some (j, l)) (hr : r = ((osM rs z f.1)[k]?).getD oOver) : gAct T t b wm cm (aStep T t.1 (EMx T t tr (800 * b) f.1) j (i0T t f.1) wm cm r (H, f :: fs, k + 1, st, sc)) s (mjF (d + 6) 231 [.ref 97, .int (nI (5000 * b + (i0T t f.1 + k)))] (mjW0 s)) := by
  have Ac := P.1.1
  have PM := P.1.2.1
  have hn := Ac.1
  have m384 := P.2.1
  obtain ⟨j0, l0, seg, rest, ej0, F, hk, ty0, est, sl, fm, im⟩ := AOK.info P hA ph
  have ejj : j0 = j := (Prod.mk.inj (Option.some.inj (ej0.symm.trans ej))).1
  rw [ejj] at ty0
  have ty : TYS T t.1 H seg (jRS j) := ty0
  have hH : HOK T t.1 H := hA.1
  have hw : bsH T t.1 H H.1 ≤ wm := hA.2.1
  have hl : (f :: fs).length ≤ cm := hA.2.2.1
  have fl1 : (f :: fs).length = fs.length + 1 := rfl
  have hfl : fs.length < 40 := by omega
  have hc : ∀ o, 1 ≤ o → o ≤ H.1 → (H.2 o).1 < t.1.length := fun o o1 o2 => (hH o o1 o2).1
  have i5 := P.2.2 f.1 fm im
  have stl : st.length < 7000 := by omega
  cases hkr : (osM rs z f.1)[k]? with
  | none =>
    have kl : (osM rs z f.1).length ≤ k := List.getElem?_eq_none_iff.mp hkr
    have er : r = oOver := by rw [hr, hkr]; rfl
    have e28 : r.1 = 28 := by rw [er]; rfl
    have W : RwJ (EMx T t tr (800 * b) f.1) b (i0T t f.1 + k) r j s := by
      refine ⟨?_, by omega, hb⟩
      have ov := (G0.2.2.2.2.2 f.1 fm im).2
      unfold OvB at ov
      have lk : (osM rs z f.1).length = k := by omega
      have lk' : (zT rs z f.1).2.2.2.1.length = k := lk
      rw [lk'] at ov
      rw [nA_9 (by rw [e28]; decide), er]
      exact ov
    exact ac_28o (d := d + 3) M W e28 (by rw [er]; rfl) (by omega) hfl
  | some r0 =>
    have er : r0 = r := by rw [hr, hkr]; rfl
    rw [er] at hkr
    have kl := (List.getElem?_eq_some_iff.mp hkr).1
    obtain ⟨j', l1, hj, ej', ok, J, _⟩ := P.step fm im hkr ej
    obtain ⟨Rwj, Kd7⟩ := (G0.2.2.2.2.2 f.1 fm im).1 k r hkr j l ej
    have W : RwJ (EMx T t tr (800 * b) f.1) b (i0T t f.1 + k) r j s := ⟨Rwj, by omega, hb⟩
    obtain ⟨E, hE⟩ : ∃ E, E = EMx T t tr (800 * b) f.1 := ⟨_, rfl⟩
    have E1 : E.1 = T := by rw [hE]; exact EMx_1.1
    have E2 : E.2.1 = t.1 := by rw [hE]; exact EMx_1.2
    have Kd : r.1 = 7 ∨ r.1 = 14 → ∀ kk, kdE E r.2.2.1 = some kk → TKr t.1 b s r.2.2.1 (kk + 2) := fun h kk hkk => by
      have := Kd7 h kk (by rw [hE] at hkk; exact hkk)
      rw [(EvR_1 f.1).2] at this
      exact this
    have NK : ∀ kk, kdE E r.2.2.1 = some kk → TKr t.1 b s r.2.2.1 (kk + 2) → ∃ kx, r.2.2.1 = nI kx ∧ NWk T t b H f kx kk s := fun kk h1 h2 => NWk_of P G0 F (by rw [hE] at h1; exact h1) h2
    rw [← hE] at hj W
    rw [← hE]
    obtain ⟨G, hG⟩ : ∃ G, G = fdG ((osM rs z f.1).take k) [] := ⟨_, rfl⟩
    rw [← hG] at ok J
    obtain ⟨R, K, V⟩ := J
    rcases ok with o | ⟨o, G', eG⟩ | ⟨o, G', eG⟩ | ⟨o, n, G', n6, ob, eG⟩ | ⟨o, n, i, w, G', eG, hi, n6, oa⟩ | ⟨o, n, G', n6, oa, eG⟩ | ⟨o, eG⟩ | ⟨o, eG⟩ | ⟨o, eG⟩ | ⟨o, eG⟩ | ⟨o, eG⟩ | ⟨o, eG⟩
    · rcases o with o | o | o | o | o
      · exact ac_3 (d := d + 4) M W o (by omega)
      · exact ac_4 (d := d + 4) M W o (by omega)
      · exact ac_5 (d := d + 4) M W o (by omega) hfl
      · rw [jr_6 o] at hj
        cases hv : vsK j.2.2.1 r.2.2.2.2 with
        | none => rw [hv] at hj; cases hj
        | some e => exact ac_6 (d := d + 4) M W o (by omega) hfl hv (V.1 e (List.mem_of_find?_eq_some hv)).2.1
      · rw [jr_7 o] at hj
        cases hv : kdE E r.2.2.1 with
        | none => rw [hv] at hj; cases hj
        | some kd =>
          obtain ⟨kx, x1, x2⟩ := NK kd hv (Kd (Or.inl o) kd hv)
          exact ac_7 (d := d) Ac M W o (by omega) G0.1 G0.2.1 hH hw wm4 hfl m384 h384 hv x1 x2
    · subst eG
      obtain ⟨t2, st1, rs1, q1, q2, t1, st2, rs2, q3, q4, R2⟩ := R
      rw [q2, q4] at ty
      obtain ⟨b', seg1, s1, y1, ty1⟩ := TYS.cons ty
      obtain ⟨a', seg2, s2, y2, ty2⟩ := TYS.cons ty1
      have st' : st = b' :: a' :: (seg2 ++ rest) := by rw [est, s1, s2]; rfl
      rw [st', List.length_cons, List.length_cons] at stl
      rw [st'] at M ⊢
      exact ac_9 (d := d + 3) M W o (by omega)
    · subst eG
      obtain ⟨t1, st1, rs1, q1, q2, R1⟩ := R
      have tk : tOK t.1 t1.1 := K t1.1 (by rw [q2]; exact List.mem_cons_self)
      rw [q2] at ty
      obtain ⟨v, seg1, s1, y1, ty1⟩ := TYS.cons ty
      have st' : st = v :: (seg1 ++ rest) := by rw [est, s1]; rfl
      rcases o with o | o | o | o
      · rw [st', List.length_cons] at stl
        rw [st'] at M ⊢
        exact ac_8 (d := d + 4) M W o (by omega)
      · rw [jr_10 o, q1] at hj
        dsimp only at hj
        cases hp : prtE E t1 r.2.2.2.2 false with
        | none => rw [hp] at hj; cases hj
        | some p =>
          obtain ⟨kk, k1, k2, k3⟩ := prt_c hp (by rw [E2]; exact tk)
          rw [E2] at k2
          rw [E1, E2] at k3
          obtain ⟨p1, p2, p3, p4, _⟩ := mem_in Ac k2 k3
          have esl : slotJ E r j = numM T t.1 p.1 := by
            unfold slotJ
            rw [q1]
            dsimp only
            rw [hp]
            dsimp only
            rw [E1, E2]
          rw [k1] at y1
          rw [st', List.length_cons] at stl
          rw [st'] at M ⊢
          refine ac_10 (d := d + 4) M W o (by omega) G0.1.1 hn hH (by omega) (x := t1) (p := p) ⟨by rw [q1]; rfl, by rw [q1]; exact List.cons_ne_nil _ _⟩ hp ?_
          rcases vOK_obj y1 with h | ⟨o1, w1, w2, w3, w4⟩
          · exact Or.inl h
          · exact Or.inr ⟨o1, w1, w2, w3, by rw [esl]; exact num_lt2 Ac (hc o1 w2 w3) p1 p4 (mem_vw Ac (hc o1 w2 w3) k2 w4 k3)⟩
      · rw [jr_14 o, q1] at hj
        dsimp only at hj
        cases hv : kdE E r.2.2.1 with
        | none => rw [hv] at hj; cases hj
        | some kd =>
          rw [hv] at hj
          dsimp only at hj
          by_cases g0 : t1.1 = 0
          · rw [if_pos g0] at hj; cases hj
          · obtain ⟨kx, x1, x2⟩ := NK kd hv (Kd (Or.inr o) kd hv)
            rw [st', List.length_cons] at stl
            rw [st'] at M ⊢
            refine ac_14 (d := d) Ac M W o (by omega) G0.1 hH (by omega) hfl m384 hv x1 x2 ?_
            obtain ⟨x1', al⟩ := t1
            match x1', y1, g0 with
            | 0, _, g0 => exact absurd rfl g0
            | 1, y1, _ => exact Or.inl y1
            | kk + 2, y1, _ =>
              rcases vOK_obj y1 with h | ⟨o1, w1, w2, w3, _⟩
              · exact Or.inl h
              · exact Or.inr ⟨o1, w1, w2, w3⟩
      · exact ac_30 (d := d + 4) M W o
    · exact ac_11 (d := d + 4) M W o
    · exact ac_12 (d := d + 4) M W o
    · subst eG
      obtain ⟨p, pd1, as, x, rs1, q3, q4, ⟨kx, c1, c2, c3, c4, c5⟩, R1⟩ := R
      rw [q4] at ty
      obtain ⟨us, ws, s1, tyu, tyw⟩ := TYS.app ty
      obtain ⟨ov, ws', s2, yo, tyw'⟩ := TYS.cons tyw
      have ul : us.length = n := (TYS.len _ _ tyu).trans c4
      have xk : tOK t.1 x := K x (by rw [q4]; exact List.mem_append_right _ List.mem_cons_self)
      rw [c1] at xk yo
      have kxl := tOK.k xk
      obtain ⟨p1, p2, p3, p4, _⟩ := mem_in Ac kxl c2
      have st' : st = us ++ (ov :: (ws' ++ rest)) := by rw [est, s1, s2, List.append_assoc]; rfl
      have hs' : st[n]?.getD 0 = ov := by
        rw [st', List.getElem?_append_right (by omega), ul, Nat.sub_self]
        rfl
      have ln : n + 1 ≤ st.length := by
        rw [st', List.length_append, List.length_cons]
        omega
      refine ac_13 (D := d + 2) Ac M W o (by omega) (G0.mt h9) hH (by omega) hfl cm4 hl ms4 n6 ln oa (m1 := p.1) (by rw [q3]; rfl) p3 ?_
      rw [hs']
      rcases vOK_obj yo with h | ⟨o1, w1, w2, w3, w4⟩
      · exact Or.inl h
      · obtain ⟨i, hi⟩ := (vw_iff Ac (hc o1 w2 w3)).mp w4
        obtain ⟨d1, e1, _⟩ := dyn_m Ac (fun m hm => (PM m hm).1) i _ (hc o1 w2 w3) hi c2
        obtain ⟨g1, g2, g3, g4, g5⟩ := mem_in Ac (hc o1 w2 w3) e1
        exact Or.inr ⟨o1, d1, w1, w2, w3, by rw [p3]; exact e1, g1, (G0.2.2.2.1 d1 g1).2 g4⟩
    · exact ac_15 (d := d + 4) M W o
    · exact ac_16 (d := d + 4) M W o
    · subst eG
      obtain ⟨t2, st1, rs1, q1, q2, t1, st2, q3, ⟨vl, lf16⟩, r1, r2, r3⟩ := R
      rw [q2, r3] at ty
      obtain ⟨v, seg1, s1, y1, ty1⟩ := TYS.cons ty
      have st' : st = v :: (seg1 ++ rest) := by rw [est, s1]; rfl
      rw [st', List.length_cons] at stl
      rw [st'] at M ⊢
      exact ac_17 (d := d + 4) M W o (by omega) hfl lf16
    · subst eG
      obtain ⟨t2, st1, rs1, q1, q2, t1, st2, x, rs2, q3, q4, ⟨kx, fm2, w, c1, c2, c3, c4⟩, r1, r2, r3⟩ := R
      have xk : tOK t.1 x := K x (by rw [q2, q4]; exact List.mem_cons_of_mem _ List.mem_cons_self)
      rw [q2, q4, r3] at ty
      obtain ⟨v, seg1, s1, y1, ty1⟩ := TYS.cons ty
      obtain ⟨ov, seg2, s2, y2, ty2⟩ := TYS.cons ty1
      rw [c1] at xk y2
      have kxl := tOK.k xk
      obtain ⟨p1, p2, p3, p4, _⟩ := mem_in Ac kxl c2
      have st' : st = v :: ov :: (seg2 ++ rest) := by rw [est, s1, s2]; rfl
      rw [st', List.length_cons, List.length_cons] at stl
      rw [st'] at M ⊢
      refine ac_18 (d := d + 4) M W o (by omega) G0.1.1 hn hH (by omega) ?_
      rcases vOK_obj y2 with h | ⟨o1, w1, w2, w3, w4⟩
      · exact Or.inl h
      · exact Or.inr ⟨o1, w1, w2, w3, by rw [c3]; exact num_lt2 Ac (hc o1 w2 w3) p1 p4 (mem_vw Ac (hc o1 w2 w3) kxl w4 c2)⟩
    · subst eG
      obtain ⟨t1, st1, rs1, q1, q2, r1, r2, r3⟩ := R
      rw [q2, r3] at ty
      obtain ⟨v, seg1, s1, y1, ty1⟩ := TYS.cons ty
      have st' : st = v :: (seg1 ++ rest) := by rw [est, s1]; rfl
      rw [st', List.length_cons] at stl
      rw [st'] at M ⊢
      rcases o with o | o | o | o | o
      · rw [jr_20 o, q1] at hj
        dsimp only at hj
        by_cases g : fitT E.1 E.2.1 t1.1 j.2.2.2.2.2.1.2 = true
        · rw [if_pos g] at hj
          have r20 := P.r20 fm im hkr ej o
          obtain ⟨j2, l2, hj2, _, _, _, J2⟩ := P.step fm im hkr ej
          rw [← hE, jr_20 o, q1] at hj2
          dsimp only at hj2
          rw [if_pos g] at hj2
          have ejp := (Prod.mk.inj (Option.some.inj hj2)).1
          have vv := J2.2.2.1 (j.2.2.2.2.2.1.1, j.2.2.2.2.2.1.2, j.2.2.2.1, j.2.2.2.2.1) (by rw [← ejp]; exact List.mem_append_right _ (List.mem_singleton.mpr rfl))
          exact ac_20 (d := d + 4) M W o (by omega) hfl vv.2.1 r20
        · rw [if_neg g] at hj; cases hj
      · obtain ⟨x, x1, x2, x3, x4, _⟩ := P.jump fm im hkr (Or.inl o)
        exact ac_21 (d := d + 4) M W o (by omega) x2 x3
      · exact ac_24 (d := d + 4) M W o (by omega) hs
      · exact ac_25 (d := d + 4) M W o
      · exact ac_28 (d := d + 3) M W o.1 o.2 (by omega) hfl
    · rcases o with o | o | o | o | o | o | o
      · exact ac_1 (d := d + 4) M W o hfl
      · exact ac_2 (d := d + 4) M W o
      · exact ac_19 (d := d + 4) M W o
      · obtain ⟨x, x1, x2, x3, x4, _⟩ := P.jump fm im hkr (Or.inr (Or.inl o))
        exact ac_22 (d := d + 4) M W o x2 x3
      · obtain ⟨x, x1, x2, x3, x4, _⟩ := P.jump fm im hkr (Or.inr (Or.inr o))
        exact ac_23 (d := d + 4) M W o x2 x3
      · exact ac_26 (d := d + 4) M W o
      · exact ac_27 (d := d + 4) M W o
end MJB50
end
section
/-! ===== a RUN, pure; the reference's run is it ===== -/
def jX (T : TT) (t : PT) (rs : List RcM) (z : PB) (tr : Bool) (k0 m k : Nat) : JS := match jrun (EMx T t tr k0 m) ((osM rs z m).take k) (jmT T t.1 m) with
  | some x => x.1
  | none => jmT T t.1 m
/-- the order at which a RUN is -/
def aOrd (rs : List RcM) (z : PB) (A : AMS) : Row := match A.2.1 with
  | f :: _ => ((osM rs z f.1)[A.2.2.1]?).getD oOver
  | [] => oOver
def aTick (sc : SCL) (c : Bool) : SCL := (sc.1, sc.2.1, sc.2.2.1, (if c = true then sc.2.2.2.1 + 1 else sc.2.2.2.1), sc.2.2.2.2)
def aOne (T : TT) (t : PT) (rs : List RcM) (z : PB) (tr : Bool) (k0 wm cm : Nat) (A : AMS) : AMS := match A.2.1 with
  | [] => A
  | f :: fs => aStep T t.1 (EMx T t tr k0 f.1) (jX T t rs z tr k0 f.1 A.2.2.1) (i0T t f.1) wm cm (aOrd rs z A) (A.1, f :: fs, A.2.2.1 + 1, A.2.2.2.1, aTick A.2.2.2.2 (costs (aOrd rs z A)))
/-- at most so many orders, at most left STEPS -/
def aRun (T : TT) (t : PT) (rs : List RcM) (z : PB) (tr : Bool) (k0 wm cm : Nat) : Nat → Nat → AMS → Option AMS
  | 0, _, _ => none
  | n + 1, left, A => if ¬ A.2.2.2.2.2.2.2.2.1 = 1 then some A else if costs (aOrd rs z A) = true then (if left = 0 then some A else aRun T t rs z tr k0 wm cm n (left - 1) (aOne T t rs z tr k0 wm cm A)) else aRun T t rs z tr k0 wm cm n left (aOne T t rs z tr k0 wm cm A)
section MJB51
variable {T : TT} {d N k0 kb b wm cm k : Nat} {t : PT} {rs : List RcM} {z : PB} {tr : Bool} {H : HEAP} {r : Row} {f : FRM} {fs : List FRM} {st : List Int32} {sc : SCL} {s s' : mjSt3} {A A' : AMS}
theorem x_230 (r : Row) (hp : mjH) : mjF (d + 1) 230 [.int r.1] hp = some (some (.int (b2 (costs r))), hp) := by
  rw [e_230]
  unfold f_230 b_230_0 b_230_46 costs
  by_cases h1 : r.1 = 1
  · rw [if_pos h1, decide_eq_true (Or.inl h1)]; rfl
  rw [if_neg h1]
  by_cases h2 : r.1 = 2
  · rw [if_pos h2, decide_eq_true (Or.inr (Or.inl h2))]; rfl
  rw [if_neg h2]
  by_cases h8 : r.1 = 8
  · rw [if_pos h8, decide_eq_true (Or.inr (Or.inr (Or.inr (Or.inl h8))))]; rfl
  rw [if_neg h8]
  by_cases h9 : r.1 = 9
  · rw [if_pos h9, decide_eq_true (Or.inr (Or.inr (Or.inr (Or.inr (Or.inl h9)))))]; rfl
  rw [if_neg h9]
  by_cases h10 : r.1 = 10
  · rw [if_pos h10, decide_eq_true (Or.inr (Or.inr (Or.inr (Or.inr (Or.inr (Or.inl h10))))))]; rfl
  rw [if_neg h10]
  by_cases h13 : r.1 = 13
  · rw [if_pos h13, decide_eq_true (Or.inr (Or.inr (Or.inr (Or.inr (Or.inr (Or.inr (Or.inl h13)))))))]; rfl
  rw [if_neg h13]
  by_cases h7 : r.1 = 7
  · rw [if_pos h7, decide_eq_true (Or.inr (Or.inr (Or.inl h7)))]; rfl
  rw [if_neg h7]
  by_cases h14 : r.1 = 14
  · rw [if_pos h14, decide_eq_true (Or.inr (Or.inr (Or.inr (Or.inr (Or.inr (Or.inr (Or.inr h14)))))))]; rfl
  rw [if_neg h14, decide_eq_false]
  · rfl
  · intro q
    rcases q with q | q | q | q | q | q | q | q
    · exact h1 q
    · exact h2 q
    · exact h7 q
    · exact h8 q
    · exact h9 q
    · exact h10 q
    · exact h13 q
    · exact h14 q
/-- STEPS and the place, ahead of an order -/
theorem MRn.tick (M : MRn T t b wm cm (H, f :: fs, k, st, sc) s) (c : Bool) : ∃ s1 s2, (c = true → (gI (mjW0 s) 97 12 100 (fun v1 => pI (mjW0 s) 97 12 100 (v1 + (1 : Int32)) (fun hp2 => some (none, hp2))) : mjU) = some (none, mjW0 s1)) ∧ (c = false → s1 = s) ∧ s1.1 97 119 = nI (i0T t f.1 + k) ∧ mjW0 s2 = mjW0 (uI s1 97 (upd (s1.1 97) 119 (nI (i0T t f.1 + (k + 1))))) ∧ oRn s s2 ∧ MRn T t b wm cm (H, f :: fs, k + 1, st, aTick sc c) s2 ∧ s1 = (if c = true then uI s 97 (upd (s.1 97) 100 (s.1 97 100 + 1)) else s) := by
  obtain ⟨s1, g1⟩ : ∃ y, y = (if c = true then uI s 97 (upd (s.1 97) 100 (s.1 97 100 + 1)) else s) := ⟨_, rfl⟩
  obtain ⟨s2, g2⟩ : ∃ y, y = uI s1 97 (upd (s1.1 97) 119 (nI (i0T t f.1 + (k + 1)))) := ⟨_, rfl⟩
  obtain ⟨⟨⟨a1, a2, a3, a4⟩, ⟨a5, a6, a7⟩, ⟨a8, a9, a10⟩, ⟨a11, a12⟩, a13⟩, hH, hF, hT⟩ := M
  obtain ⟨c1, c2, c3⟩ := hT f fs rfl
  have a5' : s.1 97 100 = nI sc.2.2.2.1 := a5
  have v1 : ∀ x, s1.1 97 x = if x = 100 then nI (if c = true then sc.2.2.2.1 + 1 else sc.2.2.2.1) else s.1 97 x := by
    intro x
    rw [g1]
    cases c with
    | true =>
      rw [if_pos rfl, if_pos rfl, uI_same, upd_g, a5', nI_1]
    | false =>
      rw [if_neg (show ¬ (false = true) by decide), if_neg (show ¬ (false = true) by decide)]
      by_cases e : x = 100
      · rw [if_pos e, e, a5']
      · rw [if_neg e]
  have r1 : ∀ h, ¬ h = 97 → s1.1 h = s.1 h := by
    intro h e
    rw [g1]
    cases c with
    | true => rw [if_pos rfl]; exact uI_ne _ _ _ _ e
    | false => rw [if_neg (by decide)]
  have o1 : oRn s s1 := by
    rw [g1]
    cases c with
    | true => rw [if_pos rfl]; exact oRn.wr (by unfold chRn; omega)
    | false => rw [if_neg (by decide)]; exact offG.rf
  have v2 : ∀ x, s2.1 97 x = if x = 119 then nI (i0T t f.1 + (k + 1)) else s1.1 97 x := fun x => by rw [g2, uI_same, upd_g]
  have r2 : ∀ h, ¬ h = 97 → s2.1 h = s.1 h := fun h e => by rw [g2, uI_ne _ _ _ _ e, r1 h e]
  have n : ∀ x, ¬ (x = 119 ∨ x = 100) → s2.1 97 x = s.1 97 x := fun x hx => by rw [v2, if_neg (by omega), v1, if_neg (by omega)]
  refine ⟨s1, s2, fun hc => ?_, fun hc => ?_, ?_, by rw [g2], offG.tr o1 (by rw [g2]; exact oRn.wr (by unfold chRn; omega)), ⟨⟨⟨by rw [n 96 (by omega)]; exact a1, by rw [n 97 (by omega)]; exact a2, by rw [n 98 (by omega)]; exact a3, by rw [n 99 (by omega)]; exact a4⟩, ⟨by rw [v2, if_neg (by decide), v1, if_pos rfl]; rfl, by rw [n 105 (by omega)]; exact a6, by rw [n 106 (by omega)]; exact a7⟩, ⟨by rw [n 102 (by omega)]; exact a8, by rw [n 103 (by omega)]; exact a9, by rw [n 116 (by omega)]; exact a10⟩, ⟨by rw [n 101 (by omega)]; exact a11, by rw [n 104 (by omega)]; exact a12⟩, fun x h1 h2 => by rw [r2 167 (by decide)]; exact a13 x h1 h2⟩, hH.keep (fun x hx => r2 x (by omega)), FRr.keep (fun x hx => r2 x (by omega)) _ hF, fun g gs hg => ?_⟩, g1⟩
  · rw [xg_97_100, xp_97_100, g1, if_pos hc]
  · rw [g1, hc, if_neg (by decide)]
  · rw [v1, if_neg (by decide)]; exact c1
  · have hg' : f = g := (List.cons.inj hg).1
    rw [← hg']
    exact ⟨by rw [v2, if_pos rfl], by rw [n 118 (by omega)]; exact c2, STr.low st (fun x _ => by rw [r2 176 (by decide)]) c3⟩
end MJB51
end
section
/-! ===== the reference's run, its loop ===== -/
section MJB52
variable {T : TT} {d N k0 kb b wm cm k i0 : Nat} {L : List CD} {t : PT} {rs : List RcM} {z : PB} {tr : Bool} {E : EV} {j : JS} {H : HEAP} {r : Row} {f : FRM} {fs : List FRM} {st : List Int32} {sc : SCL} {s s' : mjSt3} {A A' : AMS}
theorem aRet_sc (v : Int32) (h3 : sc.2.2.2.2.1 ≤ 3) : (aRet (H, f :: fs, k, st, sc) f fs v).2.2.2.2.1 = sc.1 ∧ (aRet (H, f :: fs, k, st, sc) f fs v).2.2.2.2.2.1 = sc.2.1 ∧ (aRet (H, f :: fs, k, st, sc) f fs v).2.2.2.2.2.2.2.2.1 ≤ 3 := by
  cases fs with
  | nil => exact ⟨rfl, rfl, show (2 : Nat) ≤ 3 by decide⟩
  | cons g gs => exact ⟨rfl, rfl, h3⟩
theorem aCall_sc {n m' : Nat} {p : Int32} (h : sc.1 ≤ 41) (h3 : sc.2.2.2.2.1 ≤ 3) (hl : (f :: fs).length ≤ 40) : (aCall T L cm n m' p (H, f :: fs, k, st, sc) (f :: fs)).2.2.2.2.1 ≤ 41 ∧ (aCall T L cm n m' p (H, f :: fs, k, st, sc) (f :: fs)).2.2.2.2.2.1 ≤ sc.2.1 + 1 ∧ (aCall T L cm n m' p (H, f :: fs, k, st, sc) (f :: fs)).2.2.2.2.2.2.2.2.1 ≤ 3 := by
  rw [aCall_eq]
  by_cases g1 : st[n]?.getD 0 = 0
  · rw [if_pos g1]; exact ⟨h, Nat.le_succ _, show (3 : Nat) ≤ 3 from Nat.le_refl 3⟩
  rw [if_neg g1]
  by_cases g2 : (f :: fs).length = cm
  · rw [if_pos g2]; exact ⟨h, Nat.le_succ _, show (3 : Nat) ≤ 3 from Nat.le_refl 3⟩
  rw [if_neg g2]
  cases memT T L (H.2 (nN (st[n]?.getD 0))).1 (nkM T L m') true with
  | none => exact ⟨h, Nat.le_succ _, h3⟩
  | some d =>
    refine ⟨?_, Nat.le_succ _, h3⟩
    show (if sc.1 < (f :: fs).length + 1 then (f :: fs).length + 1 else sc.1) ≤ 41
    by_cases q : sc.1 < (f :: fs).length + 1
    · rw [if_pos q]; omega
    · rw [if_neg q]; exact h
theorem aStep_sc (h : sc.1 ≤ 41) (h3 : sc.2.2.2.2.1 ≤ 3) (hl : (f :: fs).length ≤ 40) : (aStep T L E j i0 wm cm r (H, f :: fs, k, st, sc)).2.2.2.2.1 ≤ 41 ∧ (aStep T L E j i0 wm cm r (H, f :: fs, k, st, sc)).2.2.2.2.2.1 ≤ sc.2.1 + 1 ∧ (aStep T L E j i0 wm cm r (H, f :: fs, k, st, sc)).2.2.2.2.2.2.2.2.1 ≤ 3 := by
  by_cases c1 : r.1 = 1
  · rw [as_1 c1]; exact ⟨h, Nat.le_succ _, h3⟩
  by_cases c3 : r.1 = 3
  · rw [as_3 c3]; exact ⟨h, Nat.le_succ _, h3⟩
  by_cases c4 : r.1 = 4
  · rw [as_4 c4]; exact ⟨h, Nat.le_succ _, h3⟩
  by_cases c5 : r.1 = 5
  · rw [as_5 c5]; exact ⟨h, Nat.le_succ _, h3⟩
  by_cases c6 : r.1 = 6
  · rw [as_6 c6]; exact ⟨h, Nat.le_succ _, h3⟩
  by_cases c7 : r.1 = 7
  · rw [as_7 c7]
    cases kdE E r.2.2.1 with
    | none => exact ⟨h, Nat.le_succ _, h3⟩
    | some kk =>
      dsimp only
      by_cases q : wm < bsH T L H H.1 + szO T L (cK kk)
      · rw [if_pos q]; exact ⟨h, Nat.le_succ _, show (3 : Nat) ≤ 3 from Nat.le_refl 3⟩
      · rw [if_neg q]; exact ⟨h, Nat.le_succ _, h3⟩
  by_cases c8 : r.1 = 8
  · rw [as_8 c8]; exact ⟨h, Nat.le_succ _, h3⟩
  by_cases c9 : r.1 = 9
  · rw [as_9 c9]
    cases two2 r.2.2.1 (st.tail.headD 0) (st.headD 0) with
    | none => exact ⟨h, Nat.le_succ _, show (3 : Nat) ≤ 3 from Nat.le_refl 3⟩
    | some v => exact ⟨h, Nat.le_succ _, h3⟩
  by_cases c10 : r.1 = 10
  · rw [as_10 c10]
    by_cases q : st.headD 0 = 0
    · rw [if_pos q]; exact ⟨h, Nat.le_succ _, show (3 : Nat) ≤ 3 from Nat.le_refl 3⟩
    · rw [if_neg q]; exact ⟨h, Nat.le_succ _, h3⟩
  by_cases c13 : r.1 = 13
  · rw [as_13 c13]; exact aCall_sc h h3 hl
  by_cases c14 : r.1 = 14
  · rw [as_14 c14]
    cases kdE E r.2.2.1 with
    | none => exact ⟨h, Nat.le_succ _, h3⟩
    | some kk =>
      dsimp only
      by_cases q : asO T L H f.1 f.2.1 (st.headD 0) kk = true
      · rw [if_pos q]; exact ⟨h, Nat.le_succ _, h3⟩
      · rw [if_neg q]; exact ⟨h, Nat.le_succ _, show (3 : Nat) ≤ 3 from Nat.le_refl 3⟩
  by_cases c17 : r.1 = 17
  · rw [as_17 c17]; exact ⟨h, Nat.le_succ _, h3⟩
  by_cases c18 : r.1 = 18
  · rw [as_18 c18]
    by_cases q : st.tail.headD 0 = 0
    · rw [if_pos q]; exact ⟨h, Nat.le_succ _, show (3 : Nat) ≤ 3 from Nat.le_refl 3⟩
    · rw [if_neg q]; exact ⟨h, Nat.le_succ _, h3⟩
  by_cases c20 : r.1 = 20
  · rw [as_20 c20]; exact ⟨h, Nat.le_succ _, h3⟩
  by_cases c21 : r.1 = 21
  · rw [as_21 c21]
    by_cases q : st.headD 0 = 0
    · rw [if_pos q]; exact ⟨h, Nat.le_succ _, h3⟩
    · rw [if_neg q]; exact ⟨h, Nat.le_succ _, h3⟩
  by_cases c22 : r.1 = 22 ∨ r.1 = 23
  · rw [as_22 c22]; exact ⟨h, Nat.le_succ _, h3⟩
  by_cases c24 : r.1 = 24
  · rw [as_24 c24]; exact ⟨h, Nat.le_refl _, h3⟩
  by_cases c25 : r.1 = 25
  · rw [as_25 c25]; exact ⟨h, Nat.le_succ _, h3⟩
  by_cases c28 : r.1 = 28
  · rw [as_28 c28]
    by_cases q : r.2.2.1 = 1
    · rw [if_pos q]
      have e := aRet_sc (H := H) (k := k) (f := f) (fs := fs) (st := st.tail) (sc := sc) (st.headD 0) h3
      show (aRet (H, f :: fs, k, st.tail, sc) f fs (st.headD 0)).2.2.2.2.1 ≤ 41 ∧ (aRet (H, f :: fs, k, st.tail, sc) f fs (st.headD 0)).2.2.2.2.2.1 ≤ sc.2.1 + 1 ∧ (aRet (H, f :: fs, k, st.tail, sc) f fs (st.headD 0)).2.2.2.2.2.2.2.2.1 ≤ 3
      rw [e.1, e.2.1]
      exact ⟨h, Nat.le_succ _, e.2.2⟩
    · rw [if_neg q]
      have e := aRet_sc (H := H) (k := k) (f := f) (fs := fs) (st := st) (sc := sc) 0 h3
      rw [e.1, e.2.1]
      exact ⟨h, Nat.le_succ _, e.2.2⟩
  · have e : aStep T L E j i0 wm cm r (H, f :: fs, k, st, sc) = (H, f :: fs, k, st, sc) := by
      unfold aStep
      dsimp only
      rw [if_neg c1, if_neg c3, if_neg c4, if_neg c5, if_neg c6, if_neg c7, if_neg c8, if_neg c9, if_neg c10, if_neg c13, if_neg c14, if_neg c17, if_neg c18, if_neg c20, if_neg c21, if_neg c22, if_neg c24, if_neg c25, if_neg c28]
    rw [e]
    exact ⟨h, Nat.le_succ _, h3⟩
/-- the whole of a RUN's state on the reference's side -/
def RIn (T : TT) (N b : Nat) (t : PT) (rs : List RcM) (z : PB) (tr : Bool) (wm cm : Nat) (A : AMS) (s : mjSt3) : Prop := MRn T t b wm cm A s ∧ RPG T b t rs z tr s ∧ s.1 97 9 = nI b ∧ AOK T t rs z tr (800 * b) wm cm A ∧ A.2.2.2.2.1 ≤ 41
theorem jX_of {l : List Ins} (h : jrun (EMx T t tr k0 f.1) ((osM rs z f.1).take k) (jmT T t.1 f.1) = some (j, l)) : jX T t rs z tr k0 f.1 k = j := by unfold jX; rw [h]
/-- one order -/
theorem one_229 (P : PRX T N (800 * b) t rs kb z tr) (hb : b ≤ 1) (wm4 : wm ≤ 4000) (cm4 : cm ≤ 40) (h384 : ∀ c, fldT T t.1 c ≤ 384) (I : RIn T N b t rs z tr wm cm (H, f :: fs, k, st, sc) s) (ph : sc.2.2.2.2.1 = 1) (hs : sc.2.1 < 100000000) : s.1 97 119 = nI (i0T t f.1 + k) ∧ i0T t f.1 + k < 5000 ∧ s.1 143 (5000 * b + (i0T t f.1 + k)) = (aOrd rs z (H, f :: fs, k, st, sc)).1 ∧ ∃ s', RIn T N b t rs z tr wm cm (aOne T t rs z tr (800 * b) wm cm (H, f :: fs, k, st, sc)) s' ∧ oRn s s' ∧ (aOne T t rs z tr (800 * b) wm cm (H, f :: fs, k, st, sc)).2.2.2.2.2.1 ≤ sc.2.1 + 1 ∧ ∀ (k31 : Nat → Int32 → Int32 → mjH → mjU) (l2 : Int32), b_229_93 (mjF (d + 6)) k31 97 l2 (nI (5000 * b + (i0T t f.1 + k))) (mjW0 (if costs (aOrd rs z (H, f :: fs, k, st, sc)) = true then uI s 97 (upd (s.1 97) 100 (s.1 97 100 + 1)) else s)) = k31 97 l2 (if (aOne T t rs z tr (800 * b) wm cm (H, f :: fs, k, st, sc)).2.2.2.2.2.2.2.2.1 = 1 then 1 else 0) (mjW0 s') := by
  obtain ⟨M, G, h9, hA, hm⟩ := I
  obtain ⟨j, l, seg, rest, ej, F, hk, ty, est, sl, fm, im⟩ := AOK.info P hA ph
  have i5 := P.2.2 f.1 fm im
  have eo : aOrd rs z (H, f :: fs, k, st, sc) = ((osM rs z f.1)[k]?).getD oOver := rfl
  obtain ⟨c, hc⟩ : ∃ c, c = costs (aOrd rs z (H, f :: fs, k, st, sc)) := ⟨_, rfl⟩
  obtain ⟨s1, s2, t1, t2, t3, t4, t5, t6, t7⟩ := M.tick c
  have hA' : AOK T t rs z tr (800 * b) wm cm (H, f :: fs, k, st, aTick sc c) := hA
  have ph' : (aTick sc c).2.2.2.2.1 = 1 := ph
  obtain ⟨s', x1, x2, x3⟩ := x_231 (d := d) (r := aOrd rs z (H, f :: fs, k, st, sc)) P (G.run t5) (by rw [t5.1 97 9 (by unfold chRn; omega)]; exact h9) hb hA' ph' wm4 cm4 (show sc.1 ≤ 100 by have : sc.1 ≤ 41 := hm; omega) hs h384 t6 ej eo
  have eone : aOne T t rs z tr (800 * b) wm cm (H, f :: fs, k, st, sc) = aStep T t.1 (EMx T t tr (800 * b) f.1) j (i0T t f.1) wm cm (aOrd rs z (H, f :: fs, k, st, sc)) (H, f :: fs, k + 1, st, aTick sc c) := by
    show aStep T t.1 (EMx T t tr (800 * b) f.1) (jX T t rs z tr (800 * b) f.1 k) (i0T t f.1) wm cm (aOrd rs z (H, f :: fs, k, st, sc)) (H, f :: fs, k + 1, st, aTick sc (costs (aOrd rs z (H, f :: fs, k, st, sc)))) = _
    rw [jX_of ej, ← hc]
  have hA2 := snd_step (r := aOrd rs z (H, f :: fs, k, st, sc)) P wm4 hA' ph' ej eo
  have hl : (f :: fs).length ≤ 40 := Nat.le_trans hA.2.2.1 cm4
  have sc2 := aStep_sc (T := T) (L := t.1) (E := EMx T t tr (800 * b) f.1) (j := j) (i0 := i0T t f.1) (wm := wm) (cm := cm) (r := aOrd rs z (H, f :: fs, k, st, sc)) (H := H) (k := k + 1) (st := st) (sc := aTick sc c) hm (show sc.2.2.2.2.1 ≤ 3 by omega) hl
  rw [← eone] at x3 hA2 sc2
  refine ⟨(M.2.2.2 f fs rfl).1, by omega, ?_, s', ⟨x3, (G.run t5).run x2, by rw [x2.1 97 9 (by unfold chRn; omega), t5.1 97 9 (by unfold chRn; omega)]; exact h9, hA2, sc2.1⟩, offG.tr t5 x2, sc2.2.1, fun k31 l2 => ?_⟩
  · rw [eo]
    cases hkr : (osM rs z f.1)[k]? with
    | none =>
      have kl : (osM rs z f.1).length ≤ k := List.getElem?_eq_none_iff.mp hkr
      have ov := (G.2.2.2.2.2 f.1 fm im).2
      unfold OvB at ov
      have lk : (osM rs z f.1).length = k := by omega
      have lk' : (zT rs z f.1).2.2.2.1.length = k := lk
      rw [lk'] at ov
      exact ov.1
    | some r0 => exact ((G.2.2.2.2.2 f.1 fm im).1 k r0 hkr j l ej).1.1
  · rw [← hc, ← t7]
    unfold b_229_93
    have e119 : nI (i0T t f.1 + k) + 1 = nI (i0T t f.1 + (k + 1)) := nI_1 _
    have h96 : s'.1 97 96 = nI (aOne T t rs z tr (800 * b) wm cm (H, f :: fs, k, st, sc)).2.2.2.2.2.2.2.2.1 := x3.1.1.1
    rw [xg_97_119, t3, e119, xp_97_119, ← t4, xV_97, x1, bN_s, xg_97_96, h96]
    unfold b_229_122
    by_cases q : (aOne T t rs z tr (800 * b) wm cm (H, f :: fs, k, st, sc)).2.2.2.2.2.2.2.2.1 = 1
    · rw [if_pos q, q, if_pos (show nI 1 = (1 : Int32) from rfl)]
    · rw [if_neg q, if_neg (fun e => q ?_)]
      have := (nI_eq (b := 1) (Nat.lt_of_le_of_lt sc2.2.2 (by decide)) (by omega)).mp e
      exact this
end MJB52
end
section
/-! ===== the reference's run is the pure one ===== -/
theorem L229_S {d n a : Nat} {l2 l3 : Int32} {hp : mjH} : L_229_31 (mjF d) (n + 1) a l2 l3 hp = b_229_31 (mjF d) (L_229_31 (mjF d) n) a l2 l3 hp := rfl
section MJB53
variable {T : TT} {d N kb b wm cm : Nat} {t : PT} {rs : List RcM} {z : PB} {tr : Bool} {s s' : mjSt3} {A B : AMS}
theorem lq_229 (P : PRX T N (800 * b) t rs kb z tr) (hb : b ≤ 1) (wm4 : wm ≤ 4000) (cm4 : cm ≤ 40) (h384 : ∀ c, fldT T t.1 c ≤ 384) : ∀ (n m left : Nat) (A B : AMS) (s : mjSt3), n + 1 < m → left ≤ 2000 → A.2.2.2.2.2.1 + n < 100000000 → RIn T N b t rs z tr wm cm A s → aRun T t rs z tr (800 * b) wm cm n left A = some B → ∃ s', RIn T N b t rs z tr wm cm B s' ∧ oRn s s' ∧ B.2.2.2.2.2.1 ≤ A.2.2.2.2.2.1 + n ∧ L_229_31 (mjF (d + 6)) m 97 (nI left) (if A.2.2.2.2.2.2.2.2.1 = 1 then 1 else 0) (mjW0 s) = some (some (.int (nI B.2.2.2.2.2.2.2.2.1)), mjW0 s')
  | 0, m, left, A, B, s, hm, hl, hs, I, h => by cases h
  | n + 1, 0, left, A, B, s, hm, hl, hs, I, h => by omega
  | n + 1, m + 1, left, A, B, s, hm, hl, hs, I, h => by
    unfold aRun at h
    by_cases ph : A.2.2.2.2.2.2.2.2.1 = 1
    · rw [if_neg (fun q => q ph)] at h
      rw [if_pos ph]
      obtain ⟨f, fs, e0, _⟩ := I.2.2.2.1.2.2.2.1 ph
      obtain ⟨H, gs, k, st, sc⟩ := A
      have e0' : gs = f :: fs := e0
      subst e0'
      have hs1 : sc.2.1 < 100000000 := by
        have : sc.2.1 + (n + 1) < 100000000 := hs
        omega
      obtain ⟨c1, c2, c3, s1, I1, o1, c4, c5⟩ := one_229 (d := d) P hb wm4 cm4 h384 I ph hs1
      have h9 := I.2.2.1
      have hs2 : (aOne T t rs z tr (800 * b) wm cm (H, f :: fs, k, st, sc)).2.2.2.2.2.1 + n < 100000000 := by
        have : sc.2.1 + (n + 1) < 100000000 := hs
        omega
      have ei : (5000 : Int32) * nI b + nI (i0T t f.1 + k) = nI (5000 * b + (i0T t f.1 + k)) := by rw [show (5000 : Int32) = nI 5000 from rfl, nI_mul, nI_add]
      have pre : L_229_31 (mjF (d + 6)) (m + 1) 97 (nI left) 1 (mjW0 s) = (if costs (aOrd rs z (H, f :: fs, k, st, sc)) = true then (if nI left ≤ 0 then b_229_72 (mjF (d + 6)) (L_229_31 (mjF (d + 6)) m) 97 (nI left) (nI (5000 * b + (i0T t f.1 + k))) 0 (mjW0 s) else b_229_72 (mjF (d + 6)) (L_229_31 (mjF (d + 6)) m) 97 (nI left) (nI (5000 * b + (i0T t f.1 + k))) 1 (mjW0 s)) else b_229_93 (mjF (d + 6)) (L_229_31 (mjF (d + 6)) m) 97 (nI left) (nI (5000 * b + (i0T t f.1 + k))) (mjW0 s)) := by
        rw [L229_S]
        unfold b_229_31
        rw [if_neg (show ¬ ((1 : Int32) = 0) by decide), xg_97_9, xg_97_119, xg_97_54, h9, c1, ei, wa_143 (by omega), c3, x_230, bI_s, b2_i]
      by_cases hc : costs (aOrd rs z (H, f :: fs, k, st, sc)) = true
      · rw [if_pos hc] at h c5
        rw [pre, if_pos hc]
        by_cases hz : left = 0
        · rw [if_pos hz] at h
          have eB := Option.some.inj h
          rw [hz, if_pos (show nI 0 ≤ (0 : Int32) by decide), ← eB]
          unfold b_229_72
          rw [if_pos rfl]
          obtain ⟨m2, em⟩ : ∃ m2, m = m2 + 1 := ⟨m - 1, by omega⟩
          rw [em, L229_S]
          unfold b_229_31
          rw [if_pos rfl, xg_97_96, I.1.1.1.1]
          exact ⟨s, I, offG.rf, Nat.le_add_right _ _, rfl⟩
        · rw [if_neg hz] at h
          rw [if_neg (nI_nle (by omega) (by omega))]
          unfold b_229_72
          have el : nI left + (-1) = nI (left - 1) := by
            have := nI_m (left - 1)
            rw [show left - 1 + 1 = left by omega] at this
            exact this
          rw [if_neg (show ¬ ((1 : Int32) = 0) by decide), xg_97_100, xp_97_100, el, c5]
          obtain ⟨s2, i1, i2, i3, i4⟩ := lq_229 P hb wm4 cm4 h384 n m (left - 1) _ B s1 (by omega) (by omega) hs2 I1 h
          exact ⟨s2, i1, offG.tr o1 i2, by show B.2.2.2.2.2.1 ≤ sc.2.1 + (n + 1); omega, i4⟩
      · rw [if_neg hc] at h c5
        rw [pre, if_neg hc, c5]
        obtain ⟨s2, i1, i2, i3, i4⟩ := lq_229 P hb wm4 cm4 h384 n m left _ B s1 (by omega) hl hs2 I1 h
        exact ⟨s2, i1, offG.tr o1 i2, by show B.2.2.2.2.2.1 ≤ sc.2.1 + (n + 1); omega, i4⟩
    · rw [if_pos ph] at h
      have eB := Option.some.inj h
      rw [if_neg ph, L229_S, ← eB]
      unfold b_229_31
      rw [if_pos rfl, xg_97_96, I.1.1.1.1]
      exact ⟨s, I, offG.rf, Nat.le_add_right _ _, rfl⟩
end MJB53
end
section
/-! ===== the class's RUN: its rows against the pure one ===== -/
def FRc (pf : Nat → Nat → Nat) (s : mjSt3) : List FRM → Prop
  | [] => True
  | f :: fs => (s.1 84 fs.length = nI f.1 ∧ s.1 85 fs.length = nI f.2.1 ∧ s.1 87 fs.length = f.2.2.1 ∧ (∀ v, v < 16 → s.1 88 (16 * fs.length + v) = f.2.2.2.1 v) ∧ ∀ g gs, fs = g :: gs → s.1 86 fs.length = nI (pf g.1 f.2.2.2.2)) ∧ FRc pf s fs
def STc (s : mjSt3) : List Int32 → Prop
  | [] => True
  | v :: st => s.1 89 st.length = v ∧ STc s st
def HPc (T : TT) (L : List CD) (H : HEAP) (s : mjSt3) : Prop := ∀ o, 1 ≤ o → o ≤ H.1 → s.1 81 o = nI (bsH T L H (o - 1)) ∧ s.1 80 (bsH T L H (o - 1)) = nI (H.2 o).1 ∧ s.1 80 (bsH T L H (o - 1) + 1) = nI (nmL L (H.2 o).1) ∧ (∀ i, i < nmL L (H.2 o).1 → s.1 80 (bsH T L H (o - 1) + 2 + i) = nI ((H.2 o).2.1 i)) ∧ ∀ i, i < fldT T L (H.2 o).1 → s.1 80 (bsH T L H (o - 1) + 2 + nmL L (H.2 o).1 + i) = (H.2 o).2.2 i
def SCc (T : TT) (L : List CD) (wm cm : Nat) (A : AMS) (s : mjSt3) : Prop := (s.1 82 8 = nI A.2.2.2.2.2.2.2.2.1 ∧ s.1 82 9 = A.2.2.2.2.2.2.2.2.2.1 ∧ s.1 82 10 = A.2.2.2.2.2.2.2.2.2.2.1 ∧ s.1 82 11 = A.2.2.2.2.2.2.2.2.2.2.2) ∧ (s.1 82 12 = nI A.2.2.2.2.2.2.2.1 ∧ s.1 83 1 = nI A.2.2.2.2.1 ∧ s.1 82 13 = nI A.2.2.2.2.2.1) ∧ (s.1 79 3 = nI (bsH T L A.1 A.1.1) ∧ s.1 79 2 = nI A.1.1 ∧ s.1 83 0 = nI A.2.1.length) ∧ (s.1 79 4 = nI wm ∧ s.1 82 7 = nI cm) ∧ ∀ i, i < 200 → i < A.2.2.2.2.2.1 → s.1 90 i = A.2.2.2.2.2.2.1 i
def CRn (T : TT) (L : List CD) (pf : Nat → Nat → Nat) (wm cm pc : Nat) (A : AMS) (s : mjSt3) : Prop := SCc T L wm cm A s ∧ HPc T L A.1 s ∧ FRc pf s A.2.1 ∧ ∀ f fs, A.2.1 = f :: fs → s.1 82 4 = nI pc ∧ s.1 82 6 = nI A.2.2.2.1.length ∧ STc s A.2.2.2.1
/-- all that the class's RUN changes -/
def chCn (h : Nat) (_ : Nat) : Prop := 79 ≤ h ∧ h ≤ 90
def oCn : mjSt3 → mjSt3 → Prop := offG chCn (fun _ _ => False)
section MJB54
variable {T : TT} {wm cm pc k n d : Nat} {pf : Nat → Nat → Nat} {L : List CD} {H : HEAP} {f : FRM} {fs : List FRM} {st : List Int32} {sc : SCL} {s s' : mjSt3} {A : AMS} {v : Int32}
theorem oCn.wr {h : Nat} {g : Nat → Int32} (hh : 79 ≤ h ∧ h ≤ 90) : oCn s (uI s h g) := offG_of (fun h' j e => by rw [uI_ne _ _ _ _ (fun q => e (by rw [q]; exact hh))]) rfl
theorem FRc.keep (e : ∀ h, 84 ≤ h ∧ h ≤ 88 → s'.1 h = s.1 h) : ∀ (fs : List FRM), FRc pf s fs → FRc pf s' fs
  | [], _ => trivial
  | f :: fs, ⟨⟨a1, a2, a3, a4, a5⟩, a6⟩ => ⟨⟨by rw [e 84 (by omega)]; exact a1, by rw [e 85 (by omega)]; exact a2, by rw [e 87 (by omega)]; exact a3, fun v hv => by rw [e 88 (by omega)]; exact a4 v hv, fun g gs h => by rw [e 86 (by omega)]; exact a5 g gs h⟩, FRc.keep e fs a6⟩
/-- the CALLS below a number -/
theorem FRc.low (e : ∀ h j, 84 ≤ h ∧ h ≤ 87 → j < n → s'.1 h j = s.1 h j) (e5 : ∀ j, j < 16 * n → s'.1 88 j = s.1 88 j) : ∀ (fs : List FRM), fs.length ≤ n → FRc pf s fs → FRc pf s' fs
  | [], _, _ => trivial
  | f :: fs, hl, ⟨⟨a1, a2, a3, a4, a5⟩, a6⟩ => by
    have hl' : fs.length + 1 ≤ n := hl
    exact ⟨⟨by rw [e 84 _ (by omega) (by omega)]; exact a1, by rw [e 85 _ (by omega) (by omega)]; exact a2, by rw [e 87 _ (by omega) (by omega)]; exact a3, fun v hv => by rw [e5 _ (by omega)]; exact a4 v hv, fun g gs h => by rw [e 86 _ (by omega) (by omega)]; exact a5 g gs h⟩, FRc.low e e5 fs (by omega) a6⟩
theorem STc.low : ∀ (st : List Int32), (∀ j, j < st.length → s'.1 89 j = s.1 89 j) → STc s st → STc s' st
  | [], _, _ => trivial
  | v :: st, e, h => ⟨by rw [e _ (Nat.lt_succ_self _)]; exact h.1, STc.low st (fun j hj => e j (Nat.lt_succ_of_lt hj)) h.2⟩
theorem STc.at : ∀ (st : List Int32) (i : Nat), STc s st → i < st.length → s.1 89 (st.length - 1 - i) = st[i]?.getD 0
  | [], i, _, h => by cases h
  | v :: st, 0, h, _ => by
    show s.1 89 (st.length + 1 - 1 - 0) = v
    rw [show st.length + 1 - 1 - 0 = st.length by omega]
    exact h.1
  | v :: st, i + 1, h, hi => by
    have hi' : i < st.length := Nat.lt_of_succ_lt_succ hi
    have := STc.at st i h.2 hi'
    show s.1 89 (st.length + 1 - 1 - (i + 1)) = st[i]?.getD 0
    rw [show st.length + 1 - 1 - (i + 1) = st.length - 1 - i by omega]
    exact this
theorem STc.drop : ∀ (st : List Int32) (i : Nat), STc s st → STc s (st.drop i)
  | st, 0, h => h
  | [], i + 1, h => h
  | v :: st, i + 1, h => STc.drop st i h.2
theorem HPc.keep (h : HPc T L H s) (e : ∀ x, x = 80 ∨ x = 81 → s'.1 x = s.1 x) : HPc T L H s' := by
  intro o o1 o2
  obtain ⟨a1, a2, a3, a4, a5⟩ := h o o1 o2
  exact ⟨by rw [e 81 (by omega)]; exact a1, by rw [e 80 (by omega)]; exact a2, by rw [e 80 (by omega)]; exact a3, fun i hi => by rw [e 80 (by omega)]; exact a4 i hi, fun i hi => by rw [e 80 (by omega)]; exact a5 i hi⟩
/-- the values changed, nothing else -/
theorem CRn.vals (M : CRn T L pf wm cm pc (H, f :: fs, k, st, sc) s) (e82 : ∀ j, ¬ j = 6 → s'.1 82 j = s.1 82 j) (er : ∀ h, 79 ≤ h ∧ h ≤ 90 → ¬ (h = 82 ∨ h = 89) → s'.1 h = s.1 h) {st' : List Int32} (h8 : s'.1 82 6 = nI st'.length) (hS : STc s' st') : CRn T L pf wm cm pc (H, f :: fs, k, st', sc) s' := by
  obtain ⟨⟨⟨a1, a2, a3, a4⟩, ⟨a5, a6, a7⟩, ⟨a8, a9, a10⟩, ⟨a11, a12⟩, a13⟩, hH, hF, hT⟩ := M
  refine ⟨⟨⟨by rw [e82 8 (by omega)]; exact a1, by rw [e82 9 (by omega)]; exact a2, by rw [e82 10 (by omega)]; exact a3, by rw [e82 11 (by omega)]; exact a4⟩, ⟨by rw [e82 12 (by omega)]; exact a5, by rw [er 83 (by omega) (by omega)]; exact a6, by rw [e82 13 (by omega)]; exact a7⟩, ⟨by rw [er 79 (by omega) (by omega)]; exact a8, by rw [er 79 (by omega) (by omega)]; exact a9, by rw [er 83 (by omega) (by omega)]; exact a10⟩, ⟨by rw [er 79 (by omega) (by omega)]; exact a11, by rw [e82 7 (by omega)]; exact a12⟩, fun i h1 h2 => by rw [er 90 (by omega) (by omega)]; exact a13 i h1 h2⟩, hH.keep (fun x hx => er x (by omega) (by omega)), FRc.keep (fun x hx => er x (by omega) (by omega)) _ hF, fun g gs hg => ⟨?_, h8, hS⟩⟩
  rw [e82 4 (by omega)]
  exact (hT g gs hg).1
/-- push -/
theorem x_79 (M : CRn T L pf wm cm pc (H, f :: fs, k, st, sc) s) (hl : st.length < 5120) (v : Int32) : ∃ s', mjF (d + 1) 79 [.ref 82, .int v] (mjW0 s) = some (none, mjW0 s') ∧ oCn s s' ∧ CRn T L pf wm cm pc (H, f :: fs, k, v :: st, sc) s' := by
  obtain ⟨h9, h8, hS⟩ := M.2.2.2 f fs rfl
  have h8' : s.1 82 6 = nI st.length := h8
  obtain ⟨z1, g1⟩ : ∃ y, y = uI s 89 (upd (s.1 89) st.length v) := ⟨_, rfl⟩
  obtain ⟨z2, g2⟩ : ∃ y, y = uI z1 82 (upd (z1.1 82) 6 (nI (st.length + 1))) := ⟨_, rfl⟩
  have r1 : ∀ h, ¬ h = 89 → z1.1 h = s.1 h := fun h e => by rw [g1]; exact uI_ne _ _ _ _ e
  have r2 : ∀ h, ¬ h = 82 → z2.1 h = z1.1 h := fun h e => by rw [g2]; exact uI_ne _ _ _ _ e
  have v82 : ∀ j, z2.1 82 j = if j = 6 then nI (st.length + 1) else s.1 82 j := fun j => by rw [g2, uI_same, upd_g, r1 82 (by decide)]
  have v89 : ∀ j, z2.1 89 j = if j = st.length then v else s.1 89 j := fun j => by rw [r2 89 (by decide), g1, uI_same, upd_g]
  refine ⟨z2, ?_, offG.tr (b := z1) (by rw [g1]; exact oCn.wr (by omega)) (by rw [g2]; exact oCn.wr (by omega)), M.vals (fun j hj => by rw [v82, if_neg hj]) (fun h hh he => by rw [r2 h (by omega), r1 h (by omega)]) (by rw [v82, if_pos rfl]; rfl) ⟨by rw [v89, if_pos rfl], STc.low st (fun j hj => by rw [v89, if_neg (by omega)]) hS⟩⟩
  rw [e_79]
  unfold f_79 b_79_0
  rw [xg_82_6, xg_82_5, xN_89, h8', if_neg (show ¬ Int32.ofNat 5120 ≤ nI st.length from nI_ge (b := 5120) hl (by decide)), xg_82_5, xg_82_6, h8', ws_89 hl, ← g1, xg_82_6, r1 82 (by decide), h8', xp_82_6, nI_1, ← g2]
/-- pop -/
theorem x_80 (M : CRn T L pf wm cm pc (H, f :: fs, k, v :: st, sc) s) (hl : st.length < 5120) : ∃ s', mjF (d + 1) 80 [.ref 82] (mjW0 s) = some (some (.int v), mjW0 s') ∧ oCn s s' ∧ CRn T L pf wm cm pc (H, f :: fs, k, st, sc) s' := by
  obtain ⟨h9, h8, hS⟩ := M.2.2.2 f fs rfl
  have h8' : s.1 82 6 = nI (st.length + 1) := h8
  have hS' : s.1 89 st.length = v ∧ STc s st := hS
  obtain ⟨z1, g1⟩ : ∃ y, y = uI s 82 (upd (s.1 82) 6 (nI st.length)) := ⟨_, rfl⟩
  have r1 : ∀ h, ¬ h = 82 → z1.1 h = s.1 h := fun h e => by rw [g1]; exact uI_ne _ _ _ _ e
  have v82 : ∀ j, z1.1 82 j = if j = 6 then nI st.length else s.1 82 j := fun j => by rw [g1, uI_same, upd_g]
  refine ⟨z1, ?_, by rw [g1]; exact oCn.wr (by omega), M.vals (fun j hj => by rw [v82, if_neg hj]) (fun h hh he => by rw [r1 h (by omega)]) (by rw [v82, if_pos rfl]) (STc.low st (fun j hj => by rw [r1 89 (by decide)]) hS'.2)⟩
  rw [e_80]
  unfold f_80 b_80_0 b_80_17
  rw [xg_82_6, h8', if_neg (nI_nle (by omega) (by omega)), xg_82_6, h8', show nI (st.length + 1) - 1 = nI st.length from nI_pred st.length, xp_82_6, ← g1, xg_82_5, xg_82_6, v82, if_pos rfl, wa_89 hl, r1 89 (by decide), hS'.1]
/-- a TROUBLE ends the RUN -/
theorem x_82 (M : CRn T L pf wm cm pc (H, f :: fs, k, st, sc) s) (x p : Int32) : ∃ s', mjF (d + 2) 82 [.ref 82, .int x, .int p] (mjW0 s) = some (none, mjW0 s') ∧ oCn s s' ∧ ∀ pc', CRn T L pf wm cm pc' (aFail (H, f :: fs, k, st, sc) x p) s' := by
  obtain ⟨z1, g1⟩ : ∃ y, y = uI s 82 (upd (s.1 82) 8 3) := ⟨_, rfl⟩
  obtain ⟨z2, g2⟩ : ∃ y, y = uI z1 82 (upd (z1.1 82) 10 x) := ⟨_, rfl⟩
  obtain ⟨z3, g3⟩ : ∃ y, y = uI z2 82 (upd (z2.1 82) 11 p) := ⟨_, rfl⟩
  obtain ⟨z4, g4⟩ : ∃ y, y = uI z3 83 (upd (z3.1 83) 0 0) := ⟨_, rfl⟩
  have rr : ∀ h, ¬ (h = 82 ∨ h = 83) → z4.1 h = s.1 h := fun h e => by rw [g4, uI_ne _ _ _ _ (by omega), g3, uI_ne _ _ _ _ (by omega), g2, uI_ne _ _ _ _ (by omega), g1, uI_ne _ _ _ _ (by omega)]
  have v82 : ∀ j, z4.1 82 j = if j = 11 then p else if j = 10 then x else if j = 8 then 3 else s.1 82 j := fun j => by rw [g4, uI_ne _ _ _ _ (by decide), g3, uI_same, upd_g, g2, uI_same, upd_g, g1, uI_same, upd_g]
  have v83 : ∀ j, z4.1 83 j = if j = 0 then 0 else s.1 83 j := fun j => by rw [g4, uI_same, upd_g, g3, uI_ne _ _ _ _ (by decide), g2, uI_ne _ _ _ _ (by decide), g1, uI_ne _ _ _ _ (by decide)]
  obtain ⟨⟨⟨a1, a2, a3, a4⟩, ⟨a5, a6, a7⟩, ⟨a8, a9, a10⟩, ⟨a11, a12⟩, a13⟩, hH, hF, hT⟩ := M
  have n : ∀ j, ¬ (j = 11 ∨ j = 10 ∨ j = 8) → z4.1 82 j = s.1 82 j := fun j hj => by rw [v82, if_neg (by omega), if_neg (by omega), if_neg (by omega)]
  refine ⟨z4, ?_, offG.tr (b := z1) (by rw [g1]; exact oCn.wr (by omega)) (offG.tr (b := z2) (by rw [g2]; exact oCn.wr (by omega)) (offG.tr (b := z3) (by rw [g3]; exact oCn.wr (by omega)) (by rw [g4]; exact oCn.wr (by omega)))), fun pc' => ⟨⟨⟨by rw [v82, if_neg (by decide), if_neg (by decide), if_pos rfl]; rfl, by rw [n 9 (by omega)]; exact a2, by rw [v82, if_neg (by decide), if_pos rfl]; rfl, by rw [v82, if_pos rfl]; rfl⟩, ⟨by rw [n 12 (by omega)]; exact a5, by rw [v83, if_neg (by decide)]; exact a6, by rw [n 13 (by omega)]; exact a7⟩, ⟨by rw [rr 79 (by omega)]; exact a8, by rw [rr 79 (by omega)]; exact a9, by rw [v83, if_pos rfl]; rfl⟩, ⟨by rw [rr 79 (by omega)]; exact a11, by rw [n 7 (by omega)]; exact a12⟩, fun i h1 h2 => by rw [rr 90 (by omega)]; exact a13 i h1 h2⟩, hH.keep (fun y hy => rr y (by omega)), trivial, fun g gs hg => by cases hg⟩⟩
  rw [e_82]
  unfold f_82 b_82_0
  rw [xp_82_8, ← g1, xp_82_10, ← g2, xp_82_11, ← g3, xg_82_1, xV_83, e_36]
  unfold f_36 b_36_0
  rw [xp_83_0, ← g4, bN_s]
end MJB54
end
section
/-! ===== the class's CALLS ===== -/
section MJB55
variable {T : TT} {wm cm pc k n d : Nat} {pf : Nat → Nat → Nat} {L : List CD} {H : HEAP} {f g : FRM} {fs gs : List FRM} {st : List Int32} {sc : SCL} {s s' : mjSt3} {A : AMS} {v : Int32}
/-- top -/
theorem x_38 (M : CRn T L pf wm cm pc (H, f :: fs, k, st, sc) s) (hl : fs.length < 40) : mjF (d + 2) 38 [.ref 83] (mjW0 s) = some (some (.int (nI fs.length)), mjW0 s) := by
  have h0 : s.1 83 0 = nI (fs.length + 1) := M.1.2.2.1.2.2
  rw [e_38]
  unfold f_38 b_38_0
  rw [xg_83_0, h0, show nI (fs.length + 1) - 1 = nI fs.length from nI_pred fs.length, q_max, if_pos (show (0 : Int32) ≤ nI fs.length from nI_le (a := 0) (Nat.zero_le _) (by omega)), bI_s]
/-- variableAt -/
theorem x_39 (M : CRn T L pf wm cm pc (H, f :: fs, k, st, sc) s) (hl : fs.length < 40) {x : Nat} (hx : x < 16) : mjF (d + 1) 39 [.ref 83, .int (nI fs.length), .int (nI x)] (mjW0 s) = some (some (.int (f.2.2.2.1 x)), mjW0 s) := by
  rw [e_39]
  unfold f_39 b_39_0
  rw [xg_83_6, show nI fs.length * 16 + nI x = nI (16 * fs.length + x) by rw [show (16 : Int32) = nI 16 from rfl, nI_mul, nI_add, Nat.mul_comm], wa_88 (by omega), M.2.2.1.1.2.2.2.1 x hx]
theorem CRn.frm (M : CRn T L pf wm cm pc (H, f :: fs, k, st, sc) s) (e : ∀ h, 79 ≤ h ∧ h ≤ 90 → ¬ (84 ≤ h ∧ h ≤ 88) → s'.1 h = s.1 h) (hF : FRc pf s' (g :: fs)) : CRn T L pf wm cm pc (H, g :: fs, k, st, sc) s' := by
  obtain ⟨⟨⟨a1, a2, a3, a4⟩, ⟨a5, a6, a7⟩, ⟨a8, a9, a10⟩, ⟨a11, a12⟩, a13⟩, hH, _, hT⟩ := M
  have e82 := e 82 (by omega) (by omega)
  have e83 := e 83 (by omega) (by omega)
  have e79 := e 79 (by omega) (by omega)
  refine ⟨⟨⟨by rw [e82]; exact a1, by rw [e82]; exact a2, by rw [e82]; exact a3, by rw [e82]; exact a4⟩, ⟨by rw [e82]; exact a5, by rw [e83]; exact a6, by rw [e82]; exact a7⟩, ⟨by rw [e79]; exact a8, by rw [e79]; exact a9, by rw [e83]; exact a10⟩, ⟨by rw [e79]; exact a11, by rw [e82]; exact a12⟩, fun i h1 h2 => by rw [e 90 (by omega) (by omega)]; exact a13 i h1 h2⟩, hH.keep (fun x hx => e x (by omega) (by omega)), hF, fun g' gs' hg => ?_⟩
  obtain ⟨c1, c2, c3⟩ := hT f fs rfl
  exact ⟨by rw [e82]; exact c1, by rw [e82]; exact c2, STc.low _ (fun j _ => by rw [e 89 (by omega) (by omega)]) c3⟩
/-- setVariable -/
theorem x_40 (M : CRn T L pf wm cm pc (H, f :: fs, k, st, sc) s) (hl : fs.length < 40) {x : Nat} (hx : x < 16) (v : Int32) : ∃ s', mjF (d + 3) 40 [.ref 83, .int (nI x), .int v] (mjW0 s) = some (none, mjW0 s') ∧ oCn s s' ∧ CRn T L pf wm cm pc (H, setV f x v :: fs, k, st, sc) s' := by
  obtain ⟨z1, g1⟩ : ∃ y, y = uI s 88 (upd (s.1 88) (16 * fs.length + x) v) := ⟨_, rfl⟩
  have r1 : ∀ h, ¬ h = 88 → z1.1 h = s.1 h := fun h e => by rw [g1]; exact uI_ne _ _ _ _ e
  have v88 : ∀ j, z1.1 88 j = if j = 16 * fs.length + x then v else s.1 88 j := fun j => by rw [g1, uI_same, upd_g]
  obtain ⟨⟨b1, b2', b3, b4, b5⟩, b6⟩ := M.2.2.1
  refine ⟨z1, ?_, by rw [g1]; exact oCn.wr (by omega), M.frm (fun h h1 h2 => r1 h (by omega)) ⟨⟨by rw [r1 84 (by decide)]; exact b1, by rw [r1 85 (by decide)]; exact b2', by rw [r1 87 (by decide)]; exact b3, fun y hy => ?_, fun g gs hg => by rw [r1 86 (by decide)]; exact b5 g gs hg⟩, FRc.low (n := fs.length) (fun h j h1 h2 => by rw [r1 h (by omega)]) (fun j hj => by rw [v88, if_neg (by omega)]) fs (Nat.le_refl _) b6⟩⟩
  · rw [e_40]
    unfold f_40 b_40_0
    rw [xg_83_6, xV_83, x_38 M hl, bI_s, show nI fs.length * 16 + nI x = nI (16 * fs.length + x) by rw [show (16 : Int32) = nI 16 from rfl, nI_mul, nI_add, Nat.mul_comm], ws_88 (by omega), ← g1]
  · rw [v88]
    show _ = if y = x then v else f.2.2.2.1 y
    by_cases q : y = x
    · rw [if_pos q, if_pos (by omega)]
    · rw [if_neg q, if_neg (by omega)]; exact b4 y hy
/-- sayNumber -/
theorem x_83 (M : CRn T L pf wm cm pc (H, f :: fs, k, st, sc) s) (hs : sc.2.1 < 100000000) (v : Int32) : ∃ s', mjF (d + 1) 83 [.ref 82, .int v] (mjW0 s) = some (none, mjW0 s') ∧ oCn s s' ∧ CRn T L pf wm cm pc (H, f :: fs, k, st, sc.1, sc.2.1 + 1, (fun i => if i = sc.2.1 ∧ i < 200 then v else sc.2.2.1 i), sc.2.2.2) s' := by
  obtain ⟨⟨⟨a1, a2, a3, a4⟩, ⟨a5, a6, a7⟩, ⟨a8, a9, a10⟩, ⟨a11, a12⟩, a13⟩, hH, hF, hT⟩ := M
  have h13 : s.1 82 13 = nI sc.2.1 := a7
  obtain ⟨z1, g1⟩ : ∃ y, y = (if 200 ≤ sc.2.1 then s else uI s 90 (upd (s.1 90) sc.2.1 v)) := ⟨_, rfl⟩
  obtain ⟨z2, g2⟩ : ∃ y, y = uI z1 82 (upd (z1.1 82) 13 (nI (sc.2.1 + 1))) := ⟨_, rfl⟩
  have r1 : ∀ h, ¬ h = 90 → z1.1 h = s.1 h := by
    intro h e
    rw [g1]
    by_cases q : 200 ≤ sc.2.1
    · rw [if_pos q]
    · rw [if_neg q]; exact uI_ne _ _ _ _ e
  have o1 : oCn s z1 := by
    rw [g1]
    by_cases q : 200 ≤ sc.2.1
    · rw [if_pos q]; exact offG.rf
    · rw [if_neg q]; exact oCn.wr (by omega)
  have rr : ∀ h, ¬ (h = 82 ∨ h = 90) → z2.1 h = s.1 h := fun h e => by rw [g2, uI_ne _ _ _ _ (by omega), r1 h (by omega)]
  have v82 : ∀ j, z2.1 82 j = if j = 13 then nI (sc.2.1 + 1) else s.1 82 j := fun j => by rw [g2, uI_same, upd_g, r1 82 (by decide)]
  have n : ∀ j, ¬ j = 13 → z2.1 82 j = s.1 82 j := fun j hj => by rw [v82, if_neg hj]
  refine ⟨z2, ?_, offG.tr o1 (by rw [g2]; exact oCn.wr (by omega)), ⟨⟨by rw [n 8 (by omega)]; exact a1, by rw [n 9 (by omega)]; exact a2, by rw [n 10 (by omega)]; exact a3, by rw [n 11 (by omega)]; exact a4⟩, ⟨by rw [n 12 (by omega)]; exact a5, by rw [rr 83 (by omega)]; exact a6, by rw [v82, if_pos rfl]⟩, ⟨by rw [rr 79 (by omega)]; exact a8, by rw [rr 79 (by omega)]; exact a9, by rw [rr 83 (by omega)]; exact a10⟩, ⟨by rw [rr 79 (by omega)]; exact a11, by rw [n 7 (by omega)]; exact a12⟩, fun i h1 h2 => ?_⟩, hH.keep (fun x hx => rr x (by omega)), FRc.keep (fun x hx => rr x (by omega)) _ hF, fun g gs hg => ?_⟩
  · rw [e_83]
    unfold f_83 b_83_0 b_83_20
    rw [xg_82_13, h13]
    by_cases q : 200 ≤ sc.2.1
    · rw [if_pos (show (200 : Int32) ≤ nI sc.2.1 from nI_le (a := 200) q (by omega))]
      rw [if_pos q] at g1
      rw [xg_82_13, h13, xp_82_13, nI_1, g2, g1]
    · rw [if_neg (show ¬ (200 : Int32) ≤ nI sc.2.1 from nI_ge (b := 200) (by omega) (by decide))]
      rw [if_neg q] at g1
      rw [xg_82_14, xg_82_13, h13, ws_90 (by omega), ← g1, xg_82_13, r1 82 (by decide), h13, xp_82_13, nI_1, g2]
  · show z2.1 90 i = if i = sc.2.1 ∧ i < 200 then v else sc.2.2.1 i
    have h2' : i < sc.2.1 + 1 := h2
    rw [g2, uI_ne _ _ _ _ (by decide), g1]
    by_cases q : 200 ≤ sc.2.1
    · rw [if_pos q, if_neg (by omega)]
      exact a13 i h1 (show i < sc.2.1 by omega)
    · rw [if_neg q, uI_same, upd_g]
      by_cases e : i = sc.2.1
      · rw [if_pos e, if_pos ⟨e, h1⟩]
      · rw [if_neg e, if_neg (fun x => e x.1)]
        exact a13 i h1 (show i < sc.2.1 by omega)
  · obtain ⟨c1, c2, c3⟩ := hT g gs hg
    exact ⟨by rw [n 4 (by omega)]; exact c1, by rw [n 6 (by omega)]; exact c2, STc.low _ (fun j _ => by rw [rr 89 (by omega)]) c3⟩
/-- giveBack ahead of main's end -/
theorem x_84n (M : CRn T L pf wm cm pc (H, [f], k, st, sc) s) (v : Int32) : ∃ s', mjF (d + 3) 84 [.ref 82, .int v] (mjW0 s) = some (none, mjW0 s') ∧ oCn s s' ∧ ∀ pc', CRn T L pf wm cm pc' (aRet (H, [f], k, st, sc) f [] v) s' := by
  have x38 := x_38 (d := d) M (show ([] : List FRM).length < 40 by decide)
  obtain ⟨⟨⟨a1, a2, a3, a4⟩, ⟨a5, a6, a7⟩, ⟨a8, a9, a10⟩, ⟨a11, a12⟩, a13⟩, hH, hF, hT⟩ := M
  obtain ⟨z1, g1⟩ : ∃ y, y = uI s 83 (upd (s.1 83) 0 0) := ⟨_, rfl⟩
  obtain ⟨z2, g2⟩ : ∃ y, y = uI z1 82 (upd (z1.1 82) 8 2) := ⟨_, rfl⟩
  obtain ⟨z3, g3⟩ : ∃ y, y = uI z2 82 (upd (z2.1 82) 9 v) := ⟨_, rfl⟩
  have rr : ∀ h, ¬ (h = 82 ∨ h = 83) → z3.1 h = s.1 h := fun h e => by rw [g3, uI_ne _ _ _ _ (by omega), g2, uI_ne _ _ _ _ (by omega), g1, uI_ne _ _ _ _ (by omega)]
  have v82 : ∀ j, z3.1 82 j = if j = 9 then v else if j = 8 then 2 else s.1 82 j := fun j => by rw [g3, uI_same, upd_g, g2, uI_same, upd_g, g1, uI_ne _ _ _ _ (by decide)]
  have v83 : ∀ j, z3.1 83 j = if j = 0 then 0 else s.1 83 j := fun j => by rw [g3, uI_ne _ _ _ _ (by decide), g2, uI_ne _ _ _ _ (by decide), g1, uI_same, upd_g]
  have n : ∀ j, ¬ (j = 9 ∨ j = 8) → z3.1 82 j = s.1 82 j := fun j hj => by rw [v82, if_neg (by omega), if_neg (by omega)]
  refine ⟨z3, ?_, offG.tr (b := z1) (by rw [g1]; exact oCn.wr (by omega)) (offG.tr (b := z2) (by rw [g2]; exact oCn.wr (by omega)) (by rw [g3]; exact oCn.wr (by omega))), fun pc' => ⟨⟨⟨by rw [v82, if_neg (by decide), if_pos rfl]; rfl, by rw [v82, if_pos rfl]; rfl, by rw [n 10 (by omega)]; exact a3, by rw [n 11 (by omega)]; exact a4⟩, ⟨by rw [n 12 (by omega)]; exact a5, by rw [v83, if_neg (by decide)]; exact a6, by rw [n 13 (by omega)]; exact a7⟩, ⟨by rw [rr 79 (by omega)]; exact a8, by rw [rr 79 (by omega)]; exact a9, by rw [v83, if_pos rfl]; rfl⟩, ⟨by rw [rr 79 (by omega)]; exact a11, by rw [n 7 (by omega)]; exact a12⟩, fun i h1 h2 => by rw [rr 90 (by omega)]; exact a13 i h1 h2⟩, hH.keep (fun y hy => rr y (by omega)), trivial, fun g gs hg => by cases hg⟩⟩
  rw [e_84]
  unfold f_84 b_84_0
  rw [xg_82_1, xV_83, x38, bI_s, xg_82_1, show nI ([] : List FRM).length = 0 from rfl, xp_83_0, ← g1, if_pos rfl, xp_82_8, ← g2, xp_82_9, ← g3]
/-- giveBack to a CALL that waits -/
theorem x_84c (M : CRn T L pf wm cm pc (H, f :: g :: gs, k, st, sc) s) (hl : gs.length + 1 < 40) (hs : st.length < 5120) (v : Int32) : ∃ s', mjF (d + 3) 84 [.ref 82, .int v] (mjW0 s) = some (none, mjW0 s') ∧ oCn s s' ∧ CRn T L pf wm cm (pf g.1 f.2.2.2.2) (aRet (H, f :: g :: gs, k, st, sc) f (g :: gs) v) s' := by
  have x38 := x_38 (d := d) M hl
  obtain ⟨⟨⟨a1, a2, a3, a4⟩, ⟨a5, a6, a7⟩, ⟨a8, a9, a10⟩, ⟨a11, a12⟩, a13⟩, hH, hF, hT⟩ := M
  obtain ⟨⟨b1, b2', b3, b4, b5⟩, b6⟩ := hF
  have b5' := b5 g gs rfl
  obtain ⟨z1, g1⟩ : ∃ y, y = uI s 83 (upd (s.1 83) 0 (nI (g :: gs).length)) := ⟨_, rfl⟩
  obtain ⟨z2, g2⟩ : ∃ y, y = uI z1 82 (upd (z1.1 82) 4 (nI (pf g.1 f.2.2.2.2))) := ⟨_, rfl⟩
  have rr : ∀ h, ¬ (h = 82 ∨ h = 83) → z2.1 h = s.1 h := fun h e => by rw [g2, uI_ne _ _ _ _ (by omega), g1, uI_ne _ _ _ _ (by omega)]
  have v82 : ∀ j, z2.1 82 j = if j = 4 then nI (pf g.1 f.2.2.2.2) else s.1 82 j := fun j => by rw [g2, uI_same, upd_g, g1, uI_ne _ _ _ _ (by decide)]
  have v83 : ∀ j, z2.1 83 j = if j = 0 then nI (g :: gs).length else s.1 83 j := fun j => by rw [g2, uI_ne _ _ _ _ (by decide), g1, uI_same, upd_g]
  have n : ∀ j, ¬ j = 4 → z2.1 82 j = s.1 82 j := fun j hj => by rw [v82, if_neg hj]
  have M2 : CRn T L pf wm cm (pf g.1 f.2.2.2.2) (H, g :: gs, f.2.2.2.2, st, sc) z2 := by
    refine ⟨⟨⟨by rw [n 8 (by omega)]; exact a1, by rw [n 9 (by omega)]; exact a2, by rw [n 10 (by omega)]; exact a3, by rw [n 11 (by omega)]; exact a4⟩, ⟨by rw [n 12 (by omega)]; exact a5, by rw [v83, if_neg (by decide)]; exact a6, by rw [n 13 (by omega)]; exact a7⟩, ⟨by rw [rr 79 (by omega)]; exact a8, by rw [rr 79 (by omega)]; exact a9, by rw [v83, if_pos rfl]⟩, ⟨by rw [rr 79 (by omega)]; exact a11, by rw [n 7 (by omega)]; exact a12⟩, fun i h1 h2 => by rw [rr 90 (by omega)]; exact a13 i h1 h2⟩, hH.keep (fun y hy => rr y (by omega)), FRc.keep (fun x hx => rr x (by omega)) _ b6, fun g' gs' hg => ?_⟩
    obtain ⟨c1, c2, c3⟩ := hT f (g :: gs) rfl
    exact ⟨by rw [v82, if_pos rfl], by rw [n 6 (by omega)]; exact c2, STc.low _ (fun j _ => by rw [rr 89 (by omega)]) c3⟩
  obtain ⟨s', e1, e2, e3⟩ := x_79 (d := d + 1) M2 hs v
  refine ⟨s', ?_, offG.tr (b := z1) (by rw [g1]; exact oCn.wr (by omega)) (offG.tr (b := z2) (by rw [g2]; exact oCn.wr (by omega)) e2), e3⟩
  have z : ¬ nI (g :: gs).length = 0 := fun q => by
    have := (nI_eq (a := (g :: gs).length) (b := 0) (by have : (g :: gs).length = gs.length + 1 := rfl; omega) (by omega)).mp q
    cases this
  rw [e_84]
  unfold f_84 b_84_0
  rw [xg_82_1, xV_83, x38, bI_s, xg_82_1, xp_83_0, ← g1, if_neg z, xg_82_1, xg_83_4, wa_86 (show (g :: gs).length < 40 from hl), g1, uI_ne _ _ _ _ (by decide), b5', ← g1, xp_82_4, ← g2, xV_82, e1, bN_s]
end MJB55
end
section
/-! ===== the class's OBJECTS ===== -/
section MJB56
variable {T : TT} {wm cm pc k n d i o o1 o2 c : Nat} {pf : Nat → Nat → Nat} {L : List CD} {H H' : HEAP} {f g : FRM} {fs gs : List FRM} {st : List Int32} {sc : SCL} {s s' : mjSt3} {A : AMS} {v : Int32} {ow : Nat → Nat}
theorem bs_end (T : TT) (L : List CD) (H : HEAP) (a1 : 1 ≤ o) : bsH T L H o = bsH T L H (o - 1) + 2 + nmL L (H.2 o).1 + fldT T L (H.2 o).1 := by
  have e : bsH T L H o = bsH T L H (o - 1) + szO T L (H.2 o).1 := by
    have : o = (o - 1) + 1 := by omega
    rw [this]
    rfl
  unfold szO at e
  omega
theorem bs_at (T : TT) (L : List CD) (H : HEAP) (a1 : 1 ≤ o) (a2 : o ≤ H.1) : bsH T L H (o - 1) + 2 + nmL L (H.2 o).1 + fldT T L (H.2 o).1 ≤ bsH T L H H.1 := by
  have e := bs_end T L H a1
  have g := bs_mono T L H o (H.1 - o)
  rw [show o + (H.1 - o) = H.1 by omega] at g
  omega
theorem bs_sp (T : TT) (L : List CD) (H : HEAP) (a1 : 1 ≤ o1) (a2 : o1 < o2) : bsH T L H (o1 - 1) + 2 + nmL L (H.2 o1).1 + fldT T L (H.2 o1).1 ≤ bsH T L H (o2 - 1) := by
  have e := bs_end T L H a1
  have g := bs_mono T L H o1 (o2 - 1 - o1)
  rw [show o1 + (o2 - 1 - o1) = o2 - 1 by omega] at g
  omega
/-- has -/
theorem x_43z : mjF (d + 1) 43 [.ref 79, .int 0] (mjW0 s) = some (some (.int 0), mjW0 s) := by
  rw [e_43]
  unfold f_43 b_43_0 b_43_16
  rw [if_pos (by decide)]
theorem x_43o (h2 : s.1 79 2 = nI H.1) (hH : H.1 < 100000) (a1 : 1 ≤ o) (a2 : o ≤ H.1) : mjF (d + 1) 43 [.ref 79, .int (nI o)] (mjW0 s) = some (some (.int 1), mjW0 s) := by
  rw [e_43]
  unfold f_43 b_43_0
  rw [if_neg (nI_nle (by omega) (by omega)), xg_79_2, h2, if_neg (nI_nlt a2 (by omega))]
/-- what an OBJECT's rows need -/
def HBs (T : TT) (L : List CD) (H : HEAP) : Prop := bsH T L H H.1 ≤ 4000 ∧ 3 * H.1 ≤ bsH T L H H.1
theorem HBs.lt (B : HBs T L H) (a2 : o ≤ H.1) : o < 1335 := by
  have := B.1
  have := B.2
  omega
/-- classOf -/
theorem x_46 (hH : HPc T L H s) (B : HBs T L H) (a1 : 1 ≤ o) (a2 : o ≤ H.1) : mjF (d + 1) 46 [.ref 79, .int (nI o)] (mjW0 s) = some (some (.int (nI (H.2 o).1)), mjW0 s) := by
  have b := bs_at T L H a1 a2
  have b1 := B.1
  obtain ⟨h1, h2, h3, h4, h5⟩ := hH o a1 a2
  rw [e_46]
  unfold f_46 b_46_0
  rw [xg_79_0, xg_79_1, wa_81 (B.lt a2), h1, wa_80 (by omega), h2]
/-- ownersOf -/
theorem x_48 (hH : HPc T L H s) (B : HBs T L H) (a1 : 1 ≤ o) (a2 : o ≤ H.1) : mjF (d + 1) 48 [.ref 79, .int (nI o)] (mjW0 s) = some (some (.int (nI (nmL L (H.2 o).1))), mjW0 s) := by
  have b := bs_at T L H a1 a2
  have b1 := B.1
  obtain ⟨h1, h2, h3, h4, h5⟩ := hH o a1 a2
  rw [e_48]
  unfold f_48 b_48_0
  rw [xg_79_0, xg_79_1, wa_81 (B.lt a2), h1, nI_1, wa_80 (by omega), h3]
/-- ownerAt -/
theorem x_49 (hH : HPc T L H s) (B : HBs T L H) (a1 : 1 ≤ o) (a2 : o ≤ H.1) (hi : i < nmL L (H.2 o).1) : mjF (d + 1) 49 [.ref 79, .int (nI o), .int (nI i)] (mjW0 s) = some (some (.int (nI ((H.2 o).2.1 i))), mjW0 s) := by
  have b := bs_at T L H a1 a2
  have b1 := B.1
  obtain ⟨h1, h2, h3, h4, h5⟩ := hH o a1 a2
  rw [e_49]
  unfold f_49 b_49_0
  rw [xg_79_0, xg_79_1, wa_81 (B.lt a2), h1, show nI (bsH T L H (o - 1)) + 2 + nI i = nI (bsH T L H (o - 1) + 2 + i) by rw [show (2 : Int32) = nI 2 from rfl, nI_add, nI_add], wa_80 (by omega), h4 i hi]
/-- fieldAt -/
theorem x_45 (hH : HPc T L H s) (B : HBs T L H) (a1 : 1 ≤ o) (a2 : o ≤ H.1) (hi : i < fldT T L (H.2 o).1) : mjF (d + 1) 45 [.ref 79, .int (nI o), .int (nI i)] (mjW0 s) = some (some (.int ((H.2 o).2.2 i)), mjW0 s) := by
  have b := bs_at T L H a1 a2
  have b1 := B.1
  obtain ⟨h1, h2, h3, h4, h5⟩ := hH o a1 a2
  rw [e_45]
  unfold f_45 b_45_0
  rw [xg_79_1, wa_81 (B.lt a2), h1, xg_79_0, xg_79_0, nI_1, wa_80 (by omega), h3, show nI (bsH T L H (o - 1)) + 2 + nI (nmL L (H.2 o).1) + nI i = nI (bsH T L H (o - 1) + 2 + nmL L (H.2 o).1 + i) by rw [show (2 : Int32) = nI 2 from rfl, nI_add, nI_add, nI_add], wa_80 (by omega), h5 i hi]
theorem HPc.set (h : HPc T L H s) (a1 : 1 ≤ o1) (a2 : o1 ≤ H.1) (hi : i < fldT T L (H.2 o1).1) (e1 : s'.1 81 = s.1 81) (e0 : ∀ x, s'.1 80 x = if x = bsH T L H (o1 - 1) + 2 + nmL L (H.2 o1).1 + i then v else s.1 80 x) : HPc T L (setF H o1 i v) s' := by
  intro o p1 p2
  have p2' : o ≤ H.1 := p2
  obtain ⟨h1, h2, h3, h4, h5⟩ := h o p1 p2'
  have ec : ((setF H o1 i v).2 o).1 = (H.2 o).1 := HX.set.2 o p1 p2'
  have eb : bsH T L (setF H o1 i v) (o - 1) = bsH T L H (o - 1) := bs_same (H := H) (fun o p1 p2 => HX.set.2 o p1 p2) (o - 1) (by omega)
  have ex : (setF H o1 i v).2 o = if o = o1 then ((H.2 o1).1, (H.2 o1).2.1, fun y => if y = i then v else (H.2 o1).2.2 y) else H.2 o := rfl
  have sep : ¬ o = o1 → bsH T L H (o - 1) + 2 + nmL L (H.2 o).1 + fldT T L (H.2 o).1 ≤ bsH T L H (o1 - 1) ∨ bsH T L H (o1 - 1) + 2 + nmL L (H.2 o1).1 + fldT T L (H.2 o1).1 ≤ bsH T L H (o - 1) := by
    intro ne
    by_cases q : o < o1
    · exact Or.inl (bs_sp T L H p1 q)
    · exact Or.inr (bs_sp T L H a1 (by omega))
  have ne : ∀ x, (x = bsH T L H (o - 1) ∨ x = bsH T L H (o - 1) + 1 ∨ ∃ y, y < nmL L (H.2 o).1 ∧ x = bsH T L H (o - 1) + 2 + y) → ¬ x = bsH T L H (o1 - 1) + 2 + nmL L (H.2 o1).1 + i := by
    intro x hx q
    by_cases e : o = o1
    · rw [e] at hx
      rcases hx with hx | hx | ⟨y, hy, hx⟩ <;> omega
    · rcases sep e with g | g
      · rcases hx with hx | hx | ⟨y, hy, hx⟩ <;> omega
      · rcases hx with hx | hx | ⟨y, hy, hx⟩ <;> omega
  rw [eb, ec, e1]
  refine ⟨h1, by rw [e0, if_neg (ne _ (Or.inl rfl))]; exact h2, by rw [e0, if_neg (ne _ (Or.inr (Or.inl rfl)))]; exact h3, fun y hy => ?_, fun y hy => ?_⟩
  · rw [e0, if_neg (ne _ (Or.inr (Or.inr ⟨y, hy, rfl⟩))), h4 y hy, ex]
    by_cases e : o = o1
    · rw [if_pos e, e]
    · rw [if_neg e]
  · rw [e0, ex]
    by_cases e : o = o1
    · rw [if_pos e, e]
      dsimp only
      by_cases q : y = i
      · rw [if_pos q, if_pos (by omega)]
      · rw [if_neg q, if_neg (by omega)]
        rw [e] at h5 hy
        exact h5 y hy
    · rw [if_neg e, if_neg (fun q => by rcases sep e with g | g <;> omega)]
      exact h5 y hy
theorem CRn.hps (M : CRn T L pf wm cm pc (H, f :: fs, k, st, sc) s) (e : ∀ h, 79 ≤ h ∧ h ≤ 90 → ¬ h = 80 → s'.1 h = s.1 h) (hb : bsH T L H' H'.1 = bsH T L H H.1) (hc : H'.1 = H.1) (hH : HPc T L H' s') : CRn T L pf wm cm pc (H', f :: fs, k, st, sc) s' := by
  obtain ⟨⟨⟨a1, a2, a3, a4⟩, ⟨a5, a6, a7⟩, ⟨a8, a9, a10⟩, ⟨a11, a12⟩, a13⟩, _, hF, hT⟩ := M
  have e82 := e 82 (by omega) (by omega)
  have e83 := e 83 (by omega) (by omega)
  have e79 := e 79 (by omega) (by omega)
  refine ⟨⟨⟨by rw [e82]; exact a1, by rw [e82]; exact a2, by rw [e82]; exact a3, by rw [e82]; exact a4⟩, ⟨by rw [e82]; exact a5, by rw [e83]; exact a6, by rw [e82]; exact a7⟩, ⟨by rw [e79]; exact a8.trans (congrArg nI hb.symm), by rw [e79]; exact a9.trans (congrArg nI hc.symm), by rw [e83]; exact a10⟩, ⟨by rw [e79]; exact a11, by rw [e82]; exact a12⟩, fun i h1 h2 => by rw [e 90 (by omega) (by omega)]; exact a13 i h1 h2⟩, hH, FRc.keep (fun x hx => e x (by omega) (by omega)) _ hF, fun g' gs' hg => ?_⟩
  obtain ⟨c1, c2, c3⟩ := hT f fs rfl
  exact ⟨by rw [e82]; exact c1, by rw [e82]; exact c2, STc.low _ (fun j _ => by rw [e 89 (by omega) (by omega)]) c3⟩
/-- setField -/
theorem x_44 (M : CRn T L pf wm cm pc (H, f :: fs, k, st, sc) s) (B : HBs T L H) (a1 : 1 ≤ o) (a2 : o ≤ H.1) (hi : i < fldT T L (H.2 o).1) (v : Int32) : ∃ s', mjF (d + 1) 44 [.ref 79, .int (nI o), .int (nI i), .int v] (mjW0 s) = some (none, mjW0 s') ∧ oCn s s' ∧ CRn T L pf wm cm pc (setF H o i v, f :: fs, k, st, sc) s' := by
  have b := bs_at T L H a1 a2
  have b1 := B.1
  obtain ⟨h1, h2, h3, h4, h5⟩ := M.2.1 o a1 a2
  obtain ⟨z1, g1⟩ : ∃ y, y = uI s 80 (upd (s.1 80) (bsH T L H (o - 1) + 2 + nmL L (H.2 o).1 + i) v) := ⟨_, rfl⟩
  have r1 : ∀ h, ¬ h = 80 → z1.1 h = s.1 h := fun h e => by rw [g1]; exact uI_ne _ _ _ _ e
  refine ⟨z1, ?_, by rw [g1]; exact oCn.wr (by omega), M.hps (fun h _ e => r1 h e) (bs_same (H := H) (fun o p1 p2 => HX.set.2 o p1 p2) H.1 (Nat.le_refl _)) rfl (M.2.1.set a1 a2 hi (r1 81 (by decide)) (fun x => by rw [g1, uI_same, upd_g]))⟩
  have h1' : s.1 81 o = nI (bsH T L H (o - 1)) := h1
  have h3' : s.1 80 (bsH T L H (o - 1) + 1) = nI (nmL L (H.2 o).1) := h3
  rw [e_44]
  unfold f_44 b_44_0
  rw [xg_79_1, wa_81 (B.lt a2), h1', xg_79_0, xg_79_0, nI_1, wa_80 (by omega), h3', show nI (bsH T L H (o - 1)) + 2 + nI (nmL L (H.2 o).1) + nI i = nI (bsH T L H (o - 1) + 2 + nmL L (H.2 o).1 + i) by rw [show (2 : Int32) = nI 2 from rfl, nI_add, nI_add, nI_add], ws_80 (by omega), ← g1]
end MJB56
end
section
/-! ===== the class's RUN: OWNERS ===== -/
/-- what the class's RUN reads of the program's heads -/
def CPH (T : TT) (L : List CD) (q : Nat) (s : mjSt3) : Prop := PG T L q s ∧ s.2.2 82 2 = q ∧ s.2.2 82 3 = q + 24
def FCL (T : TT) (L : List CD) (H : HEAP) (f : FRM) : Prop := (f.1 = 384 ∧ f.2.1 = 0) ∨ (f.1 < nMem L ∧ mSM L f.1 = true ∧ 1 ≤ f.2.1 ∧ f.2.1 ≤ H.1 ∧ (vwT (nmL L) (abT T L) (H.2 f.2.1).1 (hmM L f.1)).isSome = true)
section MJB57
variable {T : TT} {N wm cm pc k n d i o q w x kk : Nat} {pf : Nat → Nat → Nat} {L : List CD} {H H' : HEAP} {f g : FRM} {fs gs : List FRM} {st : List Int32} {sc : SCL} {s s' : mjSt3} {A : AMS} {v : Int32}
/-- ownerSeen -/
theorem x_93 (hH : HPc T L H s) (B : HBs T L H) (a1 : 1 ≤ o) (a2 : o ≤ H.1) (n5 : nmL L (H.2 o).1 ≤ 5) (hw : w < 524288) (hi : i ≤ 4) : mjF (d + 2) 93 [.ref 82, .int (nI o), .int (nI w), .int (nI i)] (mjW0 s) = some (some (.int (nI (if oK w i < nmL L (H.2 o).1 then (H.2 o).2.1 (oK w i) else 0))), mjW0 s) := by
  have o8 := oK_lt w i
  rw [e_93]
  unfold f_93 b_93_0
  rw [x_106 (by omega) hi, bI_s, xg_82_0, xV_79, x_48 hH B a1 a2, bI_s]
  by_cases q : oK w i < nmL L (H.2 o).1
  · rw [if_pos q, if_neg (nI_ge q (by omega)), xg_82_0, xV_79, x_49 hH B a1 a2 q, bI_s]
  · rw [if_neg q, if_pos (nI_le (by omega) (by omega))]
    rfl
/-- ownerHere -/
theorem x_92 (hn : HN T N L) (M : CRn T L pf wm cm pc (H, f :: fs, k, st, sc) s) (C : CPH T L q s) (B : HBs T L H) (hO : HOK T L H) (F : FCL T L H f) (hl : fs.length < 40) (hx : x ≤ 6) : mjF (d + 3) 92 [.ref 82, .int (nI x)] (mjW0 s) = some (some (.int (nI (hereO T L H f.1 f.2.1 x))), mjW0 s) := by
  obtain ⟨⟨g1, g2, g3, g4⟩, ⟨g5, g6, g7⟩, g8, g9, g10, g11, g12, g13, g14⟩ := C.1
  obtain ⟨⟨b1, b2', b3, b4, b5⟩, b6⟩ := M.2.2.1
  have h79 : s.1 79 2 = nI H.1 := M.1.2.2.1.2.1
  have hH : HPc T L H s := M.2.1
  have hb := B.1
  have hb2 := B.2
  have l16 := hn.1
  rw [e_92]
  unfold f_92 b_92_0 b_92_34 hereO
  rw [xg_82_1, xV_83, x_38 M hl, bI_s, xg_82_1, xg_83_3, wa_85 hl, b2']
  by_cases x5 : x = 5
  · rw [x5, if_pos (show nI 5 = (5 : Int32) from rfl), if_pos (Or.inl rfl)]
    rfl
  have x5' : ¬ nI x = (5 : Int32) := fun e => x5 ((nI_eq (b := 5) (by omega) (by decide)).mp e)
  rw [if_neg x5', xg_82_0, xV_79]
  rcases F with ⟨f1, f2⟩ | ⟨f1, f2, f3, f4, f5⟩
  · rw [f2, show nI 0 = (0 : Int32) from rfl, x_43z, bI_s, if_pos rfl, if_pos (Or.inr rfl)]
    rfl
  rw [x_43o h79 (by omega) f3 f4, bI_s, if_neg (show ¬ ((1 : Int32) = 0) by decide), if_neg (show ¬ (x = 5 ∨ f.2.1 = 0) by omega)]
  by_cases x6 : x = 6
  · rw [x6, if_pos (show nI 6 = (6 : Int32) from rfl), if_pos rfl]
  have x6' : ¬ nI x = (6 : Int32) := fun e => x6 ((nI_eq (b := 6) (by omega) (by decide)).mp e)
  obtain ⟨u1, u2, u3, u4⟩ := g12 f.1 f1
  have cl := (hO f.2.1 f3 f4).1
  have n5 := (vK.n5 hn cl).2
  have m384 := g11.2
  rw [if_neg x6', if_neg x6, xg_82_2, xg_82_0, xV_79, x_46 hH B f3 f4, bI_s, xg_82_2, C.2.1, yg_14 g1, ymg_2 g1, xg_82_1, xg_83_2, wa_84 hl, b1, wya_16 g1 (by omega), u1, yV g1, x_view g1 (by omega) (by omega), bI_s, g7 _ (by omega) _ (by omega), if_pos cl, xV_82]
  unfold seenO
  cases hv : vwT (nmL L) (abT T L) (H.2 f.2.1).1 (hmM L f.1) with
  | none => rw [hv] at f5; cases f5
  | some y =>
    have vv := (vw_v hn cl hv).1
    rw [oI_s, x_93 hH B f3 f4 n5 (vv.lt hn) (by omega), bI_s]
theorem L94_S (R : mjR) (n a : Nat) (b c e f' g' h : Int32) (hp : mjH) : L_94_51 R (n + 1) a b c e f' g' h hp = b_94_51 R (L_94_51 R n) a b c e f' g' h hp := rfl
theorem lq_94 (hn : HN T N L) (M : CRn T L pf wm cm pc (H, f :: fs, k, st, sc) s) (C : CPH T L q s) (B : HBs T L H) (hO : HOK T L H) (F : FCL T L H f) (hl : fs.length < 40) (a1 : 1 ≤ o) (a2 : o ≤ H.1) (vk : vK L kk) (hvw : vwT (nmL L) (abT T L) (H.2 o).1 (cK kk) = some w) : ∀ (r i n : Nat) (y : Bool), i + r = nmL L (cK kk) → r + 1 < n → (y = true ↔ ∀ x, x < i → seenO T L H o (cK kk) x = hereO T L H f.1 f.2.1 (oK kk x)) → L_94_51 (mjF (d + 3)) n 82 (nI o) (nI kk) (nI (cK kk)) (nI w) (b2 y) (nI i) (mjW0 s) = some (some (.int (b2 (allB (fun x => decide (seenO T L H o (cK kk) x = hereO T L H f.1 f.2.1 (oK kk x))) (nmL L (cK kk))))), mjW0 s)
  | r, i, 0, y, e, hr, hy => by omega
  | r, i, n + 1, false, e, hr, hy => by
    rw [L94_S]
    unfold b_94_51 b_94_105
    rw [if_pos (show b2 false = 0 from rfl), if_pos (b2_nar false)]
    have e2 : allB (fun x => decide (seenO T L H o (cK kk) x = hereO T L H f.1 f.2.1 (oK kk x))) (nmL L (cK kk)) = false := by
      cases ha : allB (fun x => decide (seenO T L H o (cK kk) x = hereO T L H f.1 f.2.1 (oK kk x))) (nmL L (cK kk)) with
      | false => rfl
      | true =>
        have hh := allB_iff.mp ha
        have : false = true := hy.mpr (fun x hx => of_decide_eq_true (hh x (by omega)))
        exact this.symm
    rw [e2]
  | 0, i, n + 1, true, e, hr, hy => by
    obtain ⟨⟨g1, g2, g3, g4⟩, _⟩ := C.1
    have ck := vk.cl hn
    have l16 := hn.1
    rw [L94_S]
    unfold b_94_51 b_94_105
    have e2 : allB (fun x => decide (seenO T L H o (cK kk) x = hereO T L H f.1 f.2.1 (oK kk x))) (nmL L (cK kk)) = true := allB_iff.mpr (fun x hx => decide_eq_true (hy.mp rfl x (by omega)))
    rw [if_neg (show ¬ b2 true = 0 by decide), xg_82_2, C.2.1, yg_1 g1, wya_1 g1 (by omega), (g2 (cK kk) (by omega)).1, if_pos (nI_le (by omega) (by have := (g2 (cK kk) (by omega)).2; omega)), if_pos (b2_nar true), e2]
  | r + 1, i, n + 1, true, e, hr, hy => by
    obtain ⟨⟨g1, g2, g3, g4⟩, _⟩ := C.1
    have ck := vk.cl hn
    have l16 := hn.1
    have n5 := (g2 (cK kk) (by omega)).2
    have cl := (hO o a1 a2).1
    have n5o := (vK.n5 hn cl).2
    have vw := (vw_v hn cl hvw).1
    have hb := B.1
    have hb2 := B.2
    have self : f.2.1 ≤ H.1 := by
      rcases F with ⟨_, h⟩ | ⟨_, _, _, h, _⟩
      · omega
      · exact h
    have b1 := seen_lt (a := cK kk) hO a1 a2 i
    have b2' := here_lt (m := f.1) (x := oK kk i) hO self
    have es : seenO T L H o (cK kk) i = if oK w i < nmL L (H.2 o).1 then (H.2 o).2.1 (oK w i) else 0 := by unfold seenO; rw [hvw]
    have x93 := x_93 (d := d + 1) M.2.1 B a1 a2 n5o (vw.lt hn) (show i ≤ 4 by omega)
    rw [← es] at x93
    rw [L94_S]
    unfold b_94_51
    rw [if_neg (show ¬ b2 true = 0 by decide), xg_82_2, C.2.1, yg_1 g1, wya_1 g1 (by omega), (g2 (cK kk) (by omega)).1, if_neg (nI_ge (by omega) (by omega)), xV_82, x93, bI_s, x_106 (by have := vk.lt hn; omega) (by omega), bI_s, xV_82, x_92 hn M C B hO F hl (vk.ow hn i (by omega)), bI_s]
    unfold b_94_97
    by_cases g : seenO T L H o (cK kk) i = hereO T L H f.1 f.2.1 (oK kk i)
    · rw [if_pos (congrArg nI g), nI_1]
      exact lq_94 hn M C B hO F hl a1 a2 vk hvw r (i + 1) n true (by omega) (by omega) ⟨fun _ x hx => by
        by_cases e' : x = i
        · rw [e']; exact g
        · exact hy.mp rfl x (by omega), fun _ => rfl⟩
    · rw [if_neg (fun e' => g ((nI_eq (by omega) (by omega)).mp e')), nI_1]
      exact lq_94 hn M C B hO F hl a1 a2 vk hvw r (i + 1) n false (by omega) (by omega) ⟨fun h => (by cases h), fun h => absurd (h i (by omega)) g⟩
/-- isAs -/
theorem x_94 (hn : HN T N L) (M : CRn T L pf wm cm pc (H, f :: fs, k, st, sc) s) (C : CPH T L q s) (B : HBs T L H) (hO : HOK T L H) (F : FCL T L H f) (hl : fs.length < 40) (vk : vK L kk) (hv : v = 0 ∨ ∃ o, v = nI o ∧ 1 ≤ o ∧ o ≤ H.1) : mjF (d + 4) 94 [.ref 82, .int v, .int (nI kk)] (mjW0 s) = some (some (.int (b2 (asO T L H f.1 f.2.1 v kk))), mjW0 s) := by
  obtain ⟨⟨g1, g2, g3, g4⟩, ⟨g5, g6, g7⟩, _⟩ := C.1
  have h79 : s.1 79 2 = nI H.1 := M.1.2.2.1.2.1
  have hHp : HPc T L H s := M.2.1
  have hb := B.1
  have hb2 := B.2
  have ck := vk.cl hn
  have l16 := hn.1
  have hmj := mjN_v
  rw [e_94]
  unfold f_94 b_94_0 asO
  rw [xg_82_0, xV_79]
  by_cases v0 : v = 0
  · rw [v0, x_43z, bI_s, if_pos rfl, decide_eq_true (rfl : (0 : Int32) = 0), Bool.true_or]
    rfl
  obtain ⟨o, e1, a1, a2⟩ := hv.resolve_left v0
  have cl := (hO o a1 a2).1
  rw [decide_eq_false v0, Bool.false_or, e1, nN_nI (by omega), x_43o h79 (by omega) a1 a2, bI_s, if_neg (show ¬ ((1 : Int32) = 0) by decide), x_105 (by have := vk.lt hn; omega), bI_s, xg_82_2, C.2.1, xg_82_0, xV_79, x_46 hHp B a1 a2, bI_s, yV g1, x_view g1 (by omega) (by omega), bI_s, g7 _ (by omega) _ (by omega), if_pos cl]
  unfold b_94_46
  cases hvw : vwT (nmL L) (abT T L) (H.2 o).1 (cK kk) with
  | none =>
    rw [oI_n, if_pos (by decide), show mjN = 99999999 + 1 from rfl, L94_S]
    unfold b_94_51 b_94_105
    rw [if_pos rfl, if_pos (show narrow .boolean (.int 0) = .int 0 from b2_nar false)]
    rfl
  | some w =>
    have vw := (vw_v hn cl hvw).1.lt hn
    rw [oI_s, if_neg (show ¬ nI w < 0 from nI_nlt (b := 0) (Nat.zero_le _) (by omega))]
    exact lq_94 (w := w) hn M C B hO F hl a1 a2 vk hvw (nmL L (cK kk)) 0 mjN true (by omega) (by have := (g2 (cK kk) (by omega)).2; omega) ⟨fun _ x hx => by omega, fun _ => rfl⟩
end MJB57
end
section
/-! ===== the class's RUN: new ===== -/
section MJB58
variable {T : TT} {N wm cm pc k n d i o q w x kk c : Nat} {pf : Nat → Nat → Nat} {L : List CD} {H H' : HEAP} {f g : FRM} {fs gs : List FRM} {st : List Int32} {sc : SCL} {s s' : mjSt3} {A : AMS} {v : Int32} {ow ow' : Nat → Nat}
theorem bs_ad (h : o ≤ H.1) : bsH T L (addO H c ow) o = bsH T L H o := bs_same (H := H) (fun o p1 p2 => HX.add.2 o p1 p2) o h
theorem bs_ad1 : bsH T L (addO H c ow) (addO H c ow).1 = bsH T L H H.1 + szO T L c := by
  show bsH T L (addO H c ow) H.1 + szO T L ((addO H c ow).2 (H.1 + 1)).1 = _
  rw [bs_ad (Nat.le_refl _)]
  have : (addO H c ow).2 (H.1 + 1) = (c, ow, fun _ => 0) := if_pos rfl
  rw [this]
theorem HPc.add (h : HPc T L H s) (e1 : ∀ x, s'.1 81 x = if x = H.1 + 1 then nI (bsH T L H H.1) else s.1 81 x) (e0a : s'.1 80 (bsH T L H H.1) = nI c) (e0b : s'.1 80 (bsH T L H H.1 + 1) = nI (nmL L c)) (e0c : ∀ i, i < nmL L c → s'.1 80 (bsH T L H H.1 + 2 + i) = nI (ow i)) (e0d : ∀ i, i < fldT T L c → s'.1 80 (bsH T L H H.1 + 2 + nmL L c + i) = 0) (e0e : ∀ x, x < bsH T L H H.1 → s'.1 80 x = s.1 80 x) : HPc T L (addO H c ow) s' := by
  intro o p1 p2
  have p2' : o ≤ H.1 + 1 := p2
  have ex : (addO H c ow).2 o = if o = H.1 + 1 then (c, ow, fun _ => 0) else H.2 o := rfl
  rw [bs_ad (show o - 1 ≤ H.1 by omega), ex, e1]
  by_cases e : o = H.1 + 1
  · rw [if_pos e, e, if_pos rfl, show H.1 + 1 - 1 = H.1 from rfl]
    exact ⟨rfl, e0a, e0b, e0c, e0d⟩
  · rw [if_neg e, if_neg e]
    obtain ⟨h1, h2, h3, h4, h5⟩ := h o p1 (by omega)
    have sep := bs_at T L H p1 (show o ≤ H.1 by omega)
    exact ⟨h1, by rw [e0e _ (by omega)]; exact h2, by rw [e0e _ (by omega)]; exact h3, fun x hx => by rw [e0e _ (by omega)]; exact h4 x hx, fun x hx => by rw [e0e _ (by omega)]; exact h5 x hx⟩
theorem HPc.res (h : HPc T L (addO H c ow) s) : HPc T L H s := by
  intro o p1 p2
  have := h o p1 (show o ≤ H.1 + 1 by omega)
  have ex : (addO H c ow).2 o = H.2 o := if_neg (by omega)
  rw [ex, bs_ad (show o - 1 ≤ H.1 by omega)] at this
  exact this
theorem HPc.last (h : HPc T L (addO H c ow) s) : s.1 81 (H.1 + 1) = nI (bsH T L H H.1) ∧ s.1 80 (bsH T L H H.1) = nI c ∧ s.1 80 (bsH T L H H.1 + 1) = nI (nmL L c) ∧ (∀ i, i < nmL L c → s.1 80 (bsH T L H H.1 + 2 + i) = nI (ow i)) ∧ ∀ i, i < fldT T L c → s.1 80 (bsH T L H H.1 + 2 + nmL L c + i) = 0 := by
  have := h (H.1 + 1) (by omega) (Nat.le_refl _)
  have ex : (addO H c ow).2 (H.1 + 1) = (c, ow, fun _ => 0) := if_pos rfl
  rw [ex, show H.1 + 1 - 1 = H.1 from rfl, bs_ad (Nat.le_refl _)] at this
  exact this
theorem CRn.hpn (M : CRn T L pf wm cm pc (H, f :: fs, k, st, sc) s) (e : ∀ h, 79 ≤ h ∧ h ≤ 90 → ¬ (79 ≤ h ∧ h ≤ 81) → s'.1 h = s.1 h) (e3 : s'.1 79 3 = nI (bsH T L H' H'.1)) (e2 : s'.1 79 2 = nI H'.1) (e4 : s'.1 79 4 = s.1 79 4) (hH : HPc T L H' s') : CRn T L pf wm cm pc (H', f :: fs, k, st, sc) s' := by
  obtain ⟨⟨⟨a1, a2, a3, a4⟩, ⟨a5, a6, a7⟩, ⟨a8, a9, a10⟩, ⟨a11, a12⟩, a13⟩, _, hF, hT⟩ := M
  have e82 := e 82 (by omega) (by omega)
  have e83 := e 83 (by omega) (by omega)
  refine ⟨⟨⟨by rw [e82]; exact a1, by rw [e82]; exact a2, by rw [e82]; exact a3, by rw [e82]; exact a4⟩, ⟨by rw [e82]; exact a5, by rw [e83]; exact a6, by rw [e82]; exact a7⟩, ⟨e3, e2, by rw [e83]; exact a10⟩, ⟨by rw [e4]; exact a11, by rw [e82]; exact a12⟩, fun i h1 h2 => by rw [e 90 (by omega) (by omega)]; exact a13 i h1 h2⟩, hH, FRc.keep (fun x hx => e x (by omega) (by omega)) _ hF, fun g' gs' hg => ?_⟩
  obtain ⟨c1, c2, c3⟩ := hT f fs rfl
  exact ⟨by rw [e82]; exact c1, by rw [e82]; exact c2, STc.low _ (fun j _ => by rw [e 89 (by omega) (by omega)]) c3⟩
/-- make -/
theorem x_47 (M : CRn T L pf wm cm pc (H, f :: fs, k, st, sc) s) (B : HBs T L H) (hw : bsH T L H H.1 ≤ wm) (wm4 : wm ≤ 4000) (hc : c < 16) (n5 : 1 ≤ nmL L c ∧ nmL L c ≤ 5) (hf : fldT T L c ≤ 384) : (wm < bsH T L H H.1 + szO T L c → mjF (d + 3) 47 [.ref 79, .int (nI c), .int (nI (nmL L c)), .int (nI (fldT T L c))] (mjW0 s) = some (some (.int 0), mjW0 s)) ∧ (¬ wm < bsH T L H H.1 + szO T L c → ∃ s', mjF (d + 3) 47 [.ref 79, .int (nI c), .int (nI (nmL L c)), .int (nI (fldT T L c))] (mjW0 s) = some (some (.int (nI (H.1 + 1))), mjW0 s') ∧ oCn s s' ∧ CRn T L pf wm cm pc (addO H c (fun _ => 0), f :: fs, k, st, sc) s') := by
  have h3 : s.1 79 3 = nI (bsH T L H H.1) := M.1.2.2.1.1
  have h2 : s.1 79 2 = nI H.1 := M.1.2.2.1.2.1
  have h4 : s.1 79 4 = nI wm := M.1.2.2.2.1.1
  have hHp : HPc T L H s := M.2.1
  have hb := B.1
  have hb2 := B.2
  have sz : szO T L c = 2 + nmL L c + fldT T L c := rfl
  have need : (2 : Int32) + nI (nmL L c) + nI (fldT T L c) = nI (szO T L c) := by rw [show (2 : Int32) = nI 2 from rfl, nI_add, nI_add, sz]
  have sub : nI wm - nI (bsH T L H H.1) = nI (wm - bsH T L H H.1) := by
    have e : wm = (wm - bsH T L H H.1) + bsH T L H H.1 := by omega
    rw [e, ← nI_add, Int32.add_sub_cancel, show wm - bsH T L H H.1 + bsH T L H H.1 - bsH T L H H.1 = wm - bsH T L H H.1 by omega]
  refine ⟨fun g => ?_, fun g => ?_⟩
  · rw [e_47]
    unfold f_47 b_47_0 b_47_31
    rw [xg_79_4, xg_79_3, h4, h3, need, sub, if_pos (nI_lt (by omega) (by omega))]
  · obtain ⟨z1, g1⟩ : ∃ y, y = uI s 79 (upd (s.1 79) 2 (nI (H.1 + 1))) := ⟨_, rfl⟩
    obtain ⟨z2, g2⟩ : ∃ y, y = uI z1 81 (upd (z1.1 81) (H.1 + 1) (nI (bsH T L H H.1))) := ⟨_, rfl⟩
    obtain ⟨z3, g3⟩ : ∃ y, y = uI z2 80 (upd (z2.1 80) (bsH T L H H.1) (nI c)) := ⟨_, rfl⟩
    obtain ⟨z4, g4⟩ : ∃ y, y = uI z3 80 (upd (z3.1 80) (bsH T L H H.1 + 1) (nI (nmL L c))) := ⟨_, rfl⟩
    obtain ⟨z5, g5⟩ : ∃ y, y = uI z4 80 (fillF (z4.1 80) (bsH T L H H.1 + 2) (bsH T L H H.1 + szO T L c) 0) := ⟨_, rfl⟩
    obtain ⟨z6, g6⟩ : ∃ y, y = uI z5 79 (upd (z5.1 79) 3 (nI (bsH T L H H.1 + szO T L c))) := ⟨_, rfl⟩
    have r79 : ∀ h, h = z2 ∨ h = z3 ∨ h = z4 ∨ h = z5 → h.1 79 = z1.1 79 := by
      intro h hh
      rcases hh with hh | hh | hh | hh
      · rw [hh, g2, uI_ne _ _ _ _ (by decide)]
      · rw [hh, g3, uI_ne _ _ _ _ (by decide), g2, uI_ne _ _ _ _ (by decide)]
      · rw [hh, g4, uI_ne _ _ _ _ (by decide), g3, uI_ne _ _ _ _ (by decide), g2, uI_ne _ _ _ _ (by decide)]
      · rw [hh, g5, uI_ne _ _ _ _ (by decide), g4, uI_ne _ _ _ _ (by decide), g3, uI_ne _ _ _ _ (by decide), g2, uI_ne _ _ _ _ (by decide)]
    have v1 : ∀ x, z1.1 79 x = if x = 2 then nI (H.1 + 1) else s.1 79 x := fun x => by rw [g1, uI_same, upd_g]
    have v6 : ∀ x, z6.1 79 x = if x = 3 then nI (bsH T L H H.1 + szO T L c) else if x = 2 then nI (H.1 + 1) else s.1 79 x := fun x => by rw [g6, uI_same, upd_g, r79 z5 (by simp), v1]
    have w81 : ∀ x, z6.1 81 x = if x = H.1 + 1 then nI (bsH T L H H.1) else s.1 81 x := fun x => by rw [g6, uI_ne _ _ _ _ (by decide), g5, uI_ne _ _ _ _ (by decide), g4, uI_ne _ _ _ _ (by decide), g3, uI_ne _ _ _ _ (by decide), g2, uI_same, upd_g, g1, uI_ne _ _ _ _ (by decide)]
    have w80 : ∀ x, z6.1 80 x = if bsH T L H H.1 + 2 ≤ x ∧ x < bsH T L H H.1 + szO T L c then 0 else if x = bsH T L H H.1 + 1 then nI (nmL L c) else if x = bsH T L H H.1 then nI c else s.1 80 x := fun x => by
      rw [g6, uI_ne _ _ _ _ (by decide), g5, uI_same]
      show (if bsH T L H H.1 + 2 ≤ x ∧ x < bsH T L H H.1 + szO T L c then 0 else z4.1 80 x) = _
      rw [g4, uI_same, upd_g, g3, uI_same, upd_g, g2, uI_ne _ _ _ _ (by decide), g1, uI_ne _ _ _ _ (by decide)]
    have rr : ∀ h, ¬ (79 ≤ h ∧ h ≤ 81) → z6.1 h = s.1 h := fun h e => by rw [g6, uI_ne _ _ _ _ (by omega), g5, uI_ne _ _ _ _ (by omega), g4, uI_ne _ _ _ _ (by omega), g3, uI_ne _ _ _ _ (by omega), g2, uI_ne _ _ _ _ (by omega), g1, uI_ne _ _ _ _ (by omega)]
    refine ⟨z6, ?_, offG.tr (b := z1) (by rw [g1]; exact oCn.wr (by omega)) (offG.tr (b := z2) (by rw [g2]; exact oCn.wr (by omega)) (offG.tr (b := z3) (by rw [g3]; exact oCn.wr (by omega)) (offG.tr (b := z4) (by rw [g4]; exact oCn.wr (by omega)) (offG.tr (b := z5) (by rw [g5]; exact oCn.wr (by omega)) (by rw [g6]; exact oCn.wr (by omega)))))), M.hpn (fun h _ e => rr h e) (by rw [v6, if_pos rfl, bs_ad1]) (by rw [v6, if_neg (by decide), if_pos rfl]; rfl) (by rw [v6, if_neg (by decide), if_neg (by decide)]) (hHp.add w81 (by rw [w80, if_neg (by omega), if_neg (by omega), if_pos rfl]) (by rw [w80, if_neg (by omega), if_pos rfl]) (fun x hx => by rw [w80, if_pos (by omega)]; rfl) (fun x hx => by rw [w80, if_pos (by omega)]) (fun x hx => by rw [w80, if_neg (by omega), if_neg (by omega), if_neg (by omega)]))⟩
    rw [e_47]
    unfold f_47 b_47_0
    rw [xg_79_4, xg_79_3, h4, h3, need, sub, if_neg (nI_nlt (by omega) (by omega)), xg_79_2, h2, if_pos (show nI H.1 < (1334 : Int32) from nI_lt (b := 1334) (by omega) (by decide)), xg_79_2, h2, nI_1, xp_79_2, ← g1, xg_79_1, xg_79_2, v1, if_pos rfl, xg_79_3, v1, if_neg (show ¬ 3 = 2 by decide), h3, ws_81 (by omega), ← g2, xg_79_0, xg_79_3, r79 z2 (by simp), v1, if_neg (show ¬ 3 = 2 by decide), h3, ws_80 (by omega), ← g3, xg_79_0, xg_79_3, r79 z3 (by simp), v1, if_neg (show ¬ 3 = 2 by decide), h3, nI_1, ws_80 (by omega), ← g4, xg_79_0, xg_79_3, xg_79_3, r79 z4 (by simp), v1, if_neg (show ¬ 3 = 2 by decide), h3, show (2 : Int32) = nI 2 from rfl, nI_add, nI_add, q_379 tT_80 (by decide) (by omega) (by omega), bN_s, ← g5, xg_79_3, r79 z5 (by simp), v1, if_neg (show ¬ 3 = 2 by decide), h3, nI_add, xp_79_3, ← g6, xg_79_2, v6, if_neg (by decide), if_pos rfl]
end MJB58
end
section
/-! ===== the class's RUN: makeObject ===== -/
section MJB59
variable {T : TT} {N wm cm pc k n d i o q w x kk c : Nat} {pf : Nat → Nat → Nat} {L : List CD} {H H' : HEAP} {f g : FRM} {fs gs : List FRM} {st : List Int32} {sc : SCL} {s s' : mjSt3} {A : AMS} {v : Int32} {ow ow' : Nat → Nat}
theorem CRn.owc (M : CRn T L pf wm cm pc (addO H c ow, f :: fs, k, st, sc) s) (e : ∀ i, i < nmL L c → ow i = ow' i) : CRn T L pf wm cm pc (addO H c ow', f :: fs, k, st, sc) s := by
  have hHp : HPc T L (addO H c ow) s := M.2.1
  obtain ⟨l1, l2, l3, l4, l5⟩ := hHp.last
  exact M.hps (fun _ _ _ => rfl) (by rw [bs_ad1, bs_ad1]) rfl (hHp.res.add (fun x => by
    by_cases q : x = H.1 + 1
    · rw [if_pos q, q, l1]
    · rw [if_neg q]) l2 l3 (fun i hi => by rw [l4 i hi, e i hi]) l5 (fun _ _ => rfl))
/-- setOwner of the last OBJECT -/
theorem x_50 (M : CRn T L pf wm cm pc (addO H c ow, f :: fs, k, st, sc) s) (hb : bsH T L H H.1 + szO T L c ≤ 4000) (h3 : 3 * H.1 ≤ bsH T L H H.1) (hn : 1 ≤ nmL L c) (hi : i < nmL L c) : ∃ s', mjF (d + 1) 50 [.ref 79, .int (nI (H.1 + 1)), .int (nI i), .int (nI w)] (mjW0 s) = some (none, mjW0 s') ∧ oCn s s' ∧ CRn T L pf wm cm pc (addO H c (fun x => if x = i then w else ow x), f :: fs, k, st, sc) s' := by
  have hHp : HPc T L (addO H c ow) s := M.2.1
  obtain ⟨l1, l2, l3, l4, l5⟩ := hHp.last
  have sz : szO T L c = 2 + nmL L c + fldT T L c := rfl
  obtain ⟨z1, g1⟩ : ∃ y, y = uI s 80 (upd (s.1 80) (bsH T L H H.1 + 2 + i) (nI w)) := ⟨_, rfl⟩
  have r1 : ∀ h, ¬ h = 80 → z1.1 h = s.1 h := fun h e => by rw [g1]; exact uI_ne _ _ _ _ e
  have v80 : ∀ x, z1.1 80 x = if x = bsH T L H H.1 + 2 + i then nI w else s.1 80 x := fun x => by rw [g1, uI_same, upd_g]
  refine ⟨z1, ?_, by rw [g1]; exact oCn.wr (by omega), M.hps (fun h _ e => r1 h e) (by rw [bs_ad1, bs_ad1]) rfl (hHp.res.add (fun x => ?_) (by rw [v80, if_neg (by omega)]; exact l2) (by rw [v80, if_neg (by omega)]; exact l3) (fun y hy => ?_) (fun y hy => by rw [v80, if_neg (by omega)]; exact l5 y hy) (fun y hy => by rw [v80, if_neg (by omega)]))⟩
  · rw [e_50]
    unfold f_50 b_50_0
    rw [xg_79_0, xg_79_1, wa_81 (by omega), l1, show nI (bsH T L H H.1) + 2 + nI i = nI (bsH T L H H.1 + 2 + i) by rw [show (2 : Int32) = nI 2 from rfl, nI_add, nI_add], ws_80 (by omega), ← g1]
  · rw [r1 81 (by decide)]
    by_cases q : x = H.1 + 1
    · rw [if_pos q, q, l1]
    · rw [if_neg q]
  · rw [v80]
    show _ = nI (if y = i then w else ow y)
    by_cases q : y = i
    · rw [if_pos q, if_pos (by omega)]
    · rw [if_neg q, if_neg (by omega)]; exact l4 y hy
theorem here_ad {m : Nat} (ho : o ≤ H.1) : hereO T L (addO H c ow) m o x = hereO T L H m o x := by
  have ex : (addO H c ow).2 o = H.2 o := if_neg (by omega)
  unfold hereO seenO
  rw [ex]
theorem FCL.ext (F : FCL T L H f) (e : HX H H') : FCL T L H' f := by
  rcases F with h | ⟨h1, h2, h3, h4, h5⟩
  · exact Or.inl h
  · exact Or.inr ⟨h1, h2, h3, Nat.le_trans h4 e.1, by rw [e.2 _ h3 h4]; exact h5⟩
theorem FCL.self (F : FCL T L H f) : f.2.1 ≤ H.1 := by
  rcases F with ⟨_, h⟩ | ⟨_, _, _, h, _⟩
  · omega
  · exact h
theorem L91_S (R : mjR) (n a : Nat) (b c e f' : Int32) (hp : mjH) : L_91_52 R (n + 1) a b c e f' hp = b_91_52 R (L_91_52 R n) a b c e f' hp := rfl
theorem PG.cg (P : PG T L q s) (e : ∀ h, q ≤ h ∧ h ≤ q + 27 → s'.1 h = s.1 h) (el : ∀ h, q ≤ h ∧ h ≤ q + 27 → s'.2.1 h = s.2.1 h) : PG T L q s' := by
  obtain ⟨⟨g1, g2, g3, g4⟩, ⟨g5, g6, g7⟩, ⟨g8, g9, g10⟩, ⟨g11, g12⟩, g13, ⟨g14, g15⟩, g16, g17, g18, g19⟩ := P
  refine ⟨⟨g1, fun c hc => by rw [e (q + 1) (by omega)]; exact g2 c hc, by rw [e q (by omega)]; exact g3, g4⟩, ⟨fun j hj => by rw [e (q + 5) (by omega)]; exact g5 j hj, INP.off g6 (e _ (by omega)) (e _ (by omega)), fun b hb a ha => by rw [e (q + 12) (by omega)]; exact g7 b hb a ha⟩, ⟨fun j hj => by rw [e (q + 8) (by omega)]; exact g8 j hj, fun m hm => by rw [e (q + 19) (by omega)]; exact g9 m hm, KNW.off g10 (e _ (by omega))⟩, ⟨fun m hm => ⟨by rw [e (q + 17) (by omega)]; exact (g11 m hm).1, fun j hj => by rw [e (q + 21) (by omega)]; exact (g11 m hm).2 j hj⟩, fun c hc i hi => by rw [el (q + 13) (by omega)]; exact g12 c hc i hi⟩, fun c hc => by rw [e (q + 2) (by omega), e (q + 6) (by omega), e (q + 9) (by omega), e (q + 10) (by omega)]; exact g13 c hc, ⟨by rw [e (q + 14) (by omega)]; exact g14, g15⟩, fun m hm => by rw [e (q + 16) (by omega), e (q + 18) (by omega), e (q + 20) (by omega)]; exact g16 m hm, fun m m' hm hm' => by rw [el (q + 15) (by omega)]; exact g17 m m' hm hm', by rw [e (q + 16) (by omega)]; exact g18, by rw [e (q + 20) (by omega)]; exact g19⟩
theorem CPH.run (C : CPH T L q s) (o : oCn s s') : CPH T L q s' := by
  obtain ⟨C1, C2, C3⟩ := C
  have hq : q = 2 ∨ q = 30 := C1.1.1
  have e : ∀ h, q ≤ h ∧ h ≤ q + 27 → s'.1 h = s.1 h := fun h hh => funext fun j => o.1 h j (fun x => by have : 79 ≤ h ∧ h ≤ 90 := x; omega)
  have el : s'.2.1 = s.2.1 := funext fun h => funext fun j => o.2.1 h j (fun x => x)
  exact ⟨PG.cg C1 e (fun h _ => by rw [el]), by rw [o.2.2]; exact C2, by rw [o.2.2]; exact C3⟩
theorem lq_91 (hn : HN T N L) (B : HBs T L H) (hO : HOK T L H) (F : FCL T L H f) (hl : fs.length < 40) (hs : st.length < 5120) (vk : vK L kk) (hb : bsH T L H H.1 + szO T L (cK kk) ≤ 4000) : ∀ (r i n : Nat) (s : mjSt3), i + r = nmL L (cK kk) → r < n → CPH T L q s → CRn T L pf wm cm pc (addO H (cK kk) (fun x => if x < i then hereO T L H f.1 f.2.1 (oK kk x) else 0), f :: fs, k, st, sc) s → ∃ s', L_91_52 (mjF (d + 4)) n 82 (nI kk) (nI (nmL L (cK kk))) (nI (H.1 + 1)) (nI i) (mjW0 s) = some (none, mjW0 s') ∧ oCn s s' ∧ CRn T L pf wm cm pc (addO H (cK kk) (fun x => hereO T L H f.1 f.2.1 (oK kk x)), f :: fs, k, nI (H.1 + 1) :: st, sc) s'
  | r, i, 0, s, e, hr, C, M => by omega
  | 0, i, n + 1, s, e, hr, C, M => by
    have ck := vk.cl hn
    have n5 := vK.n5 hn ck
    obtain ⟨s', a1, a2, a3⟩ := x_79 (d := d + 3) (M.owc (ow' := fun x => hereO T L H f.1 f.2.1 (oK kk x)) (fun x hx => if_pos (by omega))) hs (nI (H.1 + 1))
    refine ⟨s', ?_, a2, a3⟩
    rw [L91_S]
    unfold b_91_52
    rw [if_pos (nI_le (by omega) (by omega)), xV_82, a1, bN_s]
  | r + 1, i, n + 1, s, e, hr, C, M => by
    have ck := vk.cl hn
    have n5 := vK.n5 hn ck
    have hO' : HOK T L (addO H (cK kk) (fun x => if x < i then hereO T L H f.1 f.2.1 (oK kk x) else 0)) := hO.add ck (fun x => by
      by_cases q : x < i
      · rw [if_pos q]; exact here_lt hO F.self
      · rw [if_neg q]; omega)
    have b2' := B.2
    have sz : szO T L (cK kk) = 2 + nmL L (cK kk) + fldT T L (cK kk) := rfl
    have B' : HBs T L (addO H (cK kk) (fun x => if x < i then hereO T L H f.1 f.2.1 (oK kk x) else 0)) := ⟨by rw [bs_ad1]; exact hb, by rw [bs_ad1]; show 3 * (H.1 + 1) ≤ _; omega⟩
    have x92 := x_92 (d := d + 1) (x := oK kk i) hn M C B' hO' (F.ext HX.add) hl (vk.ow hn i (by omega))
    rw [here_ad F.self] at x92
    obtain ⟨s1, a1, a2, a3⟩ := x_50 (d := d + 3) (w := hereO T L H f.1 f.2.1 (oK kk i)) M hb b2' n5.1 (show i < nmL L (cK kk) by omega)
    obtain ⟨s2, c1, c2, c3⟩ := lq_91 hn B hO F hl hs vk hb r (i + 1) n s1 (by omega) (by omega) (C.run a2) (a3.owc (fun x hx => by
      by_cases q : x = i
      · rw [if_pos q, if_pos (by omega), q]
      · rw [if_neg q]
        by_cases q2 : x < i
        · rw [if_pos q2, if_pos (by omega)]
        · rw [if_neg q2, if_neg (by omega)]))
    refine ⟨s2, ?_, offG.tr a2 c2, c3⟩
    rw [L91_S]
    unfold b_91_52
    rw [if_neg (nI_ge (by omega) (by omega)), xg_82_0, x_106 (by have := vk.lt hn; omega) (by omega), bI_s, xV_82, x92, bI_s, xV_79, a1, bN_s, nI_1, c1]
/-- makeObject -/
theorem x_91 (hn : HN T N L) (M : CRn T L pf wm cm pc (H, f :: fs, k, st, sc) s) (C : CPH T L q s) (hO : HOK T L H) (hw : bsH T L H H.1 ≤ wm) (wm4 : wm ≤ 4000) (F : FCL T L H f) (hl : fs.length < 40) (hs : st.length < 5120) (vk : vK L kk) (h384 : ∀ c, fldT T L c ≤ 384) (p : Int32) : (wm < bsH T L H H.1 + szO T L (cK kk) → ∃ s', mjF (d + 5) 91 [.ref 82, .int (nI kk), .int p] (mjW0 s) = some (none, mjW0 s') ∧ oCn s s' ∧ ∀ pc', CRn T L pf wm cm pc' (aFail (H, f :: fs, k, st, sc) 4 p) s') ∧ (¬ wm < bsH T L H H.1 + szO T L (cK kk) → ∃ s', mjF (d + 5) 91 [.ref 82, .int (nI kk), .int p] (mjW0 s) = some (none, mjW0 s') ∧ oCn s s' ∧ CRn T L pf wm cm pc (addO H (cK kk) (fun x => hereO T L H f.1 f.2.1 (oK kk x)), f :: fs, k, nI (H.1 + 1) :: st, sc) s') := by
  have ck := vk.cl hn
  have n5 := vK.n5 hn ck
  have l16 := hn.1
  have hmj := mjN_v
  obtain ⟨⟨g1, g2, g3, g4⟩, ⟨g5, g6, g7⟩, ⟨g8, _⟩, _⟩ := C.1
  have B : HBs T L H := ⟨by omega, bs_3 hn H H.1 (fun x x1 x2 => (hO x x1 x2).1)⟩
  obtain ⟨m1, m2⟩ := x_47 (d := d + 1) M B hw wm4 (show cK kk < 16 by omega) n5 (h384 _)
  have pre : mjF (d + 5) 91 [.ref 82, .int (nI kk), .int p] (mjW0 s) = bI (mjF (d + 4) 47 [.ref 79, .int (nI (cK kk)), .int (nI (nmL L (cK kk))), .int (nI (fldT T L (cK kk)))] (mjW0 s)) (fun v10 hp11 => (if v10 = 0 then rV hp11 82 5 (bN (mjF (d + 4) 82 [.ref 82, .int (4 : Int32), .int p] hp11) (fun  hp12 => some (none, hp12))) else L_91_52 (mjF (d + 4)) mjN 82 (nI kk) (nI (nmL L (cK kk))) v10 (0 : Int32) hp11)) := by
    rw [e_91]
    unfold f_91 b_91_0
    rw [x_105 (by have := vk.lt hn; omega), bI_s, xg_82_2, C.2.1, yg_1 g1, wya_1 g1 (by omega), (g2 _ (by omega)).1, xg_82_0, xg_82_2, C.2.1, yg_8 g1, wya_8 g1 (by omega), g8 _ ck, xV_79]
  refine ⟨fun g => ?_, fun g => ?_⟩
  · obtain ⟨s', a1, a2, a3⟩ := x_82 (d := d + 2) M 4 p
    exact ⟨s', by rw [pre, m1 g, bI_s, if_pos rfl, xV_82, a1, bN_s], a2, a3⟩
  · obtain ⟨s1, a1, a2, a3⟩ := m2 g
    obtain ⟨s2, c1, c2, c3⟩ := lq_91 (d := d) (kk := kk) hn B hO F hl hs vk (by omega) (nmL L (cK kk)) 0 mjN s1 (by omega) (by omega) (C.run a2) (a3.owc (fun x _ => by rw [if_neg (by omega)]))
    have nz : ¬ nI (H.1 + 1) = 0 := fun e => by
      have := (nI_eq (a := H.1 + 1) (b := 0) (by have := B.1; have := B.2; omega) (by decide)).mp e
      omega
    exact ⟨s2, by rw [pre, a1, bI_s, if_neg nz]; exact c1, offG.tr a2 c2, c3⟩
end MJB59
end
