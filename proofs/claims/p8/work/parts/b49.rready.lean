/-! ===== what the reference's act goes by at every order ===== -/
section MJB49
variable {T : TT} {N k0 kb b wm cm m k : Nat} {t : PT} {rs : List RcM} {z : PB} {tr : Bool} {H : HEAP} {r : Row} {j : JS} {l : List Ins} {f : FRM} {fs : List FRM} {st : List Int32} {sc : SCL} {s : mjSt3} {E : EV}
theorem PRX.vals (P : PRX T N k0 t rs kb z tr) (hm : m ≤ 384) (im : isMT t.1 m = true) (hk : k ≤ (osM rs z m).length) (ej : jrun (EMx T t tr k0 m) ((osM rs z m).take k) (jmT T t.1 m) = some (j, l)) : (jRS j).length ≤ 120 := by
  obtain ⟨j1, l1, a1, _, a3, _⟩ := P.1.pos hm im hk
  have e : j1 = j := (Prod.mk.inj (Option.some.inj (a1.symm.trans ej))).1
  rw [← e]
  exact a3
theorem sus_len (P : PRX T N k0 t rs kb z tr) : ∀ (fs : List FRM) (m k : Nat) (st : List Int32), SUS T t rs z tr k0 H fs m k st → st.length ≤ 120 * fs.length
  | [], m, k, st, h => by rw [h.2]; exact Nat.zero_le _
  | f :: fs, m, k, st, ⟨h0, h1, h2, j, l, x, xs, seg, rest, h3, h4, h5, h6, h7, h8⟩ => by
    have ih := sus_len P fs _ _ rest h8
    obtain ⟨fm, im⟩ := h1.mt P.2.1
    have b1 := P.vals fm im h2 h3
    rw [h4, List.length_cons] at b1
    have b2 := TYS.len _ _ h6
    rw [h7, List.length_append, List.length_cons]
    omega
/-- a typed RUN at an order -/
theorem AOK.info (P : PRX T N k0 t rs kb z tr) (hA : AOK T t rs z tr k0 wm cm (H, f :: fs, k, st, sc)) (ph : sc.2.2.2.2.1 = 1) : ∃ j l seg rest, jrun (EMx T t tr k0 f.1) ((osM rs z f.1).take k) (jmT T t.1 f.1) = some (j, l) ∧ FOK T t rs z tr k0 H f ∧ k ≤ (osM rs z f.1).length ∧ TYS T t.1 H seg (jRS j) ∧ st = seg ++ rest ∧ st.length ≤ 120 * (fs.length + 1) ∧ (f.1 ≤ 384 ∧ isMT t.1 f.1 = true) := by
  obtain ⟨f0, fs0, e0, F0, hk0, j0, l0, seg, rest, ej0, ty0, est, S0⟩ := hA.2.2.2.1 ph
  have ef : f = f0 := (List.cons.inj e0).1
  have efs : fs = fs0 := (List.cons.inj e0).2
  rw [← ef] at F0 hk0 ej0 S0
  rw [← efs] at S0
  have mt := FOK.mt F0 P.2.1
  have b1 := P.vals mt.1 mt.2 hk0 ej0
  have b2 := TYS.len _ _ ty0
  have b3 := sus_len P _ _ _ _ S0
  have est' : st = seg ++ rest := est
  refine ⟨j0, l0, seg, rest, ej0, F0, hk0, ty0, est', ?_, mt⟩
  rw [est', List.length_append]
  omega
/-- a VARIABLE's number in its order -/
theorem PRX.r20 (P : PRX T N k0 t rs kb z tr) (hm : m ≤ 384) (im : isMT t.1 m = true) (hk : (osM rs z m)[k]? = some r) (ej : jrun (EMx T t tr k0 m) ((osM rs z m).take k) (jmT T t.1 m) = some (j, l)) (o : r.1 = 20) : r.2.2.1 = nI j.2.2.2.1 := by
  have kl := (List.getElem?_eq_some_iff.mp hk).1
  obtain ⟨⟨g1, _, _⟩, sw, _⟩ := P.1.2.2 m hm im
  have dr : (osM rs z m).drop k = r :: (osM rs z m).drop (k + 1) := by
    rw [List.drop_eq_getElem_cons kl]
    congr 1
    exact (List.getElem?_eq_some_iff.mp hk).2
  have g1' : sdG ((osM rs z m).take k ++ (osM rs z m).drop k) [] := by rw [List.take_append_drop]; exact g1
  rw [sdG_app] at g1'
  have sw' : sdW ((osM rs z m).take k ++ (osM rs z m).drop k) (i0T t m) ((kqT T rs kb m, 0, [], 0), npT t.1 m, i0T t m + (osM rs z m).length, false, 0) := by rw [List.take_append_drop]; exact sw
  rw [sdW_app, dr] at sw'
  have td := (td_run _ _ [] j l g1'.1 ej).1
  have td0 : (jmT T t.1 m).2.2.2.1 = npT t.1 m := rfl
  have vr := (val_run _ _ _ [] sw'.1 g1'.1 rfl (Nat.zero_le _)).2.1
  have ow := sw'.2.1
  have eq1 : r.2.2.1 = nI (fdW ((osM rs z m).take k) (i0T t m) ((kqT T rs kb m, 0, [], 0), npT t.1 m, i0T t m + (osM rs z m).length, false, 0)).2.1 := by
    rcases ow with ok | ⟨q, _⟩ | ⟨q, _⟩ | ⟨q, _⟩ | ⟨q, _⟩ | ⟨_, _, _, q, _⟩ | ⟨q, _⟩ | q | ⟨q, _⟩ | ⟨q, _⟩
    · have := ok.1
      rw [o] at this
      exact absurd this (by decide)
    · rw [o] at q; exact absurd q (by decide)
    · rw [o] at q; exact absurd q (by decide)
    · rcases q with q | q <;> · have := q.1; rw [o] at this; exact absurd this (by decide)
    · rw [o] at q; exact absurd q (by decide)
    · exact q
    · rw [o] at q; exact absurd q (by decide)
    · rw [o] at q; exact absurd q (by decide)
    · rw [o] at q; exact absurd q (by decide)
    · rw [o] at q; exact absurd q (by decide)
  rw [eq1, vr]
  exact congrArg nI (by show npT t.1 m + n20 _ = j.2.2.2.1; omega)
/-- a KIND of an order -/
theorem NWk_of (P : PRX T N (800 * b) t rs kb z tr) (G : RPG T b t rs z tr s) (F : FOK T t rs z tr (800 * b) H f) {kk : Nat} (hkd : kdE (EMx T t tr (800 * b) f.1) r.2.2.1 = some kk) (K : TKr t.1 b s r.2.2.1 (kk + 2)) : ∃ kx, r.2.2.1 = nI kx ∧ NWk T t b H f kx kk s := by
  obtain ⟨v, kx, k1, k2, k3, k4, k5⟩ := K
  have hn := P.1.1.1
  have m384 := P.2.1
  refine ⟨kx, k2, F.1, fun h => (G.2.2.2.1 f.1 h).1, v, k1, k3, k5, k4, fun h => ?_, fun h => ?_⟩
  · unfold kdE at hkd
    rw [(EMx_main h).1] at hkd
    cases hk : kdT (EMx T t tr (800 * b) f.1).1 (EMx T t tr (800 * b) f.1).2.1 none false ((EMx T t tr (800 * b) f.1).2.2.2.1 r.2.2.1) with
    | none => rw [hk] at hkd; cases hkd
    | some k' =>
      rw [hk] at hkd
      dsimp only at hkd
      rw [EMx_1.1, EMx_1.2] at hk
      have key := (kd_vK hn (fun c hc => by cases hc) hk).2.2 rfl
      split at hkd
      · have e : k' = kk := Option.some.inj hkd
        rw [e] at key
        exact key
      · cases hkd
  · have n384 : ¬ f.1 = 384 := by omega
    unfold kdE at hkd
    rw [(EMx_m n384).1] at hkd
    cases hk : kdT (EMx T t tr (800 * b) f.1).1 (EMx T t tr (800 * b) f.1).2.1 (some (hmM t.1 f.1)) false ((EMx T t tr (800 * b) f.1).2.2.2.1 r.2.2.1) with
    | none => rw [hk] at hkd; cases hkd
    | some k' =>
      rw [hk] at hkd
      dsimp only at hkd
      rw [EMx_1.1, EMx_1.2] at hk
      split at hkd
      · have e : k' = kk := Option.some.inj hkd
        rw [e] at hk
        exact fun x hx h5 => kd_nm hn (P.1.2.1 f.1 h).2.2 hk hx h5
      · cases hkd
end MJB49
