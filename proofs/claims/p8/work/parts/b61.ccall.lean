/-! ===== the class's RUN: callMethod ===== -/
/-- where the class goes on -/
def pcO (pf : Nat → Nat → Nat) (A : AMS) : Nat := match A.2.1 with
  | f :: _ => pf f.1 A.2.2.1
  | [] => 0
section MJB61
variable {T : TT} {N wm cm pc k n d i o q w x kk c m m0 d' : Nat} {pf : Nat → Nat → Nat} {L : List CD} {H H' : HEAP} {f g : FRM} {fs gs : List FRM} {st : List Int32} {sc : SCL} {s s' : mjSt3} {A : AMS} {v : Int32}
theorem dr_c : ∀ (st : List Int32) (j : Nat), j < st.length → st.drop j = st[j]?.getD 0 :: st.drop (j + 1)
  | [], j, h => by cases h
  | v :: st, 0, _ => rfl
  | v :: st, j + 1, h => dr_c st j (Nat.lt_of_succ_lt_succ h)
/-- peek -/
theorem x_90 (M : CRn T L pf wm cm pc (H, f :: fs, k, st, sc) s) (hs : st.length < 5120) (hi : i < st.length) : mjF (d + 1) 90 [.ref 82, .int (nI i)] (mjW0 s) = some (some (.int (st[i]?.getD 0)), mjW0 s) := by
  obtain ⟨h9, h8, hS⟩ := M.2.2.2 f fs rfl
  have h8' : s.1 82 6 = nI st.length := h8
  have e : nI st.length - 1 - nI i = nI (st.length - 1 - i) := by
    have e1 : nI st.length - 1 = nI (st.length - 1) := by
      have := nI_pred (st.length - 1)
      rw [show st.length - 1 + 1 = st.length by omega] at this
      exact this
    have e2 : st.length - 1 = (st.length - 1 - i) + i := by omega
    rw [e1]
    have e3 : nI (st.length - 1) = nI (st.length - 1 - i) + nI i := by rw [nI_add, ← e2]
    rw [e3, Int32.add_sub_cancel]
  rw [e_90]
  unfold f_90 b_90_0
  rw [xg_82_6, h8', e, if_neg (show ¬ nI (st.length - 1 - i) < 0 from nI_nlt (b := 0) (Nat.zero_le _) (by omega)), xg_82_5, wa_89 (by omega), STc.at st i hS hi]
theorem CRn.jmp (M : CRn T L pf wm cm pc (H, f :: fs, k, st, sc) s) (k' : Nat) : CRn T L pf wm cm pc (H, f :: fs, k', st, sc) s := M
theorem CRn.pcs (M : CRn T L pf wm cm pc (H, f :: fs, k, st, sc) s) (y : Nat) : CRn T L pf wm cm y (H, f :: fs, k, st, sc) (uI s 82 (upd (s.1 82) 4 (nI y))) := by
  obtain ⟨z1, g1⟩ : ∃ z, z = uI s 82 (upd (s.1 82) 4 (nI y)) := ⟨_, rfl⟩
  rw [← g1]
  have rr : ∀ h, ¬ h = 82 → z1.1 h = s.1 h := fun h e => by rw [g1]; exact uI_ne _ _ _ _ e
  have v82 : ∀ j, z1.1 82 j = if j = 4 then nI y else s.1 82 j := fun j => by rw [g1, uI_same, upd_g]
  have n : ∀ j, ¬ j = 4 → z1.1 82 j = s.1 82 j := fun j hj => by rw [v82, if_neg hj]
  obtain ⟨⟨⟨a1, a2, a3, a4⟩, ⟨a5, a6, a7⟩, ⟨a8, a9, a10⟩, ⟨a11, a12⟩, a13⟩, hH, hF, hT⟩ := M
  refine ⟨⟨⟨by rw [n 8 (by omega)]; exact a1, by rw [n 9 (by omega)]; exact a2, by rw [n 10 (by omega)]; exact a3, by rw [n 11 (by omega)]; exact a4⟩, ⟨by rw [n 12 (by omega)]; exact a5, by rw [rr 83 (by decide)]; exact a6, by rw [n 13 (by omega)]; exact a7⟩, ⟨by rw [rr 79 (by decide)]; exact a8, by rw [rr 79 (by decide)]; exact a9, by rw [rr 83 (by decide)]; exact a10⟩, ⟨by rw [rr 79 (by decide)]; exact a11, by rw [n 7 (by omega)]; exact a12⟩, fun i h1 h2 => by rw [rr 90 (by decide)]; exact a13 i h1 h2⟩, hH.keep (fun x hx => rr x (by omega)), FRc.keep (fun x hx => rr x (by omega)) _ hF, fun g gs hg => ?_⟩
  obtain ⟨c1, c2, c3⟩ := hT g gs hg
  exact ⟨by rw [v82, if_pos rfl], by rw [n 6 (by omega)]; exact c2, STc.low _ (fun j _ => by rw [rr 89 (by decide)]) c3⟩
theorem L89_S (R : mjR) (n a : Nat) (b c : Int32) (hp : mjH) : L_89_118 R (n + 1) a b c hp = b_89_118 R (L_89_118 R n) a b c hp := rfl
/-- the PARAMS that a CALL has when so many values still wait -/
def vfC (st : List Int32) (n i : Nat) : Nat → Int32 := fun x => if i ≤ x ∧ x < n then st[n - 1 - x]?.getD 0 else 0
theorem lq_89 (C : CPH T L q s) (hl : (f :: fs).length < 40) (hs : st.length < 5120) (n6 : n ≤ 6) (hn1 : n + 1 ≤ st.length) (hm : d' ≤ 384) (hst : s.1 (q + 23) d' = nI (pf d' 0)) : ∀ (i m : Nat) (s1 : mjSt3), i ≤ n → i < m → oCn s s1 → CRn T L pf wm cm pc (H, (d', o, -1, vfC st n i, k) :: f :: fs, k, st.drop (n - i), sc) s1 → ∃ s', L_89_118 (mjF (d + 4)) m 82 (nI d') (nI i + (-1)) (mjW0 s1) = some (none, mjW0 s') ∧ oCn s1 s' ∧ CRn T L pf wm cm (pf d' 0) (H, (d', o, -1, vfC st n 0, k) :: f :: fs, 0, st.drop (n + 1), sc) s'
  | i, 0, s1, _, h, _, _ => by omega
  | 0, m + 1, s1, hi, h, o1, M => by
    obtain ⟨hq, _⟩ := C.1.1
    have ed : st.drop (n - 0) = st[n]?.getD 0 :: st.drop (n + 1) := dr_c st n (by omega)
    rw [ed] at M
    obtain ⟨s2, a1, a2, a3⟩ := x_80 (d := d + 3) M (by rw [List.length_drop]; omega)
    have o12 := offG.tr o1 a2
    have C2 := C.run o12
    have e23 : s2.1 (q + 23) d' = nI (pf d' 0) := by
      rw [o12.1 (q + 23) d' (fun x => by have h1 : 79 ≤ q + 23 ∧ q + 23 ≤ 90 := x; have h2 : q = 2 ∨ q = 30 := hq; omega)]
      exact hst
    refine ⟨uI s2 82 (upd (s2.1 82) 4 (nI (pf d' 0))), ?_, offG.tr a2 (oCn.wr (by omega)), (a3.jmp 0).pcs (pf d' 0)⟩
    rw [L89_S]
    unfold b_89_118
    rw [if_pos (show nI 0 + (-1 : Int32) < 0 by decide), xV_82, a1, bI_s, xg_82_2, C2.2.1, yg_14 hq, ymg_9 hq, wya_23 hq (by omega), e23, xp_82_4]
  | i + 1, m + 1, s1, hi, h, o1, M => by
    have ed : st.drop (n - (i + 1)) = st[n - (i + 1)]?.getD 0 :: st.drop (n - i) := by
      have := dr_c st (n - (i + 1)) (by omega)
      rw [show n - (i + 1) + 1 = n - i by omega] at this
      exact this
    rw [ed] at M
    obtain ⟨s2, a1, a2, a3⟩ := x_80 (d := d + 3) M (by rw [List.length_drop]; omega)
    obtain ⟨s3, b1, b2', b3⟩ := x_40 (d := d + 1) a3 hl (show i < 16 by omega) (st[n - (i + 1)]?.getD 0)
    have ev : setV (d', o, -1, vfC st n (i + 1), k) i (st[n - (i + 1)]?.getD 0) = (d', o, -1, vfC st n i, k) := by
      unfold setV
      dsimp only
      have : (fun y => if y = i then st[n - (i + 1)]?.getD 0 else vfC st n (i + 1) y) = vfC st n i := by
        funext y
        unfold vfC
        by_cases e : y = i
        · rw [if_pos e, if_pos (by omega), e, show n - 1 - i = n - (i + 1) by omega]
        · rw [if_neg e]
          by_cases e2 : i ≤ y ∧ y < n
          · rw [if_pos e2, if_pos (by omega)]
          · rw [if_neg e2, if_neg (by omega)]
      rw [this]
    rw [ev] at b3
    obtain ⟨s4, c1, c2, c3⟩ := lq_89 C hl hs n6 hn1 hm hst i m s3 (by omega) (by omega) (offG.tr o1 (offG.tr a2 b2')) b3
    refine ⟨s4, ?_, offG.tr a2 (offG.tr b2' c2), c3⟩
    rw [L89_S]
    unfold b_89_118
    rw [nI_m, if_neg (show ¬ nI i < 0 from nI_nlt (b := 0) (Nat.zero_le _) (by omega)), xg_82_1, xV_82, a1, bI_s, xV_83, b1, bN_s, c1]
/-- callMethod -/
theorem x_89 (Ac : ACY T N L) (M : CRn T L pf wm cm pc (H, f :: fs, k, st, sc) s) (C : CPH T L q s) (B : HBs T L H) (hO : HOK T L H) (hcl : (f :: fs).length ≤ cm) (cm4 : cm ≤ 40) (ms : sc.1 < 100) (hs : st.length < 5120) (hm : m < nMem L) (n6 : (psM L m).length ≤ 6) (hn1 : (psM L m).length + 1 ≤ st.length) (hpc : pc = pf f.1 k) (hst : ∀ x, x < nMem L → mSM L x = true → s.1 (q + 23) x = nI (pf x 0)) (hv : st[(psM L m).length]?.getD 0 = 0 ∨ ∃ o, st[(psM L m).length]?.getD 0 = nI o ∧ 1 ≤ o ∧ o ≤ H.1) (p : Int32) : ∃ s', mjF (d + 5) 89 [.ref 82, .int (nI m), .int p] (mjW0 s) = some (none, mjW0 s') ∧ oCn s s' ∧ CRn T L pf wm cm (pcO pf (aCall T L cm (psM L m).length m p (H, f :: fs, k, st, sc) (f :: fs))) (aCall T L cm (psM L m).length m p (H, f :: fs, k, st, sc) (f :: fs)) s' := by
  have hn := Ac.1
  obtain ⟨n, en⟩ : ∃ n, n = (psM L m).length := ⟨_, rfl⟩
  have P := C.1
  obtain ⟨⟨hq, g2, g3, h16⟩, ⟨g5, g6, g7⟩, _, _, g13, ⟨g14, g15⟩, g16, g17, _⟩ := P
  have u20 := (g16 m hm).2.2.2
  have h79 : s.1 79 2 = nI H.1 := M.1.2.2.1.2.1
  have h830 : s.1 83 0 = nI (f :: fs).length := M.1.2.2.1.2.2
  have h827 : s.1 82 7 = nI cm := M.1.2.2.2.1.2
  have hHp : HPc T L H s := M.2.1
  have hb := B.1
  have hb2 := B.2
  have hmj := mjN_v
  obtain ⟨h824, _⟩ := M.2.2.2 f fs rfl
  have pre : mjF (d + 5) 89 [.ref 82, .int (nI m), .int p] (mjW0 s) = bI (mjF (d + 4) 43 [.ref 79, .int (st[n]?.getD 0)] (mjW0 s)) (fun v8 hp9 => (if v8 = 0 then rV hp9 82 5 (bN (mjF (d + 4) 82 [.ref 82, .int (1 : Int32), .int p] hp9) (fun  hp27 => some (none, hp27))) else gR hp9 82 5 1 (fun v10 => gI hp9 v10 2 0 (fun v11 => gI hp9 82 5 7 (fun v12 => (if v11 < v12 then gR hp9 82 5 2 (fun v13 => gR hp9 82 5 0 (fun v14 => rV hp9 v14 3 (bI (mjF (d + 4) 46 [.ref v14, .int (st[n]?.getD 0)] hp9) (fun v15 hp16 => gR hp16 82 5 2 (fun v17 => gR hp16 v17 7 14 (fun v18 => gR hp16 v18 6 1 (fun v19 => aL hp16 v19 (nI m) (fun v20 => rV hp16 v13 7 (bI (mjF (d + 4) 121 [.ref v13, .int v15, .long v20, .int (1 : Int32)] hp16) (fun v21 hp22 => (if v21 = (-1 : Int32) then some (none, hp22) else gR hp22 82 5 1 (fun v23 => gI hp22 82 5 4 (fun v24 => rV hp22 v23 2 (bN (mjF (d + 4) 37 [.ref v23, .int v21, .int (st[n]?.getD 0), .int v24] hp22) (fun  hp25 => L_89_118 (mjF (d + 4)) mjN 82 v21 (nI n - (1 : Int32)) hp25))))))))))))))) else rV hp9 82 5 (bN (mjF (d + 4) 82 [.ref 82, .int (5 : Int32), .int p] hp9) (fun  hp26 => some (none, hp26))))))))) := by
    rw [e_89]
    unfold f_89 b_89_0
    rw [xg_82_2, C.2.1, yg_14 hq, ymg_6 hq, wya_20 hq (by omega), u20, ← en, xV_82, x_90 M hs (show n < st.length by omega), bI_s, xg_82_0, xV_79]
  rw [pre, ← en, aCall_eq]
  rw [← en] at hv
  by_cases g1 : st[n]?.getD 0 = 0
  · obtain ⟨s', a1, a2, a3⟩ := x_82 (d := d + 2) M 1 p
    exact ⟨s', by rw [g1, x_43z, bI_s, if_pos rfl, xV_82, a1, bN_s], a2, by rw [if_pos g1]; exact a3 _⟩
  obtain ⟨o, e1, o1, o2⟩ := hv.resolve_left g1
  rw [if_neg g1, e1, x_43o h79 (by omega) o1 o2, bI_s, if_neg (show ¬ ((1 : Int32) = 0) by decide), xg_82_1, xg_83_0, h830, xg_82_7, h827, nN_nI (by omega)]
  by_cases g2' : (f :: fs).length = cm
  · obtain ⟨s', a1, a2, a3⟩ := x_82 (d := d + 2) M 5 p
    exact ⟨s', by rw [if_neg (nI_nlt (by omega) (by omega)), xV_82, a1, bN_s], a2, by rw [if_pos g2']; exact a3 _⟩
  have cl := (hO o o1 o2).1
  have x121 : mjF (d + 4) 121 [.ref q, .int (nI (H.2 o).1), .long (s.2.1 (q + 15) m), .int 1] (mjW0 s) = some (some (.int (oI (memT T L (H.2 o).1 (nkM T L m) true))), mjW0 s) := x_121g (d := d + 1) hn C.1 cl hm true
  rw [if_neg g2', if_pos (nI_lt (by omega) (by omega)), xg_82_2, C.2.1, xg_82_0, xV_79, x_46 hHp B o1 o2, bI_s, xg_82_2, C.2.1, yg_14 hq, ymg_1 hq, wya_15 hq (by omega), yV hq, x121, bI_s]
  cases hmt : memT T L (H.2 o).1 (nkM T L m) true with
  | none =>
    refine ⟨s, by rw [oI_n, if_pos rfl], offG.rf, ?_⟩
    have e : pcO pf (H, f :: fs, k, st, sc) = pc := hpc.symm
    show CRn T L pf wm cm (pcO pf (H, f :: fs, k, st, sc)) (H, f :: fs, k, st, sc) s
    rw [e]
    exact M
  | some y =>
    obtain ⟨y1, _, _, y2, _⟩ := mem_in Ac cl hmt
    have hl : fs.length + 1 < 40 := by have : (f :: fs).length = fs.length + 1 := rfl; omega
    obtain ⟨s1, a1, a2, a3⟩ := x_37 (d := d + 1) M hl ms hpc y o
    have e0 : (fun _ => 0 : Nat → Int32) = vfC st n n := by
      funext x
      unfold vfC
      rw [if_neg (by omega)]
    have ed : st = st.drop (n - n) := by rw [Nat.sub_self]; rfl
    rw [e0] at a3
    have a3' : CRn T L pf wm cm pc (H, (y, o, -1, vfC st n n, k) :: f :: fs, k, st.drop (n - n), (if sc.1 < (f :: fs).length + 1 then (f :: fs).length + 1 else sc.1), sc.2) s1 := by rw [← ed]; exact a3
    obtain ⟨s2, c1, c2, c3⟩ := lq_89 (d := d) (n := n) (o := o) (k := k) C hl hs (by omega) (by omega) (show y ≤ 384 by omega) (hst y y1 y2) n mjN s1 (Nat.le_refl _) (by omega) a2 a3'
    have ev : vfC st n 0 = fun i => if i < n then st[n - 1 - i]?.getD 0 else 0 := by
      funext x
      unfold vfC
      by_cases e : x < n
      · rw [if_pos e, if_pos (by omega)]
      · rw [if_neg e, if_neg (by omega)]
    rw [ev] at c3
    refine ⟨s2, ?_, offG.tr a2 c2, c3⟩
    rw [oI_s, if_neg (nI_m1 (by omega)), xg_82_1, xg_82_4, h824, xV_83, a1, bN_s, show nI n - (1 : Int32) = nI n + (-1) from Int32.sub_eq_add_neg _ _, c1]
end MJB61
