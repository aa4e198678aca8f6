/-! ===== the class's instructions ===== -/
section MJB62
variable {T : TT} {N wm cm pc k k' n d i o q x kk c m y : Nat} {pf : Nat → Nat → Nat} {L : List CD} {H H' : HEAP} {f g : FRM} {fs gs : List FRM} {st st' : List Int32} {sc : SCL} {s s' : mjSt3} {A : AMS} {v w p a : Int32}
theorem CRn.nil (M : CRn T L pf wm cm pc (H, [], k, st, sc) s) (pc' k' : Nat) (st' : List Int32) : CRn T L pf wm cm pc' (H, [], k', st', sc) s := ⟨M.1, M.2.1, M.2.2.1, fun g gs hg => by cases hg⟩
theorem i_push (M : CRn T L pf wm cm pc (H, f :: fs, k, st, sc) s) (hl : st.length < 5120) : ∃ s', mjF (d + 2) 78 [.ref 82, .int 0, .int v, .int p] (mjW0 s) = some (none, mjW0 s') ∧ oCn s s' ∧ CRn T L pf wm cm pc (H, f :: fs, k, v :: st, sc) s' := by
  obtain ⟨s', a1, a2, a3⟩ := x_79 (d := d) M hl v
  refine ⟨s', ?_, a2, a3⟩
  rw [e_78]
  unfold f_78 b_78_0
  rw [if_pos rfl, xV_82, a1, bN_s]
theorem i_load (M : CRn T L pf wm cm pc (H, f :: fs, k, st, sc) s) (hl : st.length < 5120) (hf : fs.length < 40) (hx : x < 16) : ∃ s', mjF (d + 3) 78 [.ref 82, .int 1, .int (nI x), .int p] (mjW0 s) = some (none, mjW0 s') ∧ oCn s s' ∧ CRn T L pf wm cm pc (H, f :: fs, k, f.2.2.2.1 x :: st, sc) s' := by
  obtain ⟨s', a1, a2, a3⟩ := x_79 (d := d + 1) M hl (f.2.2.2.1 x)
  refine ⟨s', ?_, a2, a3⟩
  rw [e_78]
  unfold f_78 b_78_0
  rw [if_neg (by decide), if_pos rfl, xg_82_1, xg_82_1, xV_83, x_38 M hf, bI_s, xV_83, x_39 M hf hx, bI_s, xV_82, a1, bN_s]
theorem i_store (M : CRn T L pf wm cm pc (H, f :: fs, k, v :: st, sc) s) (hl : st.length < 5120) (hf : fs.length < 40) (hx : x < 16) : ∃ s', mjF (d + 4) 78 [.ref 82, .int 2, .int (nI x), .int p] (mjW0 s) = some (none, mjW0 s') ∧ oCn s s' ∧ CRn T L pf wm cm pc (H, setV f x v :: fs, k, st, sc) s' := by
  obtain ⟨s1, a1, a2, a3⟩ := x_80 (d := d + 2) M hl
  obtain ⟨s2, c1, c2, c3⟩ := x_40 (d := d) a3 hf hx v
  refine ⟨s2, ?_, offG.tr a2 c2, c3⟩
  rw [e_78]
  unfold f_78 b_78_0
  rw [if_neg (by decide), if_neg (by decide), if_pos rfl, xg_82_1, xV_82, a1, bI_s, xV_83, c1, bN_s]
theorem i_self (M : CRn T L pf wm cm pc (H, f :: fs, k, st, sc) s) (hl : st.length < 5120) (hf : fs.length < 40) : ∃ s', mjF (d + 3) 78 [.ref 82, .int 3, .int a, .int p] (mjW0 s) = some (none, mjW0 s') ∧ oCn s s' ∧ CRn T L pf wm cm pc (H, f :: fs, k, nI f.2.1 :: st, sc) s' := by
  obtain ⟨s', a1, a2, a3⟩ := x_79 (d := d + 1) M hl (nI f.2.1)
  have e85 : s.1 85 fs.length = nI f.2.1 := M.2.2.1.1.2.1
  refine ⟨s', ?_, a2, a3⟩
  rw [e_78]
  unfold f_78 b_78_0
  rw [if_neg (by decide), if_neg (by decide), if_neg (by decide), if_pos rfl, xg_82_1, xg_83_3, xg_82_1, xV_83, x_38 M hf, bI_s, wa_85 hf, e85, xV_82, a1, bN_s]
theorem i_put (M : CRn T L pf wm cm pc (H, f :: fs, k, v :: w :: st, sc) s) (B : HBs T L H) (hl : st.length + 1 < 5120) (hv : w = 0 ∨ ∃ o, w = nI o ∧ 1 ≤ o ∧ o ≤ H.1 ∧ i < fldT T L (H.2 o).1) : ∃ s', mjF (d + 4) 78 [.ref 82, .int 4, .int (nI i), .int p] (mjW0 s) = some (none, mjW0 s') ∧ oCn s s' ∧ (w = 0 → ∀ pc' k' st', CRn T L pf wm cm pc' (aFail (H, f :: fs, k', st', sc) 1 p) s') ∧ (¬ w = 0 → CRn T L pf wm cm pc (setF H (nN w) i v, f :: fs, k, st, sc) s') := by
  have hb := B.1
  have hb2 := B.2
  obtain ⟨s1, a1, a2, a3⟩ := x_80 (d := d + 1) M hl
  obtain ⟨s2, c1, c2, c3⟩ := x_80 (d := d + 1) a3 (by omega)
  have pre : mjF (d + 4) 78 [.ref 82, .int 4, .int (nI i), .int p] (mjW0 s) = bN (bI (mjF (d + 2) 43 [.ref 79, .int w] (mjW0 s2)) (fun v6 hp7 => (if v6 = 0 then rV hp7 82 5 (bN (mjF (d + 2) 82 [.ref 82, .int (1 : Int32), .int p] hp7) (fun  hp8 => some (none, hp8))) else gR hp7 82 5 0 (fun v9 => rV hp7 v9 3 (bN (mjF (d + 2) 44 [.ref v9, .int w, .int (nI i), .int v] hp7) (fun  hp10 => some (none, hp10))))))) (fun hp25 => some (none, hp25)) := by
    rw [e_78]
    unfold f_78 b_78_0
    rw [if_neg (by decide), if_neg (by decide), if_neg (by decide), if_neg (by decide), if_pos rfl, xV_82, e_81]
    unfold f_81 b_81_0
    rw [xV_82, a1, bI_s, xV_82, c1, bI_s, xg_82_0, xV_79]
  by_cases w0 : w = 0
  · obtain ⟨s3, d1, d2, d3⟩ := x_82 (d := d) c3 1 p
    refine ⟨s3, ?_, offG.tr a2 (offG.tr c2 d2), fun _ pc' k' st' => CRn.nil (d3 0) pc' k' st', fun h => absurd w0 h⟩
    rw [pre, w0, x_43z, bI_s, if_pos rfl, xV_82, d1, bN_s, bN_s]
  · obtain ⟨o, e1, o1, o2, o3⟩ := hv.resolve_left w0
    have h79 : s2.1 79 2 = nI H.1 := c3.1.2.2.1.2.1
    obtain ⟨s3, d1, d2, d3⟩ := x_44 (d := d + 1) c3 B o1 o2 o3 v
    refine ⟨s3, ?_, offG.tr a2 (offG.tr c2 d2), fun h => absurd h w0, fun _ => ?_⟩
    · rw [pre, e1, x_43o h79 (by omega) o1 o2, bI_s, if_neg (show ¬ ((1 : Int32) = 0) by decide), xg_82_0, xV_79, d1, bN_s, bN_s]
    · rw [e1, nN_nI (by omega)]
      exact d3
theorem i_pop (M : CRn T L pf wm cm pc (H, f :: fs, k, v :: st, sc) s) (hl : st.length < 5120) : ∃ s', mjF (d + 2) 78 [.ref 82, .int 5, .int a, .int p] (mjW0 s) = some (none, mjW0 s') ∧ oCn s s' ∧ CRn T L pf wm cm pc (H, f :: fs, k, st, sc) s' := by
  obtain ⟨s1, a1, a2, a3⟩ := x_80 (d := d) M hl
  refine ⟨s1, ?_, a2, a3⟩
  rw [e_78]
  unfold f_78 b_78_0
  rw [if_neg (by decide), if_neg (by decide), if_neg (by decide), if_neg (by decide), if_neg (by decide), if_pos rfl, xV_82, a1, bI_s]
theorem i_jump (M : CRn T L pf wm cm pc (H, f :: fs, k, st, sc) s) : ∃ s', mjF (d + 1) 78 [.ref 82, .int 6, .int (nI y), .int p] (mjW0 s) = some (none, mjW0 s') ∧ oCn s s' ∧ CRn T L pf wm cm y (H, f :: fs, k, st, sc) s' := by
  refine ⟨uI s 82 (upd (s.1 82) 4 (nI y)), ?_, oCn.wr (by omega), M.pcs y⟩
  rw [e_78]
  unfold f_78 b_78_0
  rw [if_neg (by decide), if_neg (by decide), if_neg (by decide), if_neg (by decide), if_neg (by decide), if_neg (by decide), if_pos rfl, xp_82_4]
theorem i_jz (M : CRn T L pf wm cm pc (H, f :: fs, k, v :: st, sc) s) (hl : st.length < 5120) : ∃ s', mjF (d + 2) 78 [.ref 82, .int 7, .int (nI y), .int p] (mjW0 s) = some (none, mjW0 s') ∧ oCn s s' ∧ CRn T L pf wm cm (if v = 0 then y else pc) (H, f :: fs, k, st, sc) s' := by
  obtain ⟨s1, a1, a2, a3⟩ := x_80 (d := d) M hl
  have h4 : s1.1 82 4 = nI pc := (a3.2.2.2 f fs rfl).1
  refine ⟨uI s1 82 (upd (s1.1 82) 4 (nI (if v = 0 then y else pc))), ?_, offG.tr a2 (oCn.wr (by omega)), a3.pcs _⟩
  rw [e_78]
  unfold f_78 b_78_0 b_78_160
  rw [if_neg (by decide), if_neg (by decide), if_neg (by decide), if_neg (by decide), if_neg (by decide), if_neg (by decide), if_neg (by decide), if_pos rfl, xV_82, a1, bI_s]
  by_cases e : v = 0
  · rw [if_pos e, if_pos e, xp_82_4]
  · rw [if_neg e, if_neg e, xg_82_4, h4, xp_82_4]
theorem i_say (M : CRn T L pf wm cm pc (H, f :: fs, k, v :: st, sc) s) (hl : st.length < 5120) (hs : sc.2.1 < 100000000) : ∃ s', mjF (d + 2) 78 [.ref 82, .int 8, .int a, .int p] (mjW0 s) = some (none, mjW0 s') ∧ oCn s s' ∧ CRn T L pf wm cm pc (H, f :: fs, k, st, sc.1, sc.2.1 + 1, (fun i => if i = sc.2.1 ∧ i < 200 then v else sc.2.2.1 i), sc.2.2.2) s' := by
  obtain ⟨s1, a1, a2, a3⟩ := x_80 (d := d) M hl
  obtain ⟨s2, c1, c2, c3⟩ := x_83 (d := d) a3 hs v
  refine ⟨s2, ?_, offG.tr a2 c2, c3⟩
  rw [e_78]
  unfold f_78 b_78_0
  rw [if_neg (by decide), if_neg (by decide), if_neg (by decide), if_neg (by decide), if_neg (by decide), if_neg (by decide), if_neg (by decide), if_neg (by decide), if_pos rfl, xV_82, a1, bI_s, xV_82, c1, bN_s]
theorem i_ret (M : CRn T L pf wm cm pc (H, f :: fs, k, v :: st, sc) s) (hl : st.length < 5120) (hf : fs.length < 40) : ∃ s', mjF (d + 4) 78 [.ref 82, .int 9, .int a, .int p] (mjW0 s) = some (none, mjW0 s') ∧ oCn s s' ∧ CRn T L pf wm cm (pcO pf (aRet (H, f :: fs, k, st, sc) f fs v)) (aRet (H, f :: fs, k, st, sc) f fs v) s' := by
  obtain ⟨s1, a1, a2, a3⟩ := x_80 (d := d + 2) M hl
  have pre : mjF (d + 4) 78 [.ref 82, .int 9, .int a, .int p] (mjW0 s) = bN (mjF (d + 3) 84 [.ref 82, .int v] (mjW0 s1)) (fun hp => some (none, hp)) := by
    rw [e_78]
    unfold f_78 b_78_0
    rw [if_neg (by decide), if_neg (by decide), if_neg (by decide), if_neg (by decide), if_neg (by decide), if_neg (by decide), if_neg (by decide), if_neg (by decide), if_neg (by decide), xV_82, a1, bI_s, xV_82]
  rw [pre]
  cases fs with
  | nil =>
    obtain ⟨s2, c1, c2, c3⟩ := x_84n (d := d) a3 v
    exact ⟨s2, by rw [c1, bN_s], offG.tr a2 c2, c3 _⟩
  | cons g gs =>
    obtain ⟨s2, c1, c2, c3⟩ := x_84c (d := d) a3 hf hl v
    exact ⟨s2, by rw [c1, bN_s], offG.tr a2 c2, c3⟩
/-- STATEMENT -/
theorem i_stmt (M : CRn T L pf wm cm pc (H, f :: fs, k, st, sc) s) (hf : fs.length < 40) : ∃ s', mjF (d + 3) 87 [.ref 82, .int 10, .int a, .int p] (mjW0 s) = some (none, mjW0 s') ∧ oCn s s' ∧ CRn T L pf wm cm pc (H, (f.1, f.2.1, p, f.2.2.2) :: fs, k, st, sc) s' := by
  obtain ⟨z1, g1⟩ : ∃ y, y = uI s 87 (upd (s.1 87) fs.length p) := ⟨_, rfl⟩
  have r1 : ∀ h, ¬ h = 87 → z1.1 h = s.1 h := fun h e => by rw [g1]; exact uI_ne _ _ _ _ e
  have v87 : ∀ j, z1.1 87 j = if j = fs.length then p else s.1 87 j := fun j => by rw [g1, uI_same, upd_g]
  obtain ⟨⟨b1, b2', b3, b4, b5⟩, b6⟩ := M.2.2.1
  refine ⟨z1, ?_, by rw [g1]; exact oCn.wr (by omega), M.frm (fun h h1 h2 => r1 h (by omega)) ⟨⟨by rw [r1 84 (by decide)]; exact b1, by rw [r1 85 (by decide)]; exact b2', by rw [v87, if_pos rfl], fun y hy => by rw [r1 88 (by decide)]; exact b4 y hy, fun g gs hg => by rw [r1 86 (by decide)]; exact b5 g gs hg⟩, FRc.low (n := fs.length) (fun h j h1 h2 => ?_) (fun j hj => by rw [r1 88 (by decide)]) fs (Nat.le_refl _) b6⟩⟩
  · rw [e_87]
    unfold f_87 b_87_0
    rw [if_pos rfl, xg_82_1, xg_83_5, xg_82_1, xV_83, x_38 M hf, bI_s, ws_87 hf, ← g1]
  · by_cases e : h = 87
    · rw [e, v87, if_neg (by omega)]
    · rw [r1 h e]
theorem i_loop : mjF (d + 1) 87 [.ref 82, .int 11, .int a, .int p] (mjW0 s) = some (none, mjW0 s) := by
  rw [e_87]
  unfold f_87 b_87_0
  rw [if_neg (by decide), if_pos rfl]
theorem i_get (M : CRn T L pf wm cm pc (H, f :: fs, k, w :: st, sc) s) (B : HBs T L H) (hl : st.length < 5120) (hv : w = 0 ∨ ∃ o, w = nI o ∧ 1 ≤ o ∧ o ≤ H.1 ∧ i < fldT T L (H.2 o).1) : ∃ s', mjF (d + 4) 87 [.ref 82, .int 12, .int (nI i), .int p] (mjW0 s) = some (none, mjW0 s') ∧ oCn s s' ∧ (w = 0 → ∀ pc' k' st', CRn T L pf wm cm pc' (aFail (H, f :: fs, k', st', sc) 1 p) s') ∧ (¬ w = 0 → CRn T L pf wm cm pc (H, f :: fs, k, (H.2 (nN w)).2.2 i :: st, sc) s') := by
  have hb := B.1
  have hb2 := B.2
  obtain ⟨s1, a1, a2, a3⟩ := x_80 (d := d + 1) M hl
  have pre : mjF (d + 4) 87 [.ref 82, .int 12, .int (nI i), .int p] (mjW0 s) = bN (bI (mjF (d + 2) 43 [.ref 79, .int w] (mjW0 s1)) (fun v4 hp5 => (if v4 = 0 then rV hp5 82 5 (bN (mjF (d + 2) 82 [.ref 82, .int (1 : Int32), .int p] hp5) (fun  hp6 => some (none, hp6))) else gR hp5 82 5 0 (fun v7 => rV hp5 v7 3 (bI (mjF (d + 2) 45 [.ref v7, .int w, .int (nI i)] hp5) (fun v8 hp9 => rV hp9 82 5 (bN (mjF (d + 2) 79 [.ref 82, .int v8] hp9) (fun  hp10 => some (none, hp10))))))))) (fun hp25 => some (none, hp25)) := by
    rw [e_87]
    unfold f_87 b_87_0
    rw [if_neg (by decide), if_neg (by decide), if_pos rfl, xV_82, e_88]
    unfold f_88 b_88_0
    rw [xV_82, a1, bI_s, xg_82_0, xV_79]
  by_cases w0 : w = 0
  · obtain ⟨s3, d1, d2, d3⟩ := x_82 (d := d) a3 1 p
    refine ⟨s3, ?_, offG.tr a2 d2, fun _ pc' k' st' => CRn.nil (d3 0) pc' k' st', fun h => absurd w0 h⟩
    rw [pre, w0, x_43z, bI_s, if_pos rfl, xV_82, d1, bN_s, bN_s]
  · obtain ⟨o, e1, o1, o2, o3⟩ := hv.resolve_left w0
    have h79 : s1.1 79 2 = nI H.1 := a3.1.2.2.1.2.1
    have hHp : HPc T L H s1 := a3.2.1
    obtain ⟨s3, d1, d2, d3⟩ := x_79 (d := d + 1) a3 hl ((H.2 o).2.2 i)
    refine ⟨s3, ?_, offG.tr a2 d2, fun h => absurd h w0, fun _ => ?_⟩
    · rw [pre, e1, x_43o h79 (by omega) o1 o2, bI_s, if_neg (show ¬ ((1 : Int32) = 0) by decide), xg_82_0, xV_79, x_45 hHp B o1 o2 o3, bI_s, xV_82, d1, bN_s, bN_s]
    · rw [e1, nN_nI (by omega)]
      exact d3
theorem i_neg (M : CRn T L pf wm cm pc (H, f :: fs, k, v :: st, sc) s) (hl : st.length < 5120) : ∃ s', mjF (d + 2) 87 [.ref 82, .int 16, .int a, .int p] (mjW0 s) = some (none, mjW0 s') ∧ oCn s s' ∧ CRn T L pf wm cm pc (H, f :: fs, k, (-v) :: st, sc) s' := by
  obtain ⟨s1, a1, a2, a3⟩ := x_80 (d := d) M hl
  obtain ⟨s2, c1, c2, c3⟩ := x_79 (d := d) a3 hl (-v)
  refine ⟨s2, ?_, offG.tr a2 c2, c3⟩
  rw [e_87]
  unfold f_87 b_87_0
  rw [if_neg (by decide), if_neg (by decide), if_neg (by decide), if_neg (by decide), if_neg (by decide), if_neg (by decide), if_pos rfl, xV_82, a1, bI_s, xV_82, c1, bN_s]
end MJB62
