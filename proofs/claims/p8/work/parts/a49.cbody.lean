/-! ===== the Coder: one METHOD ===== -/
section MJA49
variable {E : EV} {d N q c m n i k cs bt td kq : Nat} {s s' s0 : mjSt3} {j : JS}
/-- where a METHOD's code begins: its CLASS, its TYPE, its start, its BLOCK -/
theorem x_begin (C : CB E.1 N q E.2.1 E.2.2.1 s) (V : VSr E.1 N E.2.1 j.2.2.1 j.2.2.2.1 s) (f : fne s c) (hc : c ≤ N) (sz : s.1 (q + 24) 3 = nI cs) (hm : m < 385) (h16 : s.1 (q + 16) m = oI E.2.2.2.2.1) (hh : ∀ c, E.2.2.2.2.1 = some c → c < E.2.1.length) (h17 : s.1 (q + 17) m = tyI E.2.2.2.2.2.1) (hr : vT E.2.1 E.2.2.2.2.2.1) (h70 : s.1 70 m = nI bt) (hbt : bt ≤ N) : ∃ s', (∀ K : mjH → mjU, gR (mjW0 s) 75 1 4 (fun v8 => gR (mjW0 s) v8 6 2 (fun v9 => aI (mjW0 s) v9 (nI m) (fun v10 => pI (mjW0 s) 75 1 6 v10 (fun hp11 => gR hp11 75 1 4 (fun v12 => gR hp11 v12 6 3 (fun v13 => aI hp11 v13 (nI m) (fun v14 => pI hp11 75 1 7 v14 (fun hp15 => gR hp15 75 1 4 (fun v16 => gR hp15 v16 6 9 (fun v17 => gR hp15 75 1 5 (fun v18 => gI hp15 v18 0 3 (fun v19 => sI hp15 v17 (nI m) v19 (fun hp20 => gR hp20 75 1 0 (fun v21 => gR hp20 75 1 1 (fun v22 => gR hp20 v22 8 8 (fun v23 => aI hp20 v23 (nI m) (fun v24 => rV hp20 v21 9 (bN (mjF (d + 1) 179 [.ref v21, .int v24] hp20) (fun hp25 => K hp25))))))))))))))))))) = K (mjW0 s')) ∧ CE E N q s' j cs ∧ RT E s' ∧ fne s' bt ∧ oC q s s' ∧ (∀ h, ¬ h = 58 → ¬ h = 75 → ¬ h = q + 23 → s'.1 h = s.1 h) ∧ s'.1 (q + 23) = upd (s.1 (q + 23)) m (nI cs) ∧ s'.2 = s.2 := by
  have hq' : q = 2 ∨ q = 30 := C.pq
  obtain ⟨z1, h1⟩ : ∃ z, z = uI s 75 (upd (s.1 75) 6 (oI E.2.2.2.2.1)) := ⟨_, rfl⟩
  obtain ⟨z2, h2⟩ : ∃ z, z = uI z1 75 (upd (z1.1 75) 7 (tyI E.2.2.2.2.2.1)) := ⟨_, rfl⟩
  obtain ⟨z3, h3⟩ : ∃ z, z = uI z2 (q + 23) (upd (z2.1 (q + 23)) m (nI cs)) := ⟨_, rfl⟩
  have r1 : ∀ h, ¬ h = 75 → z1.1 h = s.1 h := fun h e => by rw [h1, uI_ne _ _ _ _ e]
  have r2 : ∀ h, ¬ h = 75 → z2.1 h = s.1 h := fun h e => by rw [h2, uI_ne _ _ _ _ e, r1 h e]
  have r3 : ∀ h, ¬ h = 75 → ¬ h = q + 23 → z3.1 h = s.1 h := fun h e g => by rw [h3, uI_ne _ _ _ _ g, r2 h e]
  have o1 : oC q s z1 := by rw [h1]; exact offG.w (Or.inr (Or.inl ⟨rfl, by omega, by omega⟩))
  have o2 : oC q z1 z2 := by rw [h2]; exact offG.w (Or.inr (Or.inl ⟨rfl, by omega, by omega⟩))
  have o3 : oC q z2 z3 := by rw [h3]; exact offG.w (Or.inr (Or.inr (Or.inr (Or.inr (Or.inr (Or.inr rfl))))))
  have oz : oC q s z3 := o1.tr (o2.tr o3)
  have C1 := C.oC o1
  have C2 := C.oC (o1.tr o2)
  have C3 := C.oC oz
  have f3 : fne z3 c := ⟨by rw [r3 58 (by decide) (by omega)]; exact f.1, by rw [r3 58 (by decide) (by omega)]; exact f.2⟩
  have xg : o58 z3 (tkGo z3 bt) := o58.go _ _
  have g75 : ∀ j, ¬ j = 6 → ¬ j = 7 → z3.1 75 j = s.1 75 j := fun j a b => by rw [h3, uI_ne _ _ _ _ (by omega), h2, uI_same, upd_g, if_neg b, h1, uI_same, upd_g, if_neg a]
  have e6 : z3.1 75 6 = oI E.2.2.2.2.1 := by rw [h3, uI_ne _ _ _ _ (by omega), h2, uI_same, upd_g, if_neg (by decide), h1, uI_same, upd_g, if_pos rfl]
  have e7 : z3.1 75 7 = tyI E.2.2.2.2.2.1 := by rw [h3, uI_ne _ _ _ _ (by omega), h2, uI_same, upd_g, if_pos rfl]
  have ez : z3.2 = s.2 := by rw [h3, h2, h1]; rfl
  have V3 : VSr E.1 N E.2.1 j.2.2.1 j.2.2.2.1 z3 := by
    unfold VSr
    rw [g75 11 (by decide) (by decide), g75 12 (by decide) (by decide), r3 77 (by decide) (by omega), r3 78 (by decide) (by omega), ez]
    exact V
  refine ⟨tkGo z3 bt, fun K => ?_, ⟨C3.oC xg.C, by rw [xg.r (by decide)]; exact e6, hh, V3.oE C.pq xg.oe, ?_⟩, ⟨by rw [xg.r (by decide)]; exact e7, hr⟩, f3.go bt, oz.tr xg.C, fun h a b c => by rw [xg.r a, r3 h b c], ?_, ez⟩
  · rw [xg_75_4, C.2.2.2.2.2.2.1, ymg_2 C.pq, wya_16 C.pq hm, h16, xp_75_6, ← h1, xg_75_4, C1.2.2.2.2.2.2.1, ymg_3 C.pq, wya_17 C.pq hm, r1 _ (by omega), h17, xp_75_7, ← h2, xg_75_4, C2.2.2.2.2.2.2.1, ymg_9 C.pq, xg_75_5, C2.2.2.2.2.2.2.2, ycg_3 C.pq, r2 _ (by omega), sz, wys_23 C.pq hm, ← h3, xg_75_0, xg_75_1, xg_64_8, wa_70 hm, r3 70 (by decide) (by omega), h70, xV_58, j_go C3.1.1.1 f3 hc hbt, bN_s]
  · rw [xg.r (by omega), r3 _ (by omega) (by omega)]; exact sz
  · rw [xg.r (by omega), h3, uI_same, r2 _ (by omega)]
end MJA49
