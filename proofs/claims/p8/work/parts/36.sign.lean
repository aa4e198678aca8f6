/-! ===== the reference's signs ===== -/
def gS (z : mjSt3) (a b : Int32) (e : Nat) : mjSt3 := uI z 97 (upd (upd (upd (z.1 97) 3 a) 6 b) 5 (nI e))
theorem gS_3 (z : mjSt3) (a b : Int32) (e : Nat) : (gS z a b e).1 97 3 = a := by
  unfold gS
  rw [uI_same]
  exact (if_neg (by decide)).trans ((if_neg (by decide)).trans (if_pos rfl))
theorem gS_5 (z : mjSt3) (a b : Int32) (e : Nat) : (gS z a b e).1 97 5 = nI e := by
  unfold gS
  rw [uI_same]
  exact if_pos rfl
theorem gS_6 (z : mjSt3) (a b : Int32) (e : Nat) : (gS z a b e).1 97 6 = b := by
  unfold gS
  rw [uI_same]
  exact (if_neg (by decide)).trans (if_pos rfl)
theorem gS_j (z : mjSt3) (a b : Int32) (e j : Nat) (h3 : ¬ j = 3) (h5 : ¬ j = 5) (h6 : ¬ j = 6) : (gS z a b e).1 97 j = z.1 97 j := by
  unfold gS
  rw [uI_same]
  exact (if_neg h5).trans ((if_neg h6).trans (if_neg h3))
theorem gS_q (z : mjSt3) (a b : Int32) (e q : Nat) (h : ¬ q = 97) : (gS z a b e).1 q = z.1 q := if_neg h
theorem p_g6 {z : mjSt3} {a b x : Int32} {e : Nat} {k : mjH → mjU} : pI (mjW0 (gS z a b e)) 97 12 6 x k = k (mjW0 (gS z a x e)) := by
  rw [xp_97_6]
  congr 2
  unfold gS
  rw [uI_same, uI_uI, upd_sw _ _ _ (show ¬ 5 = 6 by decide), upd_upd]
theorem p_g5 {z : mjSt3} {a b : Int32} {e x : Nat} {k : mjH → mjU} : pI (mjW0 (gS z a b e)) 97 12 5 (nI x) k = k (mjW0 (gS z a b x)) := by
  rw [xp_97_5]
  congr 2
  unfold gS
  rw [uI_same, uI_uI, upd_upd]
theorem p_g3 {z : mjSt3} {a b x : Int32} {e : Nat} {k : mjH → mjU} : pI (mjW0 (gS z a b e)) 97 12 3 x k = k (mjW0 (gS z x b e)) := by
  rw [xp_97_3]
  congr 2
  unfold gS
  rw [uI_same, uI_uI, upd_sw _ _ _ (show ¬ 5 = 3 by decide), upd_sw _ _ _ (show ¬ 6 = 3 by decide), upd_upd]
def sgM : List Int32 := [37, 40, 41, 42, 43, 44, 45, 46, 47, 59, 60, 61, 91, 93, 123, 125]
theorem chainL {c : Int32} {X Y : mjU} : ∀ L : List Int32, (L.foldr (fun a r => if c = a then X else r) Y) = if c ∈ L then X else Y
  | [] => by simp
  | a :: L => by
    show (if c = a then X else L.foldr (fun a r => if c = a then X else r) Y) = _
    rw [chainL L]
    by_cases h : c = a
    · rw [if_pos h, if_pos (by rw [h]; exact List.mem_cons_self)]
    · rw [if_neg h]
      by_cases g : c ∈ L
      · rw [if_pos g, if_pos (List.mem_cons_of_mem _ g)]
      · rw [if_neg g, if_neg (fun e => (List.mem_cons.mp e).elim h g)]
theorem x_msign {d n p : Nat} {z : mjSt3} (hn : n ≤ 3000) (he : z.1 97 2 = nI n) (hp : z.1 97 4 = nI p) (hpn : p < n) (c : Int32) : mjF (d + 2) 265 [.ref 97, .int c] (mjW0 z) = some (none, mjW0 (if lk (z.1 98) n (p + 1) = 61 ∧ (c = 61 ∨ c = 33) then gS z 4 (if c = 61 then 257 else 258) (p + 2) else gS z (if c ∈ sgM then 4 else 6) c (p + 1))) := by
  have e0 : ∀ k : mjH → mjU, pI (mjW0 z) 97 12 3 4 (fun hp1 => pI hp1 97 12 6 c (fun hp2 => gI hp2 97 12 4 (fun v3 => pI hp2 97 12 5 (v3 + 1) k))) = k (mjW0 (gS z 4 c (p + 1))) := by
    intro k
    have e4 : (uI z 97 (upd (upd (z.1 97) 3 4) 6 c)).1 97 4 = nI p := by
      rw [uI_same]
      exact (if_neg (by decide)).trans ((if_neg (by decide)).trans hp)
    unfold gS
    rw [xp_97_3, xp_97_6, uI_same, uI_uI, xg_97_4, e4, nI_1, xp_97_5, uI_same, uI_uI]
  have one : b_265_51 (mjF (d + 1)) 97 c (mjW0 (gS z 4 c (p + 1))) = some (none, mjW0 (gS z (if c ∈ sgM then 4 else 6) c (p + 1))) := by
    unfold b_265_51 b_265_52
    rw [if_pos rfl]
    have ch := chainL (c := c) (X := b_265_228 (mjF (d + 1)) (mjW0 (gS z 4 c (p + 1)))) (Y := pI (mjW0 (gS z 4 c (p + 1))) 97 12 3 6 (fun hp17 => some (none, hp17))) sgM
    simp only [sgM, List.foldr_cons, List.foldr_nil] at ch
    rw [ch]
    show (if c ∈ sgM then b_265_228 (mjF (d + 1)) (mjW0 (gS z 4 c (p + 1))) else pI (mjW0 (gS z 4 c (p + 1))) 97 12 3 6 (fun hp17 => some (none, hp17))) = _
    by_cases h : c ∈ sgM
    · rw [if_pos h, if_pos h]; rfl
    · rw [if_neg h, if_neg h, p_g3]
  have two : (c = 61 ∨ c = 33) → b_265_47 (mjF (d + 1)) 97 c (mjW0 (gS z 4 c (p + 1))) = some (none, mjW0 (gS z 4 (if c = 61 then 257 else 258) (p + 2))) := by
    intro _
    have e3 : ∀ x : Int32, b_265_73 (mjF (d + 1)) 97 97 x (mjW0 (gS z 4 c (p + 1))) = some (none, mjW0 (gS z 4 x (p + 2))) := by
      intro x
      unfold b_265_73
      rw [p_g6, xg_97_4, gS_j _ _ _ _ _ (by decide) (by decide) (by decide), hp, show nI p + (2 : Int32) = nI (p + 2) from nI_add p 2, p_g5]
    unfold b_265_47 b_265_52
    rw [if_neg (by decide)]
    by_cases h : c = 61
    · rw [if_pos h, if_pos h]; exact e3 257
    · rw [if_neg h, if_neg h]; exact e3 258
  rw [e_265]
  unfold f_265
  unfold b_265_0
  rw [e0, xg_97_4, gS_j _ _ _ _ _ (by decide) (by decide) (by decide), hp, nI_1, xV_97, x_look (n := n) ((gS_j _ _ _ _ _ (by decide) (by decide) (by decide)).trans he) hn (by omega), bI_s, gS_q _ _ _ _ _ (by decide)]
  by_cases h1 : lk (z.1 98) n (p + 1) = 61
  · rw [if_pos h1]
    by_cases h2 : c = 61
    · rw [if_pos h2, if_pos ⟨h1, Or.inl h2⟩]
      exact two (Or.inl h2)
    · rw [if_neg h2]
      by_cases h3 : c = 33
      · rw [if_pos h3, if_pos ⟨h1, Or.inr h3⟩]
        exact two (Or.inr h3)
      · rw [if_neg h3, if_neg (fun e => e.2.elim h2 h3)]
        exact one
  · rw [if_neg h1, if_neg (fun e => h1 e.1)]
    exact one
