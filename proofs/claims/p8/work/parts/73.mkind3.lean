/-! ===== readKind ===== -/
section MJ73
variable {tx : Nat → Int32} {n b d k o g t j c : Nat} {s z : mjSt3} {W : List WF} {os : List Row} {ks : List Nat}
/-- a KIND's rows are begun -/
def kbS (s : mjSt3) (b g m : Nat) (nm : Int64) (at_ : Int32) : mjSt3 := uI (uI (uL (uI s 121 (upd (s.1 121) b (nI (m + 1)))) 136 (vp_updL (s.2.1 136) g nm)) 137 (upd (s.1 137) g at_)) 138 (upd (s.1 138) g 0)
theorem kbS_p (h : MR tx n b s k o W os ks) (hm : ks.length < 800) : KP tx n b (800 * b + ks.length) k 0 s (kbS s b (800 * b + ks.length) ks.length (mTT tx n k).2.2.1 (mTT tx n k).2.1) k := by
  obtain ⟨⟨a1, a2⟩, ⟨b1, b2, b3, b4⟩, _, _, e1, _⟩ := h
  unfold kbS
  generalize 800 * b + ks.length = g
  have o1 : offK2 b g s (uI s 121 (upd (s.1 121) b (nI (ks.length + 1)))) := offG.w (by unfold chK; omega)
  have o2 : offK2 b g (uI s 121 (upd (s.1 121) b (nI (ks.length + 1)))) (uL (uI s 121 (upd (s.1 121) b (nI (ks.length + 1)))) 136 (vp_updL (s.2.1 136) g (mTT tx n k).2.2.1)) := offG.wl (s := uI s 121 (upd (s.1 121) b (nI (ks.length + 1)))) (by unfold chKL; omega)
  have o3 : offK2 b g (uL (uI s 121 (upd (s.1 121) b (nI (ks.length + 1)))) 136 (vp_updL (s.2.1 136) g (mTT tx n k).2.2.1)) (uI (uL (uI s 121 (upd (s.1 121) b (nI (ks.length + 1)))) 136 (vp_updL (s.2.1 136) g (mTT tx n k).2.2.1)) 137 (upd ((uL (uI s 121 (upd (s.1 121) b (nI (ks.length + 1)))) 136 (vp_updL (s.2.1 136) g (mTT tx n k).2.2.1)).1 137) g (mTT tx n k).2.1)) := offG.w (by unfold chK; omega)
  rw [uL_i, uI_ne _ _ _ _ (show ¬ 137 = 121 by decide)] at o3
  have o4 : offK2 b g (uI (uL (uI s 121 (upd (s.1 121) b (nI (ks.length + 1)))) 136 (vp_updL (s.2.1 136) g (mTT tx n k).2.2.1)) 137 (upd (s.1 137) g (mTT tx n k).2.1)) (uI (uI (uL (uI s 121 (upd (s.1 121) b (nI (ks.length + 1)))) 136 (vp_updL (s.2.1 136) g (mTT tx n k).2.2.1)) 137 (upd (s.1 137) g (mTT tx n k).2.1)) 138 (upd ((uI (uL (uI s 121 (upd (s.1 121) b (nI (ks.length + 1)))) 136 (vp_updL (s.2.1 136) g (mTT tx n k).2.2.1)) 137 (upd (s.1 137) g (mTT tx n k).2.1)).1 138) g 0)) := offG.w (by unfold chK; omega)
  rw [uI_ne _ _ _ _ (show ¬ 138 = 137 by decide), uL_i, uI_ne _ _ _ _ (show ¬ 138 = 121 by decide)] at o4
  refine ⟨?_, ?_, ?_, ((o1.tr o2).tr o3).tr o4, ?_, ?_, ?_, fun i hi => by omega, ?_⟩
  · unfold MB at a1 ⊢
    rw [uI_ne _ _ _ _ (show ¬ 97 = 138 by decide), uI_ne _ _ _ _ (show ¬ 97 = 137 by decide), uL_i, uI_ne _ _ _ _ (show ¬ 97 = 121 by decide), uI_ne _ _ _ _ (show ¬ 98 = 138 by decide), uI_ne _ _ _ _ (show ¬ 98 = 137 by decide), uL_i, uI_ne _ _ _ _ (show ¬ 98 = 121 by decide), uI_l, uI_l, uL_ne _ _ _ _ (show ¬ 99 = 136 by decide)]; exact a1
  · unfold MT at a2 ⊢
    rw [uI_ne _ _ _ _ (show ¬ 97 = 138 by decide), uI_ne _ _ _ _ (show ¬ 97 = 137 by decide), uL_i, uI_ne _ _ _ _ (show ¬ 97 = 121 by decide), uI_l, uI_l, uL_ne _ _ _ _ (show ¬ 97 = 136 by decide)]; exact a2
  · rw [uI_ne _ _ _ _ (show ¬ 97 = 138 by decide), uI_ne _ _ _ _ (show ¬ 97 = 137 by decide), uL_i, uI_ne _ _ _ _ (show ¬ 97 = 121 by decide), b2]
  · rw [uI_l, uI_l, uL_same, updL_g, if_pos rfl]
  · rw [uI_ne _ _ _ _ (show ¬ 137 = 138 by decide), uI_same, up_same]
  · rw [uI_same, up_same]; rfl
  · rw [uI_ne _ _ _ _ (show ¬ 121 = 138 by decide), uI_ne _ _ _ _ (show ¬ 121 = 137 by decide), uL_i, uI_same, up_same, e1, nI_1]
theorem i800 {b m : Nat} : (800 : Int32) * nI b + nI m = nI (800 * b + m) := by rw [show (800 : Int32) = nI 800 from rfl, pk_mul, nI_add]
theorem offKz {g m : Nat} {s s' : mjSt3} (hg : g = 800 * b + m) (hm : m < 800) (h : offG (fun h j => chK b g h j ∨ (h = 97 ∧ (j = 61 ∨ j = 62))) (chKL g) s s') : offE b s s' :=
  offG.mono h (fun x y q => by unfold chK at q; unfold chE; omega) (fun x y q => by unfold chKL at q; unfold chEL; omega)
/-- bad behind a KIND: waits and shape are as they were -/
def bkR (b : Nat) (s s' : mjSt3) : Prop := offE b s s' ∧ s'.1 97 76 = s.1 97 76
theorem m_kind (h : MR tx n b s k o W os ks) (hm : ks.length < 790) : match pKind (mTT tx n) k with
    | .inl e => ∃ s' v, mjF (d + 6) 272 [.ref 97] (mjW0 s) = some (some (.int v), mjW0 s') ∧ MZ (mTT tx n) b s' e os.length ∧ bkR b s s'
    | .inr c' => ∃ s', mjF (d + 6) 272 [.ref 97] (mjW0 s) = some (some (.int (nI (800 * b + ks.length))), mjW0 s') ∧ MR tx n b s' c' o W os (ks ++ [k]) ∧ offE b s s' ∧ s'.1 97 77 = s.1 97 77 := by
  have hb := h.2.1.1
  have A := h.at
  have S := v_srt A
  have hB : s.1 97 63 = nI b := h.2.1.2.2.1
  have hK : s.1 121 b = nI ks.length := h.2.2.2.2.1
  rw [e_272]
  unfold f_272 b_272_0 b_272_95 pKind
  rw [xg_97_3]
  by_cases h2 : (mTT tx n k).1 = 2
  · have p0 := kbS_p h (by omega)
    obtain ⟨z1, e1, p1⟩ := p0.next (d := d + 2) (by rw [h2]; decide)
    rw [if_pos (S.1.mpr h2), if_pos h2, xg_97_63, hB, xg_97_32, xg_97_63, hB, xa_121, if_pos (mj_in_nI (by omega) (by decide)), nI_clamp (by omega), hK, i800, xg_97_32, xg_97_63, hB, xa_121, if_pos (mj_in_nI (by omega) (by decide)), nI_clamp (by omega), hK, nI_1, xs_121, if_pos (mj_in_nI (by omega) (by decide)), nI_clamp (by omega), xg_97_47, xg_97_7, uI_l, A.2.2.2.2 (Or.inl h2), xs_136, if_pos (mj_in_nI (by omega) (by decide)), nI_clamp (by omega), uI_l, xg_97_48, xg_97_4, uL_i, uI_ne _ _ _ _ (show ¬ 97 = 121 by decide), A.2.2.1, xs_137, if_pos (mj_in_nI (by omega) (by decide)), nI_clamp (by omega), uL_i, uI_ne _ _ _ _ (show ¬ 137 = 121 by decide), xg_97_49, xs_138, if_pos (mj_in_nI (by omega) (by decide)), nI_clamp (by omega), uI_ne _ _ _ _ (show ¬ 138 = 137 by decide), uL_i, uI_ne _ _ _ _ (show ¬ 138 = 121 by decide), xV_97]
    rw [show mjF (d + 5) 262 [.ref 97] (mjW0 (uI (uI (uL (uI s 121 (upd (s.1 121) b (nI (ks.length + 1)))) 136 (vp_updL (s.2.1 136) (800 * b + ks.length) (mTT tx n k).2.2.1)) 137 (upd (s.1 137) (800 * b + ks.length) (mTT tx n k).2.1)) 138 (upd (s.1 138) (800 * b + ks.length) 0))) = _ from e1, bN_s, xV_97]
    by_cases h91 : (mTT tx n (k + 1)).1 = 91
    · obtain ⟨z2, e2, p2⟩ := p1.next (d := d + 1) (by rw [h91]; decide)
      have t91 : mjF (d + 5) 270 [.ref 97, .int 91] (mjW0 z1) = some (none, mjW0 z2) := by
        rw [e_270]
        unfold f_270 b_270_0
        rw [xV_97, v_sign p1.at (by decide), bI_s, i01, if_pos h91, xV_97, e2, bN_s]
      rw [t91, bN_s, xg_97_61, p2.2.2.1, if_pos rfl, if_pos h91]
      have r := k_own (d := d) h (g := 800 * b + ks.length) (t := k) (by omega) 6 0 (k + 2) mjN z2 (by omega) (by omega) (by omega) (by unfold mjN; omega) p2
      cases hd : pOwn (mTT tx n) 6 0 (k + 2) with
      | inl e =>
        rw [hd] at r
        obtain ⟨z', v, r1, r2, r3⟩ := r
        exact ⟨z', v, r1, r2, offKz rfl (by omega) r3, r3.1 97 76 (by unfold chK; omega)⟩
      | inr c' =>
        rw [hd] at r
        obtain ⟨r0, z', r1, r2⟩ := r
        rw [Nat.zero_add] at r0 r2
        exact ⟨z', r1, h.kind (by omega) r2 r0, offK2.E r2.2.2.2.1 (by omega), r2.2.2.2.1.1 97 77 (by unfold chK; omega)⟩
    · have t91 : mjF (d + 5) 270 [.ref 97, .int 91] (mjW0 z1) = some (none, mjW0 (bS z1 (nI (F2 (mTT tx n) (k + 1)).1) ((mTT tx n) (F2 (mTT tx n) (k + 1)).2).2.1)) := by
        rw [e_270]
        unfold f_270 b_270_0
        rw [xV_97, v_sign p1.at (by decide), bI_s, i01, if_neg h91, xV_97, v_wrong p1.at p1.2.2.1, bN_s]
      have zz := p1.bad h (e := F2 (mTT tx n) (k + 1)) (F2_in _ _)
      rw [t91, bN_s, xg_97_61, if_neg zz.n0, if_neg h91, show mjN = 99999999 + 1 from rfl]
      have fb := bS_at (s := z1) (nI (F2 (mTT tx n) (k + 1)).1) ((mTT tx n) (F2 (mTT tx n) (k + 1)).2).2.1
      refine ⟨_, _, z_k96 zz _ _, zz, (offK2.E p1.2.2.2.1 (by omega)).tr (bS_off _ _), ?_⟩
      rw [fb.2.2.1 76 (by decide) (by decide)]
      exact p1.2.2.2.1.1 97 76 (by unfold chK; omega)
  · rw [if_neg (fun q => h2 (S.1.mp q)), if_neg h2, xV_97, m_wrong h, bN_s]
    exact ⟨_, _, rfl, m_wz h, bS_off _ _, (bS_at _ _).2.2.1 76 (by decide) (by decide)⟩
end MJ73
