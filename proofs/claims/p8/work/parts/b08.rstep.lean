/-! ===== the reference judges any order ===== -/
section MJB08
variable {d N b kq i lo hi : Nat} {ks zk : List Nat} {s : mjSt3} {E : EV} {j : JS} {x : WS} {r : Row} {mm : Option Nat}
theorem j_all (F : FX E.1 N b ks E.2.1 E.2.2.1) (B : BK E.1 N b ks E.2.1 lo hi kq zk) (hkt : E.2.2.2.1 = ktL (800 * b) ks) (S : BS E.1 N b ks E.2.1 E.2.2.1 s) (g : gR0 s) (W : NW E b mm s) (R : BR E.2.1 b s j x (kq + zk.length)) (row : Rw s (5000 * b + i) r) (h5 : i < 5000) (ok : okW r x) (hX1 : kq ≤ x.1.1) (hX2 : (nxW r i x).1.1 ≤ kq + zk.length) (hlen : kq + zk.length ≤ 100000) (hlx : ¬ x.2.2.1 = i) (hl5 : x.2.2.1 < 5000) (dp2 : j.2.2.2.2.1 ≤ 30000) : gJ E N b ks i x.1.1 (kq + zk.length) r j x s (mjF (d + 7) 323 [.ref 97, .int (nI (5000 * b + i))] (mjW0 s)) := by
  have X7 : r.1 = 7 ∨ r.1 = 14 → isE r → x.1.1 < kq + zk.length := by
    intro h hE
    rw [nxW_E hE] at hX2
    have hX3 : (hxE r x.1).1 ≤ kq + zk.length := hX2
    rcases h with h | h
    · unfold hxE at hX3
      rw [h, if_neg (by decide), if_pos rfl] at hX3
      have : x.1.1 + 1 ≤ kq + zk.length := hX3
      omega
    · rw [hx_14 h] at hX3
      have : x.1.1 + 1 ≤ kq + zk.length := hX3
      omega
  rcases ok with ok | ⟨hr, h50⟩ | ⟨hr, l1, l2⟩ | ⟨hr, l1, ha⟩ | ⟨hr, pn, t16, hA⟩ | ⟨hr, pn, t16, ha, l1, l2⟩ | ⟨hr, h28, l1, l2⟩ | hr | ⟨hr, pn⟩ | ⟨hr, pn, dp1⟩
  · have ok' := ok
    have lo9 := ok.2.2.2.2.2
    rcases ok.1 with hr | hr | hr | hr | hr | hr | hr | hr | hr | hr | hr | hr | hr
    · exact j_3 S g R row h5 (Or.inl hr) ok'
    · exact j_3 S g R row h5 (Or.inr hr) ok'
    · exact j_5 S g W R row h5 hr ok'
    · refine j_6 S g R row h5 (Or.inl hr) ?_ hlx
      have := ok.2.2.1
      unfold hxE at this
      rw [if_pos (by rw [hr]; decide)] at this
      exact this
    · exact j_7 F B hkt S g W R row h5 hr ok' (X7 (Or.inl hr) ok.1) hX1
    · exact j_8 S g R row h5 hr ok'
    · exact j_9 S g R row h5 hr ok'
    · exact j_10 F S g R row h5 (Or.inl hr) (lo9.2.1 (Or.inl hr)).1 hlx
    · exact j_11 F S g R row h5 hr ok'
    · exact j_12 F S g R row h5 hr ok'
    · exact j_13 S g R row h5 hr ok'
    · exact j_14 F B hkt S g W R row h5 hr ok' (X7 (Or.inr hr) ok.1) hX1
    · exact j_30 S g R row h5 hr ok'
  · exact j_6 S g R row h5 (Or.inr hr) (by omega) hlx
  · exact j_10 F S g R row h5 (Or.inr hr) l1 hlx
  · exact j_17 F S g R row h5 (hr.elim (fun h => Or.inl h.1) (fun h => Or.inr h.1)) l1 ha hlx hl5
  · refine j_19 F B hkt S g W R row h5 hr pn t16 hA (fun hne => ?_) hlen hX1
    unfold nxW at hX2
    rw [hr, if_neg (by decide), if_neg (by decide), if_neg (by decide), if_neg (by decide), if_pos rfl, if_neg hne] at hX2
    have : x.1.1 + 1 ≤ kq + zk.length := hX2
    omega
  · exact j_20 F S g R row h5 hr l1 pn ha dp2
  · rcases hr with hr | hr | hr | hr
    · exact j_21 S g R row h5 (Or.inl hr) l1
    · exact j_21 S g R row h5 (Or.inr hr) l1
    · exact j_28 F S g W R row h5 hr l1
    · exact j_25 S g R row h5 hr l1
  · exact j_1 S g R row h5 hr
  · exact j_26 S g R row h5 hr pn
  · exact j_27 S g R row h5 hr pn (by rw [R.2.2.2.1.2]; exact dp1) dp2
end MJB08
