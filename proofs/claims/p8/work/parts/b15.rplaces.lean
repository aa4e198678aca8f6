/-! ===== the reference: the places of all CLASSES ===== -/
def PLd (T : TT) (L : List CD) (b c : Nat) (s : mjSt3) : Prop := s.1 109 (16 * b + c) = nI (fldT T L c) ∧ s.1 110 (16 * b + c) = nI (mthL L c) ∧ ∀ m, m < nMem L → (vwT (nmL L) (abT T L) c (hmM L m)).isSome = true → PL1 T L b c s m
section MJB15
variable {T : TT} {d N b c m : Nat} {ks : List Nat} {L : List CD} {s s' : mjSt3}
theorem oPs.J (o : oPs b s s') (J : RJ T N b ks L s) : RJ T N b ks L s' := J.off (o.1 97 63 (by omega)) (fun x hx => funext fun j => o.1 x j (by omega)) (funext fun x => funext fun j => o.2.1 x j (fun e => e))
theorem oPs.r (o : oPs b s s') {h : Nat} (hh : ¬ (h = 109 ∨ h = 110 ∨ h = 130 ∨ h = 183 ∨ h = 184)) : s'.1 h = s.1 h := funext fun j => o.1 h j (by omega)
theorem oPs.l (o : oPs b s s') : s'.2 = s.2 := Prod.ext (funext fun x => funext fun j => o.2.1 x j (fun e => e)) o.2.2
theorem PLd_of (Ac : ACY T N L) (hc : c < L.length) (P : PLc T L b c s) : PLd T L b c s := by
  refine ⟨P.1, (P.2 0 c rfl).1, fun m hm v => ?_⟩
  obtain ⟨j, hj⟩ := (vw_iff Ac hc).mp v
  obtain ⟨a, i, h1, h2, h3⟩ := fm_ex hm
  have e := hm_at (L := L) h1 h2
  rw [← h3] at e
  rw [e] at hj
  rw [h3]
  exact (P.2 j a hj).2 i h2
theorem num_384 (Ac : ACY T N L) (J : RJ T N b ks L s) (hm : m < nMem L) (ms : mSM L m = false) : numM T L m < 384 := by
  have h24 : ∀ x, oflL L x ≤ 24 := by
    intro x
    unfold oflL
    cases hx : L[x]? with
    | none => show 0 ≤ 24; omega
    | some D =>
      have := J.2.2.2.2.1 x D hx
      have := cnt_le false D.2
      show cntB false D.2 ≤ 24
      omega
  have fle : fldT T L (hmM L m) ≤ 384 := fsum_le h24 J.len
  have n := num_fld (T := T) hm ms
  have f := ofl_fld (T := T) (c := hmM L m) Ac.1
  omega
theorem L299p_S (R : mjR) (n a : Nat) (x y w : Int32) (hp : mjH) : L_299_218 R (n + 1) a x y w hp = b_299_218 R (L_299_218 R n) a x y w hp := rfl
theorem lq_299p (Ac : ACY T N L) : ∀ (r c n : Nat) (s : mjSt3), c + r = L.length → r < n → RJ T N b ks L s → QV T L b (nMem L) s → (∀ x, x < c → PLd T L b x s) → ∃ s', L_299_218 (mjF (d + 2)) n 97 (nI (16 * b)) (nI L.length) (nI (16 * b + c)) (mjW0 s) = L_299_245 (mjF (d + 2)) mjN 97 (nI (400 * b)) (mjW0 s') ∧ oPs b s s' ∧ ∀ x, x < L.length → PLd T L b x s'
  | r, c, 0, s, e, hr, J, V, P => by omega
  | 0, c, n + 1, s, e, hr, J, V, P => by
    have hb := J.b1
    have h16 := J.len
    refine ⟨s, ?_, offG.rf, fun x hx => P x (by omega)⟩
    rw [L299p_S]
    unfold b_299_218
    rw [show nI (16 * b) + nI L.length = nI (16 * b + L.length) from nI_add _ _, if_pos (nI_le (show 16 * b + L.length ≤ 16 * b + c by omega) (by omega)), xg_97_63, J.1.2, show (400 : Int32) * nI b = nI (400 * b) by rw [show (400 : Int32) = nI 400 from rfl, nI_mul]]
  | r + 1, c, n + 1, s, e, hr, J, V, P => by
    have hb := J.b1
    have h16 := J.len
    have hc : c < L.length := by omega
    obtain ⟨s1, a1, a2, a3, a4⟩ := x_321 (d := d) Ac J V hc
    have P1 : ∀ x, x < c + 1 → PLd T L b x s1 := by
      intro x hx
      by_cases g : x = c
      · rw [g]; exact PLd_of Ac hc a4
      · obtain ⟨p1, p2, p3⟩ := P x (by omega)
        refine ⟨by rw [a2.1 109 _ (by omega)]; exact p1, a3.2.2 x (by omega) p2, fun m hm v => ?_⟩
        obtain ⟨q1, q2⟩ := p3 m hm v
        refine ⟨a3.1 m hm q1, fun ms => ?_⟩
        have bd := num_384 Ac J hm ms
        rw [a2.1 184 _ (by omega)]
        exact q2 ms
    obtain ⟨s', b1, b2', b3⟩ := lq_299p Ac r (c + 1) n s1 (by omega) (by omega) (a2.J J) (a2.Q V) P1
    refine ⟨s', ?_, offG.tr (oPl.S (by omega) a2) b2', b3⟩
    rw [L299p_S]
    unfold b_299_218
    rw [show nI (16 * b) + nI L.length = nI (16 * b + L.length) from nI_add _ _, if_neg (nI_ge (show 16 * b + c < 16 * b + L.length by omega) (by omega)), xV_97, a1, bN_s, ← b1, nI_1]
    rfl
theorem PLr_of (Ac : ACY T N L) (hh : ∀ m, m < nMem L → hmM L m < L.length) (P : ∀ x, x < L.length → PLd T L b x s) : PLr T L b s := by
  refine ⟨fun c hc => ⟨(P c hc).1, (P c hc).2.1⟩, fun m hm => ?_, fun c hc m hm ms v => ((P c hc).2.2 m hm v).2 ms⟩
  exact ((P (hmM L m) (hh m hm)).2.2 m hm ((vw_iff Ac (hh m hm)).mpr ⟨0, rfl⟩)).1
end MJB15
