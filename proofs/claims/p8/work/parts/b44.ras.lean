/-! ===== the reference's act: as; an OBJECT is made ===== -/
section MJB44
variable {T : TT} {d N b k n m v u a o1 kx kk wm cm i i0 c : Nat} {L : List CD} {t : PT} {E : EV} {r : Row} {j : JS} {H : HEAP} {f : FRM} {fs : List FRM} {st : List Int32} {sc : SCL} {s s' : mjSt3} {w : Int32} {A : AMS} {ow : Nat → Nat}
theorem MRn.now (M : MRn T t b wm cm A s) (o : oNw s s') : MRn T t b wm cm A s' := by
  have n : ∀ y, ¬ y = 95 → s'.1 97 y = s.1 97 y := fun y hy => o.1 97 y (by omega)
  have rr : ∀ h, 167 ≤ h ∧ h ≤ 176 → s'.1 h = s.1 h := fun h hh => funext fun y => o.1 h y (by omega)
  obtain ⟨⟨⟨a1, a2, a3, a4⟩, ⟨a5, a6, a7⟩, ⟨a8, a9, a10⟩, ⟨a11, a12⟩, a13⟩, hH, hF, hT⟩ := M
  refine ⟨⟨⟨by rw [n 96 (by decide)]; exact a1, by rw [n 97 (by decide)]; exact a2, by rw [n 98 (by decide)]; exact a3, by rw [n 99 (by decide)]; exact a4⟩, ⟨by rw [n 100 (by decide)]; exact a5, by rw [n 105 (by decide)]; exact a6, by rw [n 106 (by decide)]; exact a7⟩, ⟨by rw [n 102 (by decide)]; exact a8, by rw [n 103 (by decide)]; exact a9, by rw [n 116 (by decide)]; exact a10⟩, ⟨by rw [n 101 (by decide)]; exact a11, by rw [n 104 (by decide)]; exact a12⟩, fun y h1 h2 => by rw [rr 167 (by omega)]; exact a13 y h1 h2⟩, hH.keep (fun y hy => rr y (by omega)), FRr.keep (fun y hy => rr y (by omega)) _ hF, fun g gs hg => ?_⟩
  obtain ⟨c1, c2, c3⟩ := hT g gs hg
  exact ⟨by rw [n 119 (by decide)]; exact c1, by rw [n 118 (by decide)]; exact c2, STr.low _ (fun y _ => by rw [rr 176 (by omega)]) c3⟩
theorem ac_14 (Ac : ACY T N t.1) (M : MRn T t b wm cm (H, f :: fs, k, w :: st, sc) s) (W : RwJ E b i r j s) (o : r.1 = 14) (hl : st.length < 8000) (P : PGn T t b s) (hH : HOK T t.1 H) (hw : bsH T t.1 H H.1 ≤ 4000) (hfl : fs.length < 40) (m384 : nMem t.1 ≤ 384) (hkd : kdE E r.2.2.1 = some kk) (hx : r.2.2.1 = nI kx) (K : NWk T t b H f kx kk s) (hv : w = 0 ∨ ∃ o1, w = nI o1 ∧ 1 ≤ o1 ∧ o1 ≤ H.1) : gAct T t b wm cm (aStep T t.1 E j i0 wm cm r (H, f :: fs, k, w :: st, sc)) s (mjF (d + 6) 231 [.ref 97, .int (nI (5000 * b + i))] (mjW0 s)) := by
  have hi := W.2.1
  have hb := W.2.2
  obtain ⟨_, h8, hS⟩ := M.2.2.2 f fs rfl
  have h8' : s.1 97 118 = nI (st.length + 1) := h8
  have hS' : s.1 176 st.length = w := hS.1
  have e145 : s.1 145 (5000 * b + i) = nI kx := by
    rw [W.1.2.2.1, ← hx]
    exact nA_9 (by rw [o]; decide)
  obtain ⟨s1, a1, a2⟩ := x_243 (d := d) Ac hb M P hH hw hfl m384 K hv
  have M1 := M.now a2
  have pre : mjF (d + 6) 231 [.ref 97, .int (nI (5000 * b + i))] (mjW0 s) = (if b2 (asO T t.1 H f.1 f.2.1 w kk) = 0 then gR (mjW0 s1) 97 12 55 (fun v63 => aI (mjW0 s1) v63 (nI (5000 * b + i)) (fun v64 => rV (mjW0 s1) 97 12 (bN (mjF (d + 5) 234 [.ref 97, .int (3 : Int32), .int v64] (mjW0 s1)) (fun hp65 => some (none, hp65))))) else some (none, mjW0 s1)) := by
    rw [e_231]
    unfold f_231 b_231_0
    rw [xg_97_116, M.c16, xg_97_54, wa_143 (by omega), W.1.1, o, if_neg (by decide), if_neg (by decide), if_neg (by decide), if_neg (by decide), if_neg (by decide), if_neg (by decide), if_neg (by decide), if_neg (by decide), if_neg (by decide), if_neg (by decide), if_neg (by decide), if_neg (by decide), if_neg (by decide), if_pos rfl, xg_97_117, xg_97_118, h8', nI_pred, wa_176 hl, hS', xg_97_56, wa_145 (by omega), e145, xV_97, a1, bI_s]
  rw [as_14 o, hkd, pre]
  show gAct T t b wm cm (if asO T t.1 H f.1 f.2.1 w kk = true then (H, f :: fs, k, w :: st, sc) else aFail (H, f :: fs, k, w :: st, sc) 3 r.2.1) s _
  cases ha : asO T t.1 H f.1 f.2.1 w kk with
  | true =>
    rw [if_pos rfl, if_neg (show ¬ b2 true = 0 by decide)]
    exact ⟨s1, rfl, a2.Rn, M1⟩
  | false =>
    rw [if_neg (by decide), if_pos (show b2 false = 0 from rfl), xg_97_55, wa_144 (by omega), a2.1 144 _ (by omega), W.1.2.1]
    obtain ⟨s3, p1, p2, p3⟩ := x_234 (d := d + 4) M1 3 r.2.1
    exact ⟨s3, by rw [xV_97, p1, bN_s], offG.tr a2.Rn p2, p3⟩
theorem fr_add (h : o1 ≤ H.1 + 1) (h1 : 1 ≤ o1) : frO T L (addO H c ow) o1 = frO T L H o1 := by
  unfold frO
  rw [bs_same (H := H) (fun o p1 p2 => HX.add.2 o p1 p2) (o1 - 1) (by omega)]
theorem HPr.add (h : HPr T L b H s) (e9 : ∀ x, s'.1 169 x = if x = H.1 + 1 then nI (16 * b + c) else s.1 169 x) (e0 : ∀ x, s'.1 170 x = if x = H.1 + 1 then nI (frO T L H (H.1 + 1)) else s.1 170 x) (e8a : ∀ x, x < nmL L c → s'.1 168 (frO T L H (H.1 + 1) + x) = nI (ow x)) (e8b : ∀ x, x < fldT T L c → s'.1 168 (frO T L H (H.1 + 1) + nmL L c + x) = 0) (e8c : ∀ x, x < frO T L H (H.1 + 1) → s'.1 168 x = s.1 168 x) : HPr T L b (addO H c ow) s' := by
  intro o p1 p2
  have p2' : o ≤ H.1 + 1 := p2
  have ex : (addO H c ow).2 o = if o = H.1 + 1 then (c, ow, fun _ => 0) else H.2 o := rfl
  rw [fr_add p2' p1, ex]
  by_cases e : o = H.1 + 1
  · rw [if_pos e, e, e9, e0, if_pos rfl, if_pos rfl]
    exact ⟨rfl, rfl, e8a, e8b⟩
  · rw [if_neg e, e9, e0, if_neg e, if_neg e]
    obtain ⟨h1, h2, h3, h4⟩ := h o p1 (by omega)
    have sep := fr_sep T L H p1 (show o < H.1 + 1 by omega)
    exact ⟨h1, h2, fun x hx => by rw [e8c _ (by omega)]; exact h3 x hx, fun x hx => by rw [e8c _ (by omega)]; exact h4 x hx⟩
end MJB44
