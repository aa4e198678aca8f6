/-! ===== the reference while it reads ===== -/
/-- what waits: sort, operator, place, many, the argument's place -/
abbrev WF : Type := Int32 × Int32 × Int32 × Int32 × Int32
/-- what may change while an E or a STATEMENT is read -/
def chE (b h j : Nat) : Prop := (h = 97 ∧ (j = 3 ∨ j = 4 ∨ j = 5 ∨ j = 6 ∨ j = 61 ∨ j = 62 ∨ j = 64 ∨ j = 76 ∨ j = 77)) ∨ ((h = 121 ∨ h = 122) ∧ j = b) ∨ ((h = 137 ∨ h = 138) ∧ 800 * b ≤ j ∧ j < 800 * b + 800) ∨ (h = 141 ∧ 4000 * b ≤ j ∧ j < 4000 * b + 4000) ∨ ((h = 143 ∨ h = 144 ∨ h = 145 ∨ h = 146) ∧ 5000 * b ≤ j ∧ j < 5000 * b + 5000) ∨ (151 ≤ h ∧ h ≤ 154) ∨ h = 182
def chEL (b h j : Nat) : Prop := (h = 97 ∧ j = 7) ∨ (h = 136 ∧ 800 * b ≤ j ∧ j < 800 * b + 800) ∨ (h = 140 ∧ 4000 * b ≤ j ∧ j < 4000 * b + 4000) ∨ (h = 147 ∧ 5000 * b ≤ j ∧ j < 5000 * b + 5000)
def offE (b : Nat) : mjSt3 → mjSt3 → Prop := offG (chE b) (chEL b)
theorem offN.E {b : Nat} {s s' : mjSt3} (h : offN s s') : offE b s s' := by
  refine ⟨fun x j n => ?_, fun x j n => ?_, h.2.2.2.2⟩
  · by_cases e : x = 97
    · subst e
      exact h.2.1 j (fun q => n (by unfold chE; omega)) (fun q => n (by unfold chE; omega)) (fun q => n (by unfold chE; omega)) (fun q => n (by unfold chE; omega))
    · rw [h.1 x e]
  · by_cases e : x = 97
    · subst e
      exact h.2.2.2.1 j (fun q => n (by unfold chEL; omega))
    · rw [h.2.2.1 x e]
/-- an order lies at i -/
def Rw (s : mjSt3) (i : Nat) (r : Row) : Prop := s.1 143 i = r.1 ∧ s.1 144 i = r.2.1 ∧ s.1 145 i = r.2.2.1 ∧ s.1 146 i = r.2.2.2.1 ∧ s.2.1 147 i = r.2.2.2.2
/-- how many OWNERS, from the one at c on -/
def cntO (T : TT) : Nat → Nat → Nat
  | 0, _ => 0
  | f + 1, c => if (T (c + 1)).1 = 44 then cntO T f (c + 2) + 1 else 1
/-- an OWNER as the reference writes it -/
def owR (T : TT) (c : Nat) : Int64 := if (T c).1 = 3 then (T c).2.2.1 else if (T c).1 = 12 then -2 else -1
/-- the KIND at token t lies at k -/
def Kd (T : TT) (s : mjSt3) (k t : Nat) : Prop := cntO T 6 (t + 2) ≤ 5 ∧ s.2.1 136 k = (T t).2.2.1 ∧ s.1 137 k = (T t).2.1 ∧ s.1 138 k = nI (cntO T 6 (t + 2)) ∧ ∀ i, i < cntO T 6 (t + 2) → s.2.1 140 (5 * k + i) = owR T (t + 2 + 2 * i) ∧ s.1 141 (5 * k + i) = (T (t + 2 + 2 * i)).2.1
def Wt (s : mjSt3) (i : Nat) (f : WF) : Prop := s.1 151 i = f.1 ∧ s.1 152 i = f.2.1 ∧ s.1 153 i = f.2.2.1 ∧ s.1 154 i = f.2.2.2.1 ∧ s.1 182 i = f.2.2.2.2
/-- at token k, o open, W waits, orders os, KINDS ks -/
def MR (tx : Nat → Int32) (n b : Nat) (s : mjSt3) (k o : Nat) (W : List WF) (os : List Row) (ks : List Nat) : Prop := (MB tx n s ∧ MT tx n k s) ∧ (b ≤ 1 ∧ s.1 97 61 = 0 ∧ s.1 97 63 = nI b ∧ s.1 97 64 = nI o) ∧ (s.1 97 76 = nI W.length ∧ ∀ i f, W[i]? = some f → Wt s i f) ∧ (s.1 122 b = nI os.length ∧ ∀ i r, os[i]? = some r → Rw s (5000 * b + i) r) ∧ (s.1 121 b = nI ks.length ∧ ∀ i t, ks[i]? = some t → Kd (mTT tx n) s (800 * b + i) t)
section MJ67
variable {tx : Nat → Int32} {n b d k o : Nat} {s s' : mjSt3} {W : List WF} {os : List Row} {ks : List Nat}
theorem MR.at (h : MR tx n b s k o W os ks) : AT (mTT tx n) k s := h.1.2.at h.1.1.2.2.2.1
/-- all is as it was, but for the token -/
theorem MR.next (h : MR tx n b s k o W os ks) (r : offN s s') {k' : Nat} (m : MT tx n k' s') : MR tx n b s' k' o W os ks := by
  obtain ⟨⟨a1, _⟩, ⟨b1, b2, b3, b4⟩, ⟨c1, c2⟩, ⟨d1, d2⟩, e1, e2⟩ := h
  have g : ∀ j, ¬ j = 3 → ¬ j = 4 → ¬ j = 5 → ¬ j = 6 → s'.1 97 j = s.1 97 j := r.2.1
  have q : ∀ x, ¬ x = 97 → s'.1 x = s.1 x := r.1
  have l : ∀ x, ¬ x = 97 → s'.2.1 x = s.2.1 x := r.2.2.1
  refine ⟨⟨a1.off r, m⟩, ⟨b1, ?_, ?_, ?_⟩, ⟨?_, fun i f hf => ?_⟩, ⟨?_, fun i x hx => ?_⟩, ?_, fun i t ht => ?_⟩
  · rw [g 61 (by decide) (by decide) (by decide) (by decide), b2]
  · rw [g 63 (by decide) (by decide) (by decide) (by decide), b3]
  · rw [g 64 (by decide) (by decide) (by decide) (by decide), b4]
  · rw [g 76 (by decide) (by decide) (by decide) (by decide), c1]
  · unfold Wt
    rw [q 151 (by decide), q 152 (by decide), q 153 (by decide), q 154 (by decide), q 182 (by decide)]
    exact c2 i f hf
  · rw [q 122 (by decide), d1]
  · unfold Rw
    rw [q 143 (by decide), q 144 (by decide), q 145 (by decide), q 146 (by decide), l 147 (by decide)]
    exact d2 i x hx
  · rw [q 121 (by decide), e1]
  · unfold Kd
    rw [l 136 (by decide), q 137 (by decide), q 138 (by decide), l 140 (by decide), q 141 (by decide)]
    exact e2 i t ht
/-- next() -/
theorem m_next (h : MR tx n b s k o W os ks) (hk : ¬ (mTT tx n k).1 = 1) : ∃ s', mjF (d + 3) 262 [.ref 97] (mjW0 s) = some (none, mjW0 s') ∧ MR tx n b s' (k + 1) o W os ks ∧ offE b s s' ∧ s'.1 97 77 = s.1 97 77 := by
  obtain ⟨s', e, m, r⟩ := x_mt (d := d) h.1.1 h.1.2 hk
  exact ⟨s', e, h.next r m, r.E, r.2.1 77 (by decide) (by decide) (by decide) (by decide)⟩
/-- a field of 97 changed that is nothing to tokens -/
theorem mt_w {tx : Nat → Int32} {n k : Nat} {s : mjSt3} {f : Nat → Int32} (hf : ∀ j, j < 7 → f j = s.1 97 j) (h : MT tx n k s) : MT tx n k (uI s 97 f) := by
  unfold MT at h ⊢
  rw [uI_same, hf 3 (by decide), hf 4 (by decide), hf 5 (by decide), hf 6 (by decide)]
  exact h
theorem mb_w {tx : Nat → Int32} {n : Nat} {s : mjSt3} {f : Nat → Int32} (hf : ∀ j, j < 7 → f j = s.1 97 j) (h : MB tx n s) : MB tx n (uI s 97 f) := by
  unfold MB at h ⊢
  rw [uI_same, hf 2 (by decide), uI_ne _ _ _ _ (by decide)]
  exact h
/-- a field of 97 among open, waits, shape, told, blocks is put -/
theorem MR.w97 (h : MR tx n b s k o W os ks) {j : Nat} {v : Int32} (hj : j = 67 ∨ j = 71 ∨ j = 77) : MR tx n b (uI s 97 (upd (s.1 97) j v)) k o W os ks := by
  obtain ⟨⟨a1, a2⟩, ⟨b1, b2, b3, b4⟩, ⟨c1, c2⟩, ⟨d1, d2⟩, e1, e2⟩ := h
  have g : ∀ i, ¬ i = j → (uI s 97 (upd (s.1 97) j v)).1 97 i = s.1 97 i := fun i e => by rw [uI_same]; exact if_neg e
  have q : ∀ x, ¬ x = 97 → (uI s 97 (upd (s.1 97) j v)).1 x = s.1 x := fun x e => uI_ne _ _ _ _ e
  have f7 : ∀ i, i < 7 → upd (s.1 97) j v i = s.1 97 i := fun i e => if_neg (by omega)
  refine ⟨⟨mb_w f7 a1, mt_w f7 a2⟩, ⟨b1, ?_, ?_, ?_⟩, ⟨?_, fun i f hf => ?_⟩, ⟨?_, fun i x hx => ?_⟩, ?_, fun i t ht => ?_⟩
  · rw [g 61 (by omega), b2]
  · rw [g 63 (by omega), b3]
  · rw [g 64 (by omega), b4]
  · rw [g 76 (by omega), c1]
  · unfold Wt
    rw [q 151 (by decide), q 152 (by decide), q 153 (by decide), q 154 (by decide), q 182 (by decide)]
    exact c2 i f hf
  · rw [q 122 (by decide), d1]
  · unfold Rw
    rw [q 143 (by decide), q 144 (by decide), q 145 (by decide), q 146 (by decide)]
    exact d2 i x hx
  · rw [q 121 (by decide), e1]
  · unfold Kd
    rw [q 137 (by decide), q 138 (by decide), q 141 (by decide)]
    exact e2 i t ht
/-- open is put -/
theorem MR.w64 (h : MR tx n b s k o W os ks) (o' : Nat) : MR tx n b (uI s 97 (upd (s.1 97) 64 (nI o'))) k o' W os ks := by
  obtain ⟨⟨a1, a2⟩, ⟨b1, b2, b3, b4⟩, ⟨c1, c2⟩, ⟨d1, d2⟩, e1, e2⟩ := h
  have g : ∀ i, ¬ i = 64 → (uI s 97 (upd (s.1 97) 64 (nI o'))).1 97 i = s.1 97 i := fun i e => by rw [uI_same]; exact if_neg e
  have q : ∀ x, ¬ x = 97 → (uI s 97 (upd (s.1 97) 64 (nI o'))).1 x = s.1 x := fun x e => uI_ne _ _ _ _ e
  have f7 : ∀ i, i < 7 → upd (s.1 97) 64 (nI o') i = s.1 97 i := fun i e => if_neg (by omega)
  refine ⟨⟨mb_w f7 a1, mt_w f7 a2⟩, ⟨b1, ?_, ?_, ?_⟩, ⟨?_, fun i f hf => ?_⟩, ⟨?_, fun i x hx => ?_⟩, ?_, fun i t ht => ?_⟩
  · rw [g 61 (by omega), b2]
  · rw [g 63 (by omega), b3]
  · rw [uI_same]; exact if_pos rfl
  · rw [g 76 (by omega), c1]
  · unfold Wt
    rw [q 151 (by decide), q 152 (by decide), q 153 (by decide), q 154 (by decide), q 182 (by decide)]
    exact c2 i f hf
  · rw [q 122 (by decide), d1]
  · unfold Rw
    rw [q 143 (by decide), q 144 (by decide), q 145 (by decide), q 146 (by decide)]
    exact d2 i x hx
  · rw [q 121 (by decide), e1]
  · unfold Kd
    rw [q 137 (by decide), q 138 (by decide), q 141 (by decide)]
    exact e2 i t ht
/-- the last that waits is taken off -/
theorem MR.pop {f : WF} (h : MR tx n b s k o (W ++ [f]) os ks) : MR tx n b (uI s 97 (upd (s.1 97) 76 (nI W.length))) k o W os ks := by
  obtain ⟨⟨a1, a2⟩, ⟨b1, b2, b3, b4⟩, ⟨c1, c2⟩, ⟨d1, d2⟩, e1, e2⟩ := h
  have g : ∀ i, ¬ i = 76 → (uI s 97 (upd (s.1 97) 76 (nI W.length))).1 97 i = s.1 97 i := fun i e => by rw [uI_same]; exact if_neg e
  have q : ∀ x, ¬ x = 97 → (uI s 97 (upd (s.1 97) 76 (nI W.length))).1 x = s.1 x := fun x e => uI_ne _ _ _ _ e
  have f7 : ∀ i, i < 7 → upd (s.1 97) 76 (nI W.length) i = s.1 97 i := fun i e => if_neg (by omega)
  refine ⟨⟨mb_w f7 a1, mt_w f7 a2⟩, ⟨b1, ?_, ?_, ?_⟩, ⟨?_, fun i f hf => ?_⟩, ⟨?_, fun i x hx => ?_⟩, ?_, fun i t ht => ?_⟩
  · rw [g 61 (by omega), b2]
  · rw [g 63 (by omega), b3]
  · rw [g 64 (by omega), b4]
  · rw [uI_same]; exact if_pos rfl
  · unfold Wt
    rw [q 151 (by decide), q 152 (by decide), q 153 (by decide), q 154 (by decide), q 182 (by decide)]
    exact c2 i f (by rw [List.getElem?_append_left (List.getElem?_eq_some_iff.mp hf).1]; exact hf)
  · rw [q 122 (by decide), d1]
  · unfold Rw
    rw [q 143 (by decide), q 144 (by decide), q 145 (by decide), q 146 (by decide)]
    exact d2 i x hx
  · rw [q 121 (by decide), e1]
  · unfold Kd
    rw [q 137 (by decide), q 138 (by decide), q 141 (by decide)]
    exact e2 i t ht
end MJ67
