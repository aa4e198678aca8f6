/-! ===== (c), all CLASSES ===== -/
section MJA11
variable {T : TT} {d N q c t n e k h0 : Nat} {s s' : mjSt3} {L : List CD}
theorem lq_64 (P : PFi T N L) : ∀ (r c m : Nat) (s : mjSt3), c + r = L.length → r < m → JX T N q L s → RDR L s → (∀ j, j < L.length → s.1 (q + 3) j = nI (inL L j)) → GB N s → (s.1 58 7 = 0 → ∀ a, a < c → ∀ j, j < inL L a → s.1 (q + 4) (8 * a + j) = nI (7 * (ipT T L a j).1 + (ipT T L a j).2) ∧ (ipT T L a j).1 ≤ 4 ∧ (ipT T L a j).2 ≤ 4) → ∃ s', L_64_2 (mjF (d + 2)) m 71 (nI c) (mjW0 s) = some (none, mjW0 s') ∧ GB N s' ∧ (s'.1 58 7 = 0 ↔ s.1 58 7 = 0 ∧ ∀ j, c ≤ j → j < L.length → OKc T L j) ∧ oRow (q + 4) s s' ∧ (s'.1 58 7 = 0 → ∀ a, a < L.length → ∀ j, j < inL L a → s'.1 (q + 4) (8 * a + j) = nI (7 * (ipT T L a j).1 + (ipT T L a j).2) ∧ (ipT T L a j).1 ≤ 4 ∧ (ipT T L a j).2 ≤ 4)
  | 0, c, m + 1, s, e, _, X, D, hI, g, w => by
    obtain ⟨x1, x2, x3, x4, x5, x6, x7, x8⟩ := X
    have h16 := x3.1
    refine ⟨s, ?_, g, ⟨fun h => ⟨h, fun a h1 h2 => absurd h1 (by omega)⟩, fun h => h.1⟩, offG.rf, fun h a ha => w h a (by omega)⟩
    rw [L64_S]
    unfold b_64_2
    rw [xg_71_2, x6.1, yg_0 x5, x8, if_pos (nI_le (by omega) (by omega))]
  | r + 1, c, m + 1, s, e, hr, X, D, hI, g, w => by
    have X0 := X
    obtain ⟨x1, x2, x3, x4, x5, x6, x7, x8⟩ := X
    have h16 := x3.1
    have hc : c < L.length := by omega
    have hq : q = 2 ∨ q = 30 := x5
    have h8 : inL L c ≤ 8 := (P c hc).2.1
    have pre : L_64_2 (mjF (d + 2)) (m + 1) 71 (nI c) (mjW0 s) = _ := L64_S _ _ _ _ _
    unfold b_64_2 at pre
    rw [xg_71_2, x6.1, yg_0 x5, x8, if_neg (nI_ge (by omega) (by omega)), xg_71_0, xV_58] at pre
    by_cases h7 : s.1 58 7 = 0
    · obtain ⟨cu, hcu, f⟩ := g.f h7
      rw [j_fine f, bI_s, if_neg (by decide)] at pre
      obtain ⟨z, a1, a2, a3, a4, a5, a6⟩ := lq_64b (d := d) P (L_64_2 (mjF (d + 2)) m) hc (inL L c) 0 mjN s (by omega) (by have := mjN_v; omega) X0 D (hI c hc) g (fun _ j hj => absurd hj (by omega))
      rw [show (0 : Int32) = nI 0 from rfl, a1] at pre
      obtain ⟨s', b1, b2', b3, b4, b5⟩ := lq_64 P r (c + 1) m z (by omega) (by omega) (X0.oJ (a4.J (q := q) (by omega))) (D.oJ x5 (a4.J (by omega))) (fun j hj => by rw [a4.r (by omega) (by omega)]; exact hI j hj) a2 (fun h a ha j hj => by
        by_cases ea : a = c
        · rw [ea] at hj ⊢; exact a6 h j hj
        · have h8a : inL L a ≤ 8 := (P a (by omega)).2.1
          rw [a5 _ (by omega)]; exact w h7 a (by omega) j hj)
      refine ⟨s', pre.trans b1, b2', ?_, a4.tr b4, b5⟩
      rw [b3, a3]
      constructor
      · intro ⟨⟨u, v⟩, x⟩
        refine ⟨u, fun j h1 h2 => ?_⟩
        by_cases ej : j = c
        · rw [ej]; exact fun i hi => v i (by omega) hi
        · exact x j (by omega) h2
      · intro ⟨u, v⟩
        exact ⟨⟨u, fun i _ hi => v c (by omega) hc i hi⟩, fun j h1 h2 => v j (by omega) h2⟩
    · rw [j_fineB (g.b h7), bI_s, if_pos rfl] at pre
      exact ⟨s, pre, g, ⟨fun h => absurd h h7, fun h => absurd h.1 h7⟩, offG.rf, fun h => absurd h h7⟩
/-- judgeIns -/
theorem x_64 (P : PFi T N L) (X : JX T N q L s) (D : RDR L s) (hI : ∀ j, j < 16 → s.1 (q + 3) j = nI (inL L j)) (g : GB N s) : ∃ s', mjF (d + 3) 64 [.ref 71] (mjW0 s) = some (none, mjW0 s') ∧ GB N s' ∧ (s'.1 58 7 = 0 ↔ s.1 58 7 = 0 ∧ ∀ j, j < L.length → OKc T L j) ∧ oRow (q + 4) s s' ∧ (s'.1 58 7 = 0 → INP q s' (inL L) (ipT T L)) := by
  have h16 := X.2.2.1.1
  have hq : q = 2 ∨ q = 30 := X.2.2.2.2.1
  obtain ⟨s', a1, a2, a3, a4, a5⟩ := lq_64 (d := d) P L.length 0 mjN s (by omega) (by have := mjN_v; omega) X D (fun j hj => hI j (by omega)) g (fun _ a ha => absurd ha (by omega))
  refine ⟨s', ?_, a2, ?_, a4, fun h c hc => ⟨?_, ?_, fun i hi => ?_⟩⟩
  · rw [e_64]
    unfold f_64 b_64_0
    exact a1
  · rw [a3]
    exact ⟨fun ⟨u, v⟩ => ⟨u, fun j hj => v j (by omega) hj⟩, fun ⟨u, v⟩ => ⟨u, fun j _ hj => v j hj⟩⟩
  · rw [a4.r (by omega) (by omega)]; exact hI c hc
  · by_cases hl : c < L.length
    · exact (P c hl).2.1
    · have : inL L c = 0 := by
        unfold inL hC
        rw [List.getElem?_eq_none (by omega)]
      omega
  · by_cases hl : c < L.length
    · exact a5 h c hl i hi
    · have : inL L c = 0 := by
        unfold inL hC
        rw [List.getElem?_eq_none (by omega)]
      omega
end MJA11
/-! ===== above: no ring, so a height ===== -/
def upI (up : Nat → Option Nat) : Nat → Nat → Option Nat
  | 0, a => some a
  | m + 1, a => match up a with
    | none => none
    | some b => upI up m b
theorem ring_ret {up : Nat → Option Nat} {c : Nat} : ∀ {m a r : Nat}, upI up m a = some c → m ≤ r → ringW up c r (some a) = some c
  | 0, a, 0, h, _ => h
  | 0, a, r + 1, h, _ => by
    cases h
    unfold ringW
    rw [if_pos rfl]
  | m + 1, a, 0, _, hr => by omega
  | m + 1, a, r + 1, h, hr => by
    unfold ringW
    by_cases e : a = c
    · rw [if_pos e, e]
    · rw [if_neg e]
      unfold upI at h
      cases hu : up a with
      | none => rw [hu] at h; cases h
      | some b =>
        rw [hu] at h
        exact ring_ret h (by omega)
theorem pigeon : ∀ (n : Nat) (f : Nat → Nat), (∀ i, i ≤ n → f i < n) → ∃ i j, i < j ∧ j ≤ n ∧ f i = f j
  | 0, f, h => absurd (h 0 (by omega)) (by omega)
  | n + 1, f, h => by
    by_cases g : ∃ i, i ≤ n ∧ f i = f (n + 1)
    · obtain ⟨i, a, b⟩ := g
      exact ⟨i, n + 1, by omega, by omega, b⟩
    · have ng : ∀ i, i ≤ n → ¬ f i = f (n + 1) := fun i a b => g ⟨i, a, b⟩
      obtain ⟨i, j, a, b, c⟩ := pigeon n (fun i => if f i = n then f (n + 1) else f i) (fun i hi => by
        have h1 := h i (by omega)
        have h2 := h (n + 1) (by omega)
        have h3 := ng i hi
        by_cases e : f i = n
        · rw [if_pos e]; omega
        · rw [if_neg e]; omega)
      have hi := ng i (by omega)
      have hj := ng j (by omega)
      refine ⟨i, j, a, by omega, ?_⟩
      by_cases e1 : f i = n
      · by_cases e2 : f j = n
        · omega
        · rw [if_pos e1, if_neg e2] at c; omega
      · by_cases e2 : f j = n
        · rw [if_neg e1, if_pos e2] at c; omega
        · rw [if_neg e1, if_neg e2] at c; exact c
theorem upI_add {up : Nat → Option Nat} : ∀ (i j a : Nat), upI up (i + j) a = match upI up i a with
    | none => none
    | some b => upI up j b
  | 0, j, a => by rw [Nat.zero_add]; rfl
  | i + 1, j, a => by
    rw [show i + 1 + j = (i + j) + 1 by omega]
    show (match up a with
      | none => none
      | some b => upI up (i + j) b) = match (match up a with
        | none => none
        | some b => upI up i b) with
      | none => none
      | some b => upI up j b
    cases up a with
    | none => rfl
    | some b => exact upI_add i j b
section MJA11b
variable {up : Nat → Option Nat} {n : Nat}
/-- no CLASS is above itself -/
def noR (up : Nat → Option Nat) (n : Nat) : Prop := ∀ c, c < n → ∀ m, m < 17 → ¬ upI up (m + 1) c = some c
theorem noR_of (hr : ∀ c, c < n → ¬ ringW up c 16 (up c) = some c) : noR up n := by
  intro c hc m hm h
  unfold upI at h
  cases hu : up c with
  | none => rw [hu] at h; cases h
  | some b =>
    rw [hu] at h
    exact hr c hc (by rw [hu]; exact ring_ret h (by omega))
theorem upI_lt (hl : ∀ c d, c < n → up c = some d → d < n) : ∀ (m a b : Nat), a < n → upI up m a = some b → b < n
  | 0, a, b, h, e => by cases e; exact h
  | m + 1, a, b, h, e => by
    unfold upI at e
    cases hu : up a with
    | none => rw [hu] at e; cases e
    | some x =>
      rw [hu] at e
      exact upI_lt hl m x b (hl a x h hu) e
theorem upI_end (h16 : n ≤ 16) (hl : ∀ c d, c < n → up c = some d → d < n) (hr : noR up n) {c : Nat} (hc : c < n) : upI up n c = none := by
  cases e : upI up n c with
  | none => rfl
  | some z =>
    exfalso
    have hs : ∀ i, i ≤ n → ∃ b, upI up i c = some b := by
      intro i hi
      have := upI_add (up := up) i (n - i) c
      rw [show i + (n - i) = n by omega, e] at this
      cases h : upI up i c with
      | none => rw [h] at this; cases this
      | some b => exact ⟨b, rfl⟩
    obtain ⟨i, j, a, b, f⟩ := pigeon n (fun i => (upI up i c).getD 0) (fun i hi => by
      obtain ⟨b, hb⟩ := hs i hi
      rw [hb]
      exact upI_lt hl i c b hc hb)
    obtain ⟨x, hx⟩ := hs i (by omega)
    obtain ⟨y, hy⟩ := hs j b
    rw [hx, hy] at f
    have : x = y := f
    subst this
    have ad := upI_add (up := up) i (j - i) c
    rw [show i + (j - i) = j by omega, hx, hy] at ad
    have := hr x (upI_lt hl i c x hc hx) (j - i - 1) (by omega)
    rw [show j - i - 1 + 1 = j - i by omega] at this
    exact this ad.symm
/-- how high a CLASS stands -/
def hgt (up : Nat → Option Nat) (c : Nat) : Nat := (fnd (fun k => decide (upI up (k + 1) c = none)) 16).getD 0
theorem hgt_of (h16 : n ≤ 16) (h1 : 1 ≤ n) (hl : ∀ c d, c < n → up c = some d → d < n) (hr : noR up n) {c : Nat} (hc : c < n) : ∃ k, k < 16 ∧ hgt up c = k ∧ upI up (k + 1) c = none ∧ ∀ j, j < k → ¬ upI up (j + 1) c = none := by
  unfold hgt
  cases hf : fnd (fun k => decide (upI up (k + 1) c = none)) 16 with
  | none =>
    have := fnd_none.mp hf (n - 1) (by omega)
    rw [show n - 1 + 1 = n by omega, upI_end h16 hl hr hc] at this
    simp at this
  | some k =>
    obtain ⟨a, b, e⟩ := fnd_some.mp hf
    exact ⟨k, a, rfl, by simpa using b, fun j hj => by simpa using e j hj⟩
theorem hgt_lt (h16 : n ≤ 16) (hl : ∀ c d, c < n → up c = some d → d < n) (hr : noR up n) {c e : Nat} (hc : c < n) (hu : up c = some e) : hgt up e < hgt up c := by
  have he := hl c e hc hu
  obtain ⟨k, k1, k2, k3, k4⟩ := hgt_of h16 (by omega) hl hr hc
  obtain ⟨j, j1, j2, j3, j4⟩ := hgt_of h16 (by omega) hl hr he
  rw [k2, j2]
  have sh : ∀ m, upI up (m + 1) c = upI up m e := by
    intro m
    show (match up c with
      | none => none
      | some b => upI up m b) = _
    rw [hu]
  rw [sh] at k3
  cases k with
  | zero => cases k3
  | succ k =>
    by_cases g : j < k + 1
    · exact g
    · exact absurd k3 (j4 k (by omega))
theorem hgt_16 (up : Nat → Option Nat) (c : Nat) : hgt up c < 16 := by
  unfold hgt
  cases hf : fnd (fun k => decide (upI up (k + 1) c = none)) 16 with
  | none => show 0 < 16; omega
  | some k => exact fnd_lt hf
end MJA11b
