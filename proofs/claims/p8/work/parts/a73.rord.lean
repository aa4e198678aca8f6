/-! ===== where the KINDS stand: no two in one place ===== -/
section MJA73
variable {T : TT} {N k0 kb : Nat} {t : PT} {rs : List RcM} {z : PB}
theorem CCh.le : ∀ {l : List (HD × List RcM)} {p p' : Nat}, CCh p l p' → p ≤ p'
  | [], _, _, h => h
  | E :: l, p, p', ⟨q, e, h1, h2, h3, h4, h5, h6⟩ => by
    have := CCh.le h6
    omega
/-- a head stands in its place -/
theorem CCh.hd : ∀ {l : List (HD × List RcM)} {p p' c : Nat} {E : HD × List RcM}, CCh p l p' → l[c]? = some E → p ≤ E.1.1 ∧ E.1.1 < p' ∧ (¬ E.1.2.2.1 = 0 → E.1.1 < E.1.2.2.1 ∧ E.1.2.2.1 < p')
  | [], _, _, _, _, _, h => by cases h
  | F :: l, p, p', 0, E, ⟨q, e, h1, h2, h3, h4, h5, h6⟩, h => by
    cases h
    have := CCh.le h6
    exact ⟨h1, by omega, fun x => by have := h3 x; omega⟩
  | F :: l, p, p', c + 1, E, ⟨q, e, h1, h2, h3, h4, h5, h6⟩, h => by
    have h' : l[c]? = some E := h
    obtain ⟨a, b, d⟩ := CCh.hd h6 h'
    exact ⟨by omega, b, d⟩
theorem CCh.rec' : ∀ {l : List (HD × List RcM)} {p p' : Nat} {r : RcM}, CCh p l p' → r ∈ l.flatMap (fun E => E.2) → p ≤ r.1.1 ∧ r.2.1 ≤ p'
  | [], _, _, _, _, h => by cases h
  | F :: l, p, p', r, ⟨q, e, h1, h2, h3, h4, h5, h6⟩, h => by
    rw [List.flatMap_cons] at h
    rcases List.mem_append.mp h with k | k
    · have := h4 r k
      have := CCh.le h6
      omega
    · have := CCh.rec' h6 k
      omega
/-- two heads -/
theorem CCh.hh : ∀ {l : List (HD × List RcM)} {p p' c c' : Nat} {E E' : HD × List RcM}, CCh p l p' → l[c]? = some E → l[c']? = some E' → c < c' → E.1.2.2.1 < E'.1.1
  | [], _, _, _, _, _, _, _, h, _, _ => by cases h
  | F :: l, p, p', c, 0, E, E', _, _, _, h => by omega
  | F :: l, p, p', 0, c' + 1, E, E', ⟨q, e, h1, h2, h3, h4, h5, h6⟩, h, h', _ => by
    cases h
    have h'' : l[c']? = some E' := h'
    obtain ⟨a, b, d⟩ := CCh.hd h6 h''
    by_cases z : F.1.2.2.1 = 0
    · omega
    · have := h3 z
      omega
  | F :: l, p, p', c + 1, c' + 1, E, E', ⟨q, e, h1, h2, h3, h4, h5, h6⟩, h, h', g => by
    have k : l[c]? = some E := h
    have k' : l[c']? = some E' := h'
    exact CCh.hh h6 k k' (by omega)
/-- a head's KIND stands in no MEMBER -/
theorem CCh.hr : ∀ {l : List (HD × List RcM)} {p p' c : Nat} {E : HD × List RcM} {r : RcM}, CCh p l p' → l[c]? = some E → r ∈ l.flatMap (fun E => E.2) → ¬ E.1.2.2.1 = 0 → ¬ (r.1.1 ≤ E.1.2.2.1 ∧ E.1.2.2.1 < r.2.1)
  | [], _, _, _, _, _, _, h, _, _ => by cases h
  | F :: l, p, p', 0, E, r, ⟨q, e, h1, h2, h3, h4, h5, h6⟩, h, hr, z => by
    cases h
    have a := h3 z
    rw [List.flatMap_cons] at hr
    rcases List.mem_append.mp hr with k | k
    · have := h4 r k; omega
    · have := CCh.rec' h6 k; omega
  | F :: l, p, p', c + 1, E, r, ⟨q, e, h1, h2, h3, h4, h5, h6⟩, h, hr, z => by
    have h' : l[c]? = some E := h
    rw [List.flatMap_cons] at hr
    rcases List.mem_append.mp hr with k | k
    · have := h4 r k
      obtain ⟨a, b, d⟩ := CCh.hd h6 h'
      have := d z
      omega
    · exact CCh.hr h6 h' k z
/-- the KIND behind is -/
def abK (t : PT) (c : Nat) : Nat := (hC t.1 c).2.2.1
theorem TRx.at (X : TRx t rs) {c : Nat} (hc : c < t.1.length) : ∃ (ll : List (HD × List RcM)) (E : HD × List RcM), ll[c]? = some E ∧ E.1 = hC t.1 c ∧ CCh 0 ll (t.2.1.1 - 1) ∧ rs = ll.flatMap (fun E => E.2) ∧ t.1 = ll.map (fun E => (E.1, E.2.map (fun r => r.1))) := by
  obtain ⟨ll, h1, h2, h3⟩ := X
  have hl : c < ll.length := by
    rw [h1, List.length_map] at hc
    exact hc
  refine ⟨ll, ll[c], List.getElem?_eq_getElem hl, ?_, h3, h2, h1⟩
  unfold hC
  rw [h1, List.getElem?_map, List.getElem?_eq_getElem hl]
  rfl
theorem TRx.hh (X : TRx t rs) {c c' : Nat} (hc : c < t.1.length) (hc' : c' < t.1.length) (h : ¬ c = c') (z : ¬ abK t c = 0) (z' : ¬ abK t c' = 0) : ¬ abK t c = abK t c' := by
  obtain ⟨ll, E, a1, a2, a3, a4, a5⟩ := X.at hc
  have hl : c' < ll.length := by
    rw [a5, List.length_map] at hc'
    exact hc'
  obtain ⟨E', b1⟩ : ∃ E', ll[c']? = some E' := ⟨_, List.getElem?_eq_getElem hl⟩
  have b2 : E'.1 = hC t.1 c' := by
    unfold hC
    rw [a5, List.getElem?_map, b1]
    rfl
  unfold abK at z z' ⊢
  rw [← a2] at z ⊢
  rw [← b2] at z' ⊢
  by_cases g : c < c'
  · have k1 := a3.hh a1 b1 g
    have k2 := (a3.hd b1).2.2 z'
    omega
  · have k1 := a3.hh b1 a1 (by omega)
    have k2 := (a3.hd a1).2.2 z
    omega
theorem TRx.hr (X : TRx t rs) {c m : Nat} {r : RcM} (hc : c < t.1.length) (z : ¬ abK t c = 0) (hr : rs[m]? = some r) : ¬ (r.1.1 ≤ abK t c ∧ abK t c < r.2.1) := by
  obtain ⟨ll, E, a1, a2, a3, a4, a5⟩ := X.at hc
  unfold abK at z ⊢
  rw [← a2] at z ⊢
  exact a3.hr a1 (by rw [← a4]; exact List.mem_of_getElem? hr) z
theorem TRx.lt (X : TRx t rs) (h1 : 1 ≤ t.2.1.1) {c : Nat} (hc : c < t.1.length) (z : ¬ abK t c = 0) : abK t c < t.2.1.1 := by
  obtain ⟨ll, E, a1, a2, a3, a4, a5⟩ := X.at hc
  unfold abK at z ⊢
  rw [← a2] at z ⊢
  have := (a3.hd a1).2.2 z
  omega
end MJA73
