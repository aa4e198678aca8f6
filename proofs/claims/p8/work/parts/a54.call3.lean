/-! ===== the Coder: codeAll accepts just where every METHOD's orders are judged well ===== -/
section MJA54
variable {N q D : Nat} {isM : Nat → Bool} {Em : Nat → EV} {bt kq i0 : Nat → Nat} {zm : Nat → PB} {jm : Nat → JS} {s s0 : mjSt3} {cs : Nat}
def OKf (isM : Nat → Bool) (Em : Nat → EV) (zm : Nat → PB) (jm : Nat → JS) : Prop := ∀ m, m ≤ 384 → isM m = true → ¬ jrun (Em m) (zm m).2.2.2.1 (jm m) = none
theorem GCm.ok (G : GCm q isM Em i0 zm jm s 385 cs) : OKf isM Em zm jm := by
  intro m hm im h
  obtain ⟨c, j', l, k1, _⟩ := G m (by omega) im
  have al := jrun_al (E := Em m) (ps := psOf (Em m) (i0 m) c (zm m).2.2.2.1 (jm m)) (zm m).2.2.2.1 (jm m)
  rw [k1, h] at al
  exact al
theorem x_4a (hD : 136 ≤ D + 1) (H : MBm N q D isM Em bt kq i0 zm jm s) (C : CB (Em 384).1 N q (Em 384).2.1 (Em 384).2.2.1 s) {c : Nat} (f : fne s c) (hc : c ≤ N) (sz : s.1 (q + 24) 3 = 0) : (OKf isM Em zm jm → ∃ s' c' cs', L_4_23 (mjF (D + 1)) mjN 75 (nI 0) (mjW0 s) = some (none, mjW0 s') ∧ CB (Em 384).1 N q (Em 384).2.1 (Em 384).2.2.1 s' ∧ oC q s s' ∧ fne s' c' ∧ c' ≤ N ∧ s'.1 (q + 24) 3 = nI cs' ∧ cs' ≤ N ∧ GCm q isM Em i0 zm jm s' 385 cs') ∧ (¬ OKf isM Em zm jm → ∃ s', L_4_23 (mjF (D + 1)) mjN 75 (nI 0) (mjW0 s) = some (none, mjW0 s') ∧ BC (Em 384).1 N q (Em 384).2.1 (Em 384).2.2.1 s' ∧ oC q s s') := by
  have X := lq_4 hD H 385 0 mjN 0 c s (by omega) (by have := mjN_v; omega) C offG.rf f hc sz (fun _ _ _ _ => Nat.zero_le _) (Nat.zero_le _) (fun m hm => by omega)
  constructor
  · intro ok
    rcases X with x | ⟨s', m', _, _, _, h1, h2, h3⟩
    · exact x
    · exact absurd h3 (ok m' h1 h2)
  · intro nok
    rcases X with ⟨s', c', cs', x1, x2, x3, x4, x5, x6, x7, x8⟩ | ⟨s', m', x1, x2, x3, _⟩
    · exact absurd x8.ok nok
    · exact ⟨s', x1, x2, x3⟩
end MJA54
