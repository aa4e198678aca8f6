/-! ===== a load leaves the PROGRAM that is there ===== -/
section MJB81
variable {T : TT} {N b h kb q wm cm a j : Nat} {L : List CD} {t : PT} {rs : List RcM} {z : PB} {tr : Bool} {H : HEAP} {A : AMS} {s s' : mjSt3}
theorem dis_Rd (hh : h + b = 1) (x : inB h a j) : ¬ chRd b a j := by
  intro w
  have hb : b = 1 - h := by omega
  rcases x with x | x | x | x | x | x | x | x | x | x | x <;> rcases w with ((w | w | w | w | w | w | w) | w | w) | w | w | w | w | w | w | w <;> omega
theorem dis_JA (hh : h + b = 1) (x : inB h a j) : ¬ chJA b a j := by
  intro w
  have hb : b = 1 - h := by omega
  rcases x with x | x | x | x | x | x | x | x | x | x | x <;> rcases w with w | w | w | w | w | w | w | w | w | w | w | w | w | w <;> omega
theorem MRn.gen (M : MRn T t b wm cm A s) (e : ∀ j, (96 ≤ j ∧ j ≤ 106) ∨ j = 116 ∨ j = 118 ∨ j = 119 → s'.1 97 j = s.1 97 j) (er : ∀ h, 167 ≤ h ∧ h ≤ 176 → s'.1 h = s.1 h) : MRn T t b wm cm A s' := by
  obtain ⟨⟨⟨a1, a2, a3, a4⟩, ⟨a5, a6, a7⟩, ⟨a8, a9, a10⟩, ⟨a11, a12⟩, a13⟩, hH, hF, hT⟩ := M
  refine ⟨⟨⟨by rw [e 96 (by omega)]; exact a1, by rw [e 97 (by omega)]; exact a2, by rw [e 98 (by omega)]; exact a3, by rw [e 99 (by omega)]; exact a4⟩, ⟨by rw [e 100 (by omega)]; exact a5, by rw [e 105 (by omega)]; exact a6, by rw [e 106 (by omega)]; exact a7⟩, ⟨by rw [e 102 (by omega)]; exact a8, by rw [e 103 (by omega)]; exact a9, by rw [e 116 (by omega)]; exact a10⟩, ⟨by rw [e 101 (by omega)]; exact a11, by rw [e 104 (by omega)]; exact a12⟩, fun i h1 h2 => by rw [er 167 (by omega)]; exact a13 i h1 h2⟩, hH.keep (fun x hx => er x (by omega)), FRr.keep (fun x hx => er x (by omega)) _ hF, fun g gs hg => ?_⟩
  obtain ⟨c1, c2, c3⟩ := hT g gs hg
  exact ⟨by rw [e 119 (by omega)]; exact c1, by rw [e 118 (by omega)]; exact c2, STr.low _ (fun j _ => by rw [er 176 (by omega)]) c3⟩
theorem KNm.gen (K : KNm T L H s) (e : s'.1 97 126 = s.1 97 126 ∧ s'.1 97 127 = s.1 97 127) (er : s'.1 181 = s.1 181) : KNm T L H s' := by
  unfold KNm
  rw [e.1, e.2, er]
  exact K
/-- what a refused load of the reference leaves -/
theorem oLm_97j (o : oLm b s s') (hj : ¬ (j = 1 ∨ j = 2 ∨ j = 3 ∨ j = 4 ∨ j = 5 ∨ j = 6 ∨ (59 ≤ j ∧ j ≤ 67) ∨ j = 71 ∨ j = 76 ∨ j = 77 ∨ j = 82 ∨ j = 87 ∨ j = 88 ∨ j = 92 ∨ j = 95 ∨ j = 129 ∨ j = 132 ∨ j = 133)) : s'.1 97 j = s.1 97 j := by
  refine o.1 97 j (fun w => ?_)
  rcases w with (((w | w | w | w | w | w | w) | w | w) | w | w | w | w | w | w | w) | (w | w | w | w | w | w | w | w | w | w | w | w | w | w) | w <;> omega
theorem oLm_h (o : oLm b s s') (ha : a < 97 ∨ a = 98 ∨ (167 ≤ a ∧ a ≤ 181)) : s'.1 a = s.1 a := by
  funext y
  refine o.1 a y (fun w => ?_)
  rcases w with (((w | w | w | w | w | w | w) | w | w) | w | w | w | w | w | w | w) | (w | w | w | w | w | w | w | w | w | w | w | w | w | w) | w <;> omega
end MJB81
