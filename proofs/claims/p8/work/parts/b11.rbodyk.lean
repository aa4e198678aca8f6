/-! ===== the reference's judgeBody, whole ===== -/
/-- a BLOCK's METHOD (none: main): what is known of it -/
def MMo (E : EV) (b i0 : Nat) (s : mjSt3) (mm : Option Nat) : Prop := match mm with
  | none => E.2.2.2.2.1 = none ∧ E.2.2.2.2.2.1 = 0 ∧ s.1 123 b = nI i0
  | some m => m < nMem E.2.1 ∧ E.2.2.2.2.1 = some (hmM E.2.1 m) ∧ E.2.2.2.2.2.1 = tyM E.1 E.2.1 m ∧ s.1 129 (400 * b + m) = nI i0
/-- what the judge begins with -/
def j0M (E : EV) (mm : Option Nat) : JS := match mm with
  | none => ([], [], [], 0, 0, (0, 0), 0, [])
  | some m => ([], [], pvs E.1 E.2.1 m (psM E.2.1 m).length, (psM E.2.1 m).length, 0, (0, 0), 0, [])
/-- what is written ahead of it -/
def oB0 : mjSt3 → mjSt3 → Prop := offG (fun h j => h = 97 ∧ (j = 82 ∨ j = 87 ∨ j = 88 ∨ j = 92 ∨ j = 132 ∨ j = 133)) (fun _ _ => False)
section MJB11
variable {d N b kq lo hi i0 : Nat} {ks zk : List Nat} {s s' : mjSt3} {E : EV} {mm : Option Nat} {os : List Row}
theorem oB0.r (o : oB0 s s') {h : Nat} (hh : ¬ h = 97) : s'.1 h = s.1 h := funext fun j => o.1 h j (by omega)
theorem oB0.l (o : oB0 s s') : s'.2 = s.2 := Prod.ext (funext fun x => funext fun j => o.2.1 x j (fun e => e)) o.2.2
theorem oB0.S {T : TT} {L : List CD} {tr : Bool} (o : oB0 s s') (B : BS T N b ks L tr s) : BS T N b ks L tr s' := by
  obtain ⟨⟨J, W, I, t⟩, Q, P⟩ := B
  refine ⟨⟨J.off2 (o.1 97 63 (by omega)) (fun x hx => o.r (by omega)) (fun x hx => by rw [o.l]), ?_, ?_, by rw [o.1 97 129 (by omega)]; exact t⟩, ⟨fun x hx => (Q.1 x hx).cg2 (o.r (by decide)) (o.r (by decide)) (o.r (by decide)) (o.r (by decide)) (o.r (by decide)), fun x hx => (Q.2 x hx).cg (o.r (by decide)) (o.r (by decide)) (o.r (by decide)) (o.r (by decide))⟩, ?_⟩
  · unfold WIT; rw [o.r (by decide)]; exact W
  · unfold IRr; rw [o.r (h := 117) (by decide), o.r (h := 118) (by decide)]; exact I
  · unfold PLr; rw [o.r (h := 109) (by decide), o.r (h := 110) (by decide), o.r (h := 130) (by decide), o.r (h := 184) (by decide)]; exact P
/-- from the first order on -/
theorem x_322b (F : FX E.1 N b ks E.2.1 E.2.2.1) (B : BK E.1 N b ks E.2.1 lo hi kq zk) (hkt : E.2.2.2.1 = ktL (800 * b) ks) (hlen : kq + zk.length ≤ 100000) (en5 : i0 + os.length < 5000) (S : BS E.1 N b ks E.2.1 E.2.2.1 s) (g : gR0 s) (W : NW E b mm s) (M : MMo E b i0 s mm) {j : JS} {td : Nat} (hj : j.2.2.2.2.1 = 0) (R : BR E.2.1 b s j ((kq, 0, [], 0), td, i0 + os.length, false, 0) (kq + zk.length)) (rows : ∀ (k : Nat) (r : Row), os[k]? = some r → Rw s (5000 * b + (i0 + k)) r) (last : s.1 143 (5000 * b + (i0 + os.length)) = 28 ∧ s.1 145 (5000 * b + (i0 + os.length)) = 0) (sc : sdW os i0 ((kq, 0, [], 0), td, i0 + os.length, false, 0)) (fd : (fdW os i0 ((kq, 0, [], 0), td, i0 + os.length, false, 0)).1.1 ≤ kq + zk.length) : ∃ s', b_322_125 (mjF (d + 7)) 97 (mR b mm) (mjW0 s) = some (none, mjW0 s') ∧ oJw b i0 (i0 + os.length) kq (kq + zk.length) s s' ∧ match jrun E os j with
    | none => bR0 s'
    | some _ => gR0 s' ∧ BS E.1 N b ks E.2.1 E.2.2.1 s' ∧ JDG E b s' i0 os j := by
  have hmj := mjN_v
  have hb := S.1.1.b1
  have m384 := S.1.1.n384
  obtain ⟨s', a1, a2, a3⟩ := lq_322 (d := d) (mm := mm) (en := i0 + os.length) F B hkt hlen en5 os i0 mjN s j ((kq, 0, [], 0), td, i0 + os.length, false, 0) rfl (by omega) S g W R rows last sc fd (Nat.le_refl _) (Or.inr rfl) (by omega)
  refine ⟨s', ?_, a2, a3⟩
  rw [← a1]
  have e1 : ∀ n : Nat, (5000 : Int32) * nI b + nI n = nI (5000 * b + n) := fun n => by rw [show (5000 : Int32) = nI 5000 from rfl, nI_mul, nI_add]
  unfold b_322_125 b_322_156
  cases mm with
  | none =>
    rw [xg_97_63, S.1.1.1.2, if_pos (show mR b none = -1 from rfl), xg_97_34, xg_97_63, S.1.1.1.2, wa_123 (by omega), show s.1 123 b = nI i0 from M.2.2, e1]
  | some m =>
    have hm : m < nMem E.2.1 := M.1
    rw [xg_97_63, S.1.1.1.2, if_neg (show ¬ mR b (some m) = -1 from nI_m1 (show 400 * b + m < 2 ^ 31 by omega)), xg_97_40, show mR b (some m) = nI (400 * b + m) from rfl, wa_129 (by omega), show s.1 129 (400 * b + m) = nI i0 from M.2.2.2, e1]
end MJB11
