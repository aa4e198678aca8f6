/-! ===== call, variable, on both ===== -/
def frK : List FRM → Nat → Option FRM
  | [], _ => none
  | f :: fs, k => if k = fs.length then some f else frK fs k
section MJB88
variable {T : TT} {d N b kb q i k k0 m wm cm : Nat} {t : PT} {L : List CD} {rs : List RcM} {z : PB} {tr : Bool} {cs : Nat → Nat} {pf : Nat → Nat → Nat} {H : HEAP} {A : AMS} {f : FRM} {s : mjSt3} {a v : Int32}
theorem frK_ex : ∀ (fs : List FRM) (k : Nat), k < fs.length → ∃ f, frK fs k = some f ∧ f ∈ fs
  | [], k, h => by cases h
  | f :: fs, k, h => by
    have h' : k < fs.length + 1 := h
    by_cases e : k = fs.length
    · exact ⟨f, if_pos e, List.mem_cons_self⟩
    · obtain ⟨g, g1, g2⟩ := frK_ex fs k (by omega)
      exact ⟨g, (if_neg e).trans g1, List.mem_cons_of_mem _ g2⟩
theorem FRc.nth : ∀ (fs : List FRM) (k : Nat) (f : FRM), FRc pf s fs → frK fs k = some f → s.1 84 k = nI f.1 ∧ s.1 85 k = nI f.2.1 ∧ s.1 87 k = f.2.2.1 ∧ ∀ v, v < 16 → s.1 88 (16 * k + v) = f.2.2.2.1 v
  | [], k, f, h, e => by cases e
  | g :: fs, k, f, h, e => by
    have e' : (if k = fs.length then some g else frK fs k) = some f := e
    by_cases q : k = fs.length
    · rw [if_pos q] at e'
      have e2 := Option.some.inj e'
      rw [q, ← e2]
      exact ⟨h.1.1, h.1.2.1, h.1.2.2.1, h.1.2.2.2.1⟩
    · rw [if_neg q] at e'
      exact FRc.nth fs k f h.2 e'
theorem FRr.nth : ∀ (fs : List FRM) (k : Nat) (f : FRM), FRr b t s fs → frK fs k = some f → s.1 171 k = mR b (moM f.1) ∧ s.1 172 k = nI f.2.1 ∧ s.1 173 k = f.2.2.1 ∧ ∀ v, v < 16 → s.1 175 (16 * k + v) = f.2.2.2.1 v
  | [], k, f, h, e => by cases e
  | g :: fs, k, f, h, e => by
    have e' : (if k = fs.length then some g else frK fs k) = some f := e
    by_cases q : k = fs.length
    · rw [if_pos q] at e'
      have e2 := Option.some.inj e'
      rw [q, ← e2]
      exact ⟨h.1.1, h.1.2.1, h.1.2.2.1, h.1.2.2.2.1⟩
    · rw [if_neg q] at e'
      exact FRr.nth fs k f h.2 e'
theorem SUS.all : ∀ (fs : List FRM) (m k : Nat) (st : List Int32), SUS T t rs z tr k0 H fs m k st → ∀ f, f ∈ fs → FOK T t rs z tr k0 H f
  | [], m, k, st, h, f, hf => by cases hf
  | g :: fs, m, k, st, ⟨h0, h1, h2, j, l, x, xs, seg, rest, h3, h4, h5, h6, h7, h8⟩, f, hf => by
    rcases List.mem_cons.mp hf with e | e
    · rw [e]; exact h1
    · exact SUS.all fs _ _ _ h8 f e
theorem AOK.all (hA : AOK T t rs z tr k0 wm cm A) : ∀ f, f ∈ A.2.1 → FOK T t rs z tr k0 A.1 f := by
  intro f hf
  by_cases ph : A.2.2.2.2.2.2.2.2.1 = 1
  · obtain ⟨g, gs, e, F, _, j, l, seg, rest, _, _, _, S⟩ := hA.2.2.2.1 ph
    rw [e] at hf
    rcases List.mem_cons.mp hf with e | e
    · rw [e]; exact F
    · exact SUS.all gs _ _ _ S f e
  · rw [hA.2.2.2.2 ph] at hf
    cases hf
theorem x_344 : mjF (d + 1) 344 [.ref 97, .int a] (mjW0 s) = some (some (.int (if ¬ s.1 97 96 = 1 ∨ a < 0 ∨ s.1 97 116 ≤ a then 0 else 1)), mjW0 s) := by
  rw [e_344]
  unfold f_344 b_344_0 b_344_24
  rw [xg_97_96]
  by_cases h1 : s.1 97 96 = 1
  · rw [if_pos h1]
    by_cases h2 : a < 0
    · rw [if_pos h2, if_pos (Or.inr (Or.inl h2))]
    rw [if_neg h2, xg_97_116]
    by_cases h3 : s.1 97 116 ≤ a
    · rw [if_pos h3, if_pos (Or.inr (Or.inr h3))]
    · rw [if_neg h3, if_neg (fun x => x.elim (fun y => y h1) (fun x => x.elim h2 h3))]
  · rw [if_neg h1, if_pos (Or.inl h1)]
/-- a CALL of that number: on both, or on none -/
theorem Inv.frm (I : Inv i s) (a : Int32) : ((a < 0 ∨ ¬ a < s.1 83 0) ∧ ∀ d, mjF (d + 1) 344 [.ref 97, .int a] (mjW0 s) = some (some (.int 0), mjW0 s)) ∨ ∃ T N b q t rs kb z tr cs wm cm A k f, IPG T N b q t rs kb z tr cs s ∧ IRN i T b q t rs z tr cs wm cm A s ∧ FOK T t rs z tr (800 * b) A.1 f ∧ frK A.2.1 k = some f ∧ f ∈ A.2.1 ∧ a = nI k ∧ k < 40 ∧ ¬ a < 0 ∧ a < s.1 83 0 ∧ ∀ d, mjF (d + 1) 344 [.ref 97, .int a] (mjW0 s) = some (some (.int 1), mjW0 s) := by
  have kz : IZ s → (a < 0 ∨ ¬ a < s.1 83 0) ∧ ∀ d, mjF (d + 1) 344 [.ref 97, .int a] (mjW0 s) = some (some (.int 0), mjW0 s) := by
    intro ⟨⟨a1, a2⟩, _, _, ⟨a3, _⟩, _⟩
    refine ⟨?_, fun d => ?_⟩
    · rw [a3]
      by_cases h : a < 0
      · exact Or.inl h
      · exact Or.inr h
    · rw [x_344, a1, if_pos (Or.inl (by decide))]
  rcases I.2 with ⟨_, _, a3⟩ | ⟨T, N, b, q, t, rs, kb, z, tr, cs, G, hR⟩
  · exact Or.inl (kz a3)
  rcases hR with a3 | ⟨wm, cm, A, R⟩
  · exact Or.inl (kz a3)
  have hA := R.2.2.1.1
  have c83 : s.1 83 0 = nI A.2.1.length := R.2.2.2.1.1.2.2.1.2.2
  have r116 : s.1 97 116 = nI A.2.1.length := R.2.2.2.2.1.1.2.2.1.2.2
  have r96 : s.1 97 96 = nI A.2.2.2.2.2.2.2.2.1 := R.2.2.2.2.1.1.1.1
  have p3 := R.2.1.2.1
  have l40 : A.2.1.length ≤ 40 := Nat.le_trans hA.2.2.1 R.1.2
  by_cases h : a < 0 ∨ ¬ a < nI A.2.1.length
  · refine Or.inl ⟨by rw [c83]; exact h, fun d => ?_⟩
    rw [x_344, r116, if_pos (Or.inr (h.imp id (fun x => Int32.not_lt.mp x)))]
  · have h0 : ¬ a < 0 := fun x => h (Or.inl x)
    have h1 : a < nI A.2.1.length := Classical.byContradiction (fun x => h (Or.inr x))
    obtain ⟨k, k31, ek⟩ := nI_of h0
    have kl : k < A.2.1.length := by
      rw [ek] at h1
      exact (nI_ltI (by omega) (by omega)).mp h1
    have ph : A.2.2.2.2.2.2.2.2.1 = 1 := Classical.byContradiction (fun x => by
      rw [hA.2.2.2.2 x] at kl
      exact absurd kl (Nat.not_lt_zero k))
    obtain ⟨f, f1, f2⟩ := frK_ex A.2.1 k kl
    refine Or.inr ⟨T, N, b, q, t, rs, kb, z, tr, cs, wm, cm, A, k, f, G, R, hA.all f f2, f1, f2, ek, by omega, h0, by rw [c83]; exact h1, fun d => ?_⟩
    rw [x_344, r116, r96, if_neg]
    rintro (x | x | x)
    · exact x (by rw [ph]; rfl)
    · exact h0 x
    · exact Int32.not_lt.mpr x h1
theorem pair_call (I : Inv i s) (a v : Int32) : PairOK (Inv (i + 1)) 214 343 [.int a, .int v] s := by
  have J : Inv (i + 1) s := I.mono (by omega)
  rcases I.frm a with ⟨hc, r344⟩ | ⟨T, N, b, q, t, rs, kb, z, tr, cs, wm, cm, A, k, f, G, R, F, f1, f2, ek, k40, a0, al, r344⟩
  · refine ⟨-1, s, s, ?_, ?_, J⟩
    · rw [e_214 (d := 1998)]
      unfold f_214 b_214_0 b_214_20
      rw [xg_0_12, xg_82_1]
      by_cases h : a < 0
      · rw [if_pos h]
      · rw [if_neg h, xg_83_0, if_neg (hc.resolve_left h)]
    · rw [e_343 (d := 1998)]
      unfold f_343 b_343_0
      rw [xV_97, r344 1997, bI_s, if_pos rfl]
  · obtain ⟨c1, c2, c3, _⟩ := FRc.nth _ _ _ R.2.2.2.1.2.2.1 f1
    obtain ⟨d1, d2, d3, _⟩ := FRr.nth _ _ _ R.2.2.2.2.1.2.2.1 f1
    have e6 := G.1.2.2.2.1
    have e9 := G.1.2.1
    have hb := G.1.1
    have hq : isP q := G.2.2.2.1.1.1
    have g9 := G.2.2.2.1.2.2.1.2.1
    have g16 := G.2.2.2.1.2.2.2.2.2.2.1
    have m384 := G.2.1.1.2.1
    obtain ⟨_, _, _, rm, _⟩ := G.ref
    have r344' := r344 1997
    have pc : mjF 1999 214 [.ref 0, .int a, .int v] (mjW0 s) = (f_214 (mjF 1998) 0 (nI k) v (mjW0 s)) := by rw [ek]; exact e_214 (d := 1998)
    have pr : mjF 1999 343 [.ref 97, .int a, .int v] (mjW0 s) = (f_343 (mjF 1998) 97 (nI k) v (mjW0 s)) := by rw [ek]; exact e_343 (d := 1998)
    rw [ek] at r344' a0 al
    unfold f_214 b_214_0 b_214_20 at pc
    rw [xg_0_12, xg_82_1, if_neg a0, xg_83_0, if_pos al, xg_83_2, wa_84 k40, c1] at pc
    unfold f_343 b_343_0 at pr
    rw [xV_97, r344', bI_s, if_neg (show ¬ ((1 : Int32) = 0) by decide), xg_97_111, wa_171 k40, d1] at pr
    rcases F.1 with ⟨fm, _⟩ | ⟨fm, _⟩
    · have c384 : nI f.1 = 384 := by rw [fm]; rfl
      have m1 : mR b (moM f.1) = -1 := by rw [fm]; rfl
      by_cases v0 : v = 0
      · refine ⟨-1, s, s, ?_, ?_, J⟩
        · rw [pc, if_pos v0, if_pos c384]
        · rw [pr, if_pos v0, if_pos m1]
      by_cases v1 : v = 1
      · refine ⟨-1, s, s, ?_, ?_, J⟩
        · rw [pc, if_neg v0, if_pos v1, if_pos c384]
        · rw [pr, if_neg v0, if_pos v1, if_pos m1]
      by_cases v2 : v = 2
      · refine ⟨nI f.2.1, s, s, ?_, ?_, J⟩
        · rw [pc, if_neg v0, if_neg v1, if_pos v2, xg_83_3, wa_85 k40, c2]
        · rw [pr, if_neg v0, if_neg v1, if_pos v2, xg_97_112, wa_172 k40, d2]
      by_cases v3 : v = 3
      · refine ⟨f.2.2.1, s, s, ?_, ?_, J⟩
        · rw [pc, if_neg v0, if_neg v1, if_neg v2, if_pos v3, xg_83_5, wa_87 k40, c3]
        · rw [pr, if_neg v0, if_neg v1, if_neg v2, if_pos v3, xg_97_113, wa_173 k40, d3]
      · refine ⟨-1, s, s, ?_, ?_, J⟩
        · rw [pc, if_neg v0, if_neg v1, if_neg v2, if_neg v3]
        · rw [pr, if_neg v0, if_neg v1, if_neg v2, if_neg v3]
    · have n384 : ¬ nI f.1 = 384 := fun x => by
        have := (nI_eq (a := f.1) (b := 384) (by omega) (by omega)).mp x
        omega
      have em : mR b (moM f.1) = nI (400 * b + f.1) := by
        unfold moM
        rw [if_neg (by omega)]
        rfl
      have nm1 : ¬ nI (400 * b + f.1) = -1 := nI_m1 (by omega)
      rw [em] at pr
      obtain ⟨q1, q2, _⟩ := g16 f.1 fm
      obtain ⟨r1, r2⟩ := rm f.1 fm
      have n9 := (g9 f.1 fm).1
      by_cases v0 : v = 0
      · refine ⟨nI (hmM t.1 f.1), s, s, ?_, ?_, J⟩
        · rw [pc, if_pos v0, if_neg n384, xg_0_6, e6, yg_14 hq, ymg_2 hq, wya_16 hq (by omega), q1]
        · rw [pr, if_pos v0, if_neg nm1, xg_97_35, wa_124 (by omega), r1, xg_97_9, e9, m16]
      by_cases v1 : v = 1
      · refine ⟨nI (numM T t.1 f.1), s, s, ?_, ?_, J⟩
        · rw [pc, if_neg v0, if_pos v1, if_neg n384, xg_0_6, e6, yg_14 hq, ymg_5 hq, wya_19 hq (by omega), n9]
        · rw [pr, if_neg v0, if_pos v1, if_neg nm1, xg_97_41, wa_130 (by omega), r2]
      by_cases v2 : v = 2
      · refine ⟨nI f.2.1, s, s, ?_, ?_, J⟩
        · rw [pc, if_neg v0, if_neg v1, if_pos v2, xg_83_3, wa_85 k40, c2]
        · rw [pr, if_neg v0, if_neg v1, if_pos v2, xg_97_112, wa_172 k40, d2]
      by_cases v3 : v = 3
      · refine ⟨f.2.2.1, s, s, ?_, ?_, J⟩
        · rw [pc, if_neg v0, if_neg v1, if_neg v2, if_pos v3, xg_83_5, wa_87 k40, c3]
        · rw [pr, if_neg v0, if_neg v1, if_neg v2, if_pos v3, xg_97_113, wa_173 k40, d3]
      · refine ⟨-1, s, s, ?_, ?_, J⟩
        · rw [pc, if_neg v0, if_neg v1, if_neg v2, if_neg v3]
        · rw [pr, if_neg v0, if_neg v1, if_neg v2, if_neg v3]
/-- VARIABLES of a METHOD: at most 16 -/
theorem IPG.vn (G : IPG T N b q t rs kb z tr cs s) (hm : m ≤ 384) (im : isMT t.1 m = true) : vnT t m ≤ 16 := by
  obtain ⟨R, hN⟩ := G.2.2.2.2.2.2
  have hb := G.1.1
  obtain ⟨⟨o, ho, k1⟩, k2, _⟩ := MBk_ex R (by omega) hN m hm im
  rw [← k2]
  refine prS_16 30 0 o _ _ _ _ _ ?_ k1
  unfold npT
  by_cases e : m = 384
  · rw [if_pos e]; omega
  · rw [if_neg e]
    have := (G.2.1.1.1.2.1 m (isMT_lt im e).1).2.1
    omega
theorem pair_variable (I : Inv i s) (a v : Int32) : PairGo (Inv (i + 1)) 215 345 [.int a, .int v] s := by
  have J : Inv (i + 1) s := I.mono (by omega)
  rcases I.frm a with ⟨hc, r344⟩ | ⟨T, N, b, q, t, rs, kb, z, tr, cs, wm, cm, A, k, f, G, R, F, f1, f2, ek, k40, a0, al, r344⟩
  · refine ⟨0, 0, s, s, ?_, ?_, J⟩
    · rw [e_215 (d := 1998)]
      unfold f_215 b_215_0 b_215_20
      rw [xg_0_12, xg_82_1]
      by_cases h : a < 0
      · rw [if_pos h]
      · rw [if_neg h, xg_83_0, if_neg (hc.resolve_left h)]
    · rw [e_345 (d := 1998)]
      unfold f_345 b_345_0 b_345_18
      rw [xV_97, r344 1997, bI_s, if_pos rfl]
  · obtain ⟨c1, c2, c3, c4⟩ := FRc.nth _ _ _ R.2.2.2.1.2.2.1 f1
    obtain ⟨d1, d2, d3, d4⟩ := FRr.nth _ _ _ R.2.2.2.2.1.2.2.1 f1
    have e6 := G.1.2.2.2.1
    have hq : isP q := G.2.2.2.1.1.1
    obtain ⟨fm, im⟩ := F.mt G.2.1.1.2.1
    have hv := G.2.2.2.2.2.1 f.1 fm im
    have v16 := G.vn fm im
    have r344' := r344 1997
    have pc : mjF 1999 215 [.ref 0, .int a, .int v] (mjW0 s) = (f_215 (mjF 1998) 0 (nI k) v (mjW0 s)) := by rw [ek]; exact e_215 (d := 1998)
    have pr : mjF 1999 345 [.ref 97, .int a, .int v] (mjW0 s) = (f_345 (mjF 1998) 97 (nI k) v (mjW0 s)) := by rw [ek]; exact e_345 (d := 1998)
    rw [ek] at r344' a0 al
    unfold f_215 b_215_0 b_215_20 b_215_51 b_215_52 at pc
    rw [xg_0_12, xg_82_1, if_neg a0, xg_83_0, if_pos al] at pc
    unfold f_345 b_345_0 b_345_18 at pr
    rw [xV_97, r344', bI_s, if_neg (show ¬ ((1 : Int32) = 0) by decide)] at pr
    by_cases h1 : v < 0
    · refine ⟨0, 0, s, s, ?_, ?_, J⟩
      · rw [pc, if_pos h1, if_pos rfl]
      · rw [pr, if_pos h1]
    rw [if_neg h1, xg_0_6, e6, yg_14 hq, ymg_8 hq, xg_83_2, wa_84 k40, c1, wya_22 hq (by omega), hv] at pc
    rw [if_neg h1] at pr
    obtain ⟨x, x31, ex⟩ := nI_of h1
    have rr : ∃ r, mjF 1999 345 [.ref 97, .int a, .int v] (mjW0 s) = some (some (.int r), mjW0 s) := by
      by_cases h2 : v < 16
      · have xl : x < 16 := by
          rw [ex] at h2
          exact (nI_ltI (a := x) (b := 16) (by omega) (by omega)).mp h2
        exact ⟨_, by rw [pr, if_pos h2, xg_97_115, ex, show (16 : Int32) * nI k + nI x = nI (16 * k + x) by rw [show (16 : Int32) = nI 16 from rfl, nI_mul, nI_add], wa_175 (by omega)]⟩
      · exact ⟨0, by rw [pr, if_neg h2]⟩
    have rc : ∃ r, mjF 1999 215 [.ref 0, .int a, .int v] (mjW0 s) = some (some (.int r), mjW0 s) := by
      by_cases h2 : nI (vnT t f.1) ≤ v
      · exact ⟨0, by rw [pc, if_pos h2, if_pos rfl]⟩
      · have xl : x < vnT t f.1 := by
          rw [ex] at h2
          exact (nI_ltI (by omega) (by omega)).mp (Int32.not_le.mp h2)
        refine ⟨s.1 88 (16 * k + x), ?_⟩
        rw [pc, if_neg h2, if_neg (show ¬ ((1 : Int32) = 0) by decide), xV_83, e_39 (d := 1997)]
        unfold f_39 b_39_0
        rw [xg_83_6, ex, show nI k * (16 : Int32) + nI x = nI (16 * k + x) by rw [show (16 : Int32) = nI 16 from rfl, nI_mul, nI_add, Nat.mul_comm], wa_88 (by omega), bI_s]
    obtain ⟨r1, e1⟩ := rc
    obtain ⟨r2, e2⟩ := rr
    exact ⟨r1, r2, s, s, e1, e2, J⟩
end MJB88
