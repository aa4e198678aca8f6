/-! ===== the reference reads an E so ===== -/
/-- a state that holds T -/
def sTH (T : TT) (N : Nat) : mjSt3 := (fun h j => if h = 58 then nI (N + 1) else if h = 60 then (T j).1 else if h = 61 then (T j).2.1 else 0, fun _ _ => 0, fun _ _ => 0)
theorem sTH_ok {T : TT} {N : Nat} (hN : N ≤ 3000) (h0 : (T N).1 = 0) : TH T N (sTH T N) := ⟨rfl, hN, h0, fun _ _ => ⟨rfl, rfl⟩⟩
/-- what is read ends within the text -/
theorem prE_le {T : TT} {N f q c kq : Nat} {z : PZ} (hN : N ≤ 3000) (h0 : (T N).1 = 0) (hq : q ≤ 12) (hc : c ≤ N) : (6 * (12 - q) + 7 ≤ f → prE T (N + 1) f 0 q c kq = .inr z → z.1 ≤ N) ∧ (6 * (12 - q) + 6 ≤ f → prE T (N + 1) f 1 q c kq = .inr z → z.1 ≤ N) ∧ (6 * (12 - q) + 5 ≤ f → prE T (N + 1) f 2 q c kq = .inr z → z.1 ≤ N) ∧ (6 * (12 - q) + 4 ≤ f → prE T (N + 1) f 3 q c kq = .inr z → z.1 ≤ N) ∧ (6 * (12 - q) + 3 ≤ f → prE T (N + 1) f 4 q c kq = .inr z → z.1 ≤ N) ∧ (6 * (12 - q) + 2 ≤ f → prE T (N + 1) f 5 q c kq = .inr z → z.1 ≤ N) := by
  have r := rdE_ok (sTH_ok hN h0) f (f + 9) q c kq 0 0 (fun _ => 0) (Nat.le_refl _) hq hc
  refine ⟨fun h e => ?_, fun h e => ?_, fun h e => ?_, fun h e => ?_, fun h e => ?_, fun h e => ?_⟩
  · have k := r.1 h; rw [e] at k; exact k.1
  · have k := r.2.1 h; rw [e] at k; exact k.1
  · have k := r.2.2.1 h; rw [e] at k; exact k.1
  · have k := r.2.2.2.1 h; rw [e] at k; exact k.1
  · have k := r.2.2.2.2.1 h; rw [e] at k; exact k.1
  · have k := r.2.2.2.2.2.1 h; rw [e] at k; exact k.1
/-- the loop ends bad -/
def FZ (T : TT) (b N : Nat) (run : Nat → mjU) (s : mjSt3) (k : Nat) (e : Nat × Nat) : Prop := ∃ s' j x, (∀ m, run (m + j) = some (none, mjW0 s')) ∧ j ≤ N + 5 - k ∧ MZ T b s' e x ∧ x ≤ 4700 ∧ offE b s s'
section MJ79
variable {tx : Nat → Int32} {n b D k o N : Nat} {s : mjSt3} {W : List WF} {f : WF} {os : List Row} {ks : List Nat}
theorem FZ.via {T : TT} {run run' : Nat → mjU} {s1 : mjSt3} {k1 j : Nat} {e : Nat × Nat} (h : FZ T b N run' s1 k1 e) (hr : ∀ m, run (m + j) = run' m) (ho : offE b s s1) (hj : j + k ≤ k1) (hk : k1 ≤ N) : FZ T b N run s k e := by
  obtain ⟨s', j', x, a1, a2, a3, a4, a5⟩ := h
  refine ⟨s', j' + j, x, fun m => ?_, by omega, a3, a4, ho.tr a5⟩
  rw [show m + (j' + j) = (m + j') + j by omega, hr, a1]
theorem FZ.via2 {T : TT} {run run' : Nat → mjU} {s1 : mjSt3} {k1 j : Nat} {e : Nat × Nat} (h : FZ T b N run' s1 k1 e) (hr : ∀ m, run (m + j) = run' m) (ho : offE b s s1) (hj : j + k ≤ k1) (hk : k1 ≤ N + 5) : FZ T b N run s k e := by
  obtain ⟨s', j', x, a1, a2, a3, a4, a5⟩ := h
  refine ⟨s', j' + j, x, fun m => ?_, by omega, a3, a4, ho.tr a5⟩
  rw [show m + (j' + j) = (m + j') + j by omega, hr, a1]
theorem FZ.one {T : TT} {run : Nat → mjU} {s' : mjSt3} {j x : Nat} {e : Nat × Nat} (hr : ∀ m, run (m + j) = some (none, mjW0 s')) (hj : j ≤ 2) (hk : k ≤ N) (z : MZ T b s' e x) (hx : x ≤ 4700) (ho : offE b s s') : FZ T b N run s k e := ⟨s', j, x, hr, by omega, z, hx, ho⟩
/-- all is small enough -/
def szE (B N k : Nat) (W : List WF) (os : List Row) (ks : List Nat) : Prop := os.length + W.length ≤ B + k ∧ B ≤ 1500 ∧ k ≤ N ∧ N ≤ 3000 ∧ 4 * ks.length ≤ k
/-- behind POST or ATOM -/
def gE (tx : Nat → Int32) (n b D N : Nat) (s : mjSt3) (k o : Nat) (W : List WF) (os : List Row) (ks : List Nat) (r : PX) : Prop := match r with
  | .inl e => FZ (mTT tx n) b N (fun m => lE (D + 8) m 1 s) s k e
  | .inr z => ∃ s' j, (∀ m, lE (D + 8) (m + j) 1 s = lE (D + 8) m 0 s') ∧ j + k ≤ z.1 ∧ MR tx n b s' z.1 o W (os ++ z.2.2.2.1) (ks ++ z.2.2.1) ∧ offE b s s' ∧ s'.1 97 77 = z.2.1
/-- behind UNIT -/
def gU (tx : Nat → Int32) (n b D N : Nat) (s : mjSt3) (k o : Nat) (W : List WF) (os : List Row) (ks : List Nat) (r : PX) : Prop := match r with
  | .inl e => FZ (mTT tx n) b N (fun m => lE (D + 8) m 1 s) s k e
  | .inr z => ∃ s' j q, (∀ m, lE (D + 8) (m + j) 1 s = mQ (D + 8) m q s') ∧ j + k ≤ z.1 + 1 ∧ mjN ≤ q + (12 - o) ∧ MR tx n b s' z.1 o W (os ++ z.2.2.2.1) (ks ++ z.2.2.1) ∧ offE b s s' ∧ s'.1 97 77 = z.2.1
/-- behind PRODUCT, SUM, E: y may be taken off yet -/
def gP (tx : Nat → Int32) (n b D N : Nat) (s : mjSt3) (k o : Nat) (W : List WF) (os : List Row) (ks : List Nat) (y : Nat) (r : PX) : Prop := match r with
  | .inl e => FZ (mTT tx n) b N (fun m => lE (D + 8) m 1 s) s k e
  | .inr z => ∃ s' j q, (∀ m, lE (D + 8) (m + j) 1 s = m1Q (D + 8) m q (lvl (mTT tx n z.1).1) s') ∧ j + k ≤ z.1 + 1 ∧ mjN ≤ q + y ∧ lvl (mTT tx n z.1).1 ≤ 3 - y ∧ MR tx n b s' z.1 o W (os ++ z.2.2.2.1) (ks ++ z.2.2.1) ∧ offE b s s' ∧ s'.1 97 77 = z.2.1
theorem lvl_pro {K : Int32} (h : isPro K = true) : lvl K = 3 ∧ lvO (nbr K 0) = 3 := by
  have : K = 42 ∨ K = 47 ∨ K = 37 := by simpa [isPro] using h
  rcases this with e | e | e <;> rw [e] <;> decide
theorem lvl_sum {K : Int32} (h : isSum K = true) : lvl K = 2 ∧ lvO (nbr K 0) = 2 := by
  have : K = 43 ∨ K = 45 := by simpa [isSum] using h
  rcases this with e | e <;> rw [e] <;> decide
theorem lvl_cmp {K : Int32} (h : isCmp K = true) : lvl K = 1 ∧ lvO (nbr K 0) = 1 := by
  have : K = 200 ∨ K = 201 ∨ K = 60 := by simpa [isCmp] using h
  rcases this with e | e | e <;> rw [e] <;> decide
theorem lvl_le (K : Int32) : lvl K ≤ 3 ∧ (¬ isPro K = true → lvl K ≤ 2) ∧ (¬ isPro K = true → ¬ isSum K = true → lvl K ≤ 1) ∧ (¬ isPro K = true → ¬ isSum K = true → ¬ isCmp K = true → lvl K = 0) := by
  unfold lvl
  by_cases a : isPro K = true
  · rw [if_pos a]; exact ⟨by omega, fun h => absurd a h, fun h => absurd a h, fun h => absurd a h⟩
  · rw [if_neg a]
    by_cases b : isSum K = true
    · rw [if_pos b]; exact ⟨by omega, fun _ => by omega, fun _ h => absurd b h, fun _ h => absurd b h⟩
    · rw [if_neg b]
      by_cases c : isCmp K = true
      · rw [if_pos c]; exact ⟨by omega, fun _ => by omega, fun _ _ => by omega, fun _ _ h => absurd c h⟩
      · rw [if_neg c]; exact ⟨by omega, fun _ => by omega, fun _ _ => by omega, fun _ _ _ => rfl⟩
/-- operators of one rank: at z.1, the reference in its middle -/
theorem lp_two {sg : Int32 → Bool} {lv y B kq k0 o : Nat} {rd : Nat → Nat → PX} {os0 : List Row} {ks0 : List Nat} (hlv : (lv = 3 ∧ y = 1) ∨ (lv = 2 ∧ y = 2)) (hsg : ∀ K, sg K = true → lvl K = lv ∧ lvO (nbr K 0) = lv) (hns : ∀ K, lvl K ≤ lv → ¬ sg K = true → lvl K ≤ 3 - y) (hkq : kq = 800 * b + ks0.length) (hW : W.length ≤ 60) (h0 : (mTT tx n N).1 = 0) (hs0 : ¬ sg 0 = true) (hf : ¬ f.1 = 3 ∨ lvO f.2.1 < lv) (hos : os0.length + W.length ≤ B + k0) (hks : 4 * ks0.length ≤ k0) (hB : B ≤ 1500) (hN : N ≤ 3000)
    (hlen : ∀ c kq z, rd c kq = .inr z → lnZ c 0 z) (hle : ∀ c kq z, c ≤ N → rd c kq = .inr z → z.1 ≤ N)
    (hr : ∀ (s1 : mjSt3) (c : Nat) (f1 : WF) (os1 : List Row) (ks1 : List Nat), ¬ f1.1 = 2 → lvO f1.2.1 = lv → MR tx n b s1 c o (W ++ [f] ++ [f1]) os1 ks1 → os1.length + (W.length + 1) ≤ B + c → c ≤ N → 4 * ks1.length ≤ c → match rd c (800 * b + ks1.length) with
      | .inl e => FZ (mTT tx n) b N (fun m => lE (D + 8) m 1 s1) s1 c e
      | .inr z => ∃ s' j q, (∀ m, lE (D + 8) (m + j) 1 s1 = m1Q (D + 8) m q (lvl (mTT tx n z.1).1) s') ∧ j + c ≤ z.1 + 1 ∧ mjN ≤ q + (y - 1) ∧ lvl (mTT tx n z.1).1 ≤ lv ∧ MR tx n b s' z.1 o (W ++ [f] ++ [f1]) (os1 ++ z.2.2.2.1) (ks1 ++ z.2.2.1) ∧ offE b s1 s' ∧ s'.1 97 77 = z.2.1) :
    ∀ (kf : Nat) (z : PZ) (s : mjSt3) (q : Nat), lnZ k0 0 z → z.1 ≤ N → N < z.1 + kf → MR tx n b s z.1 o (W ++ [f]) (os0 ++ z.2.2.2.1) (ks0 ++ z.2.2.1) → s.1 97 77 = z.2.1 → mjN ≤ q + y → lvl (mTT tx n z.1).1 ≤ lv → match pLoop (mTT tx n) sg rd kq kf z with
      | .inl e => FZ (mTT tx n) b N (fun m => m1Q (D + 8) m q (lvl (mTT tx n z.1).1) s) s (z.1 + 1) e
      | .inr w => ∃ s' j q', (∀ m, m1Q (D + 8) (m + j) q (lvl (mTT tx n z.1).1) s = m1Q (D + 8) m q' (lvl (mTT tx n w.1).1) s') ∧ j + z.1 ≤ w.1 ∧ mjN ≤ q' + y ∧ lvl (mTT tx n w.1).1 ≤ 3 - y ∧ MR tx n b s' w.1 o (W ++ [f]) (os0 ++ w.2.2.2.1) (ks0 ++ w.2.2.1) ∧ offE b s s' ∧ s'.1 97 77 = w.2.1 := by
  intro kf
  induction kf with
  | zero => intro z s q _ hz hN'; omega
  | succ kf ih =>
    intro z s q hln hz hN' h hsh hq hl0
    have hmj : mjN = 100000000 := rfl
    obtain ⟨q, rfl⟩ : ∃ x, q = x + 1 := ⟨q - 1, by omega⟩
    unfold pLoop
    by_cases g : sg (mTT tx n z.1).1 = true
    · have gl := hsg _ g
      rw [if_pos g]
      obtain ⟨ln1, ln2, ln3⟩ := hln
      have L1 : (os0 ++ z.2.2.2.1).length = os0.length + z.2.2.2.1.length := List.length_append
      have L2 : (ks0 ++ z.2.2.1).length = ks0.length + z.2.2.1.length := List.length_append
      obtain ⟨s1, x, e1, a1, r1, f1⟩ := m1Q_push (D := D + 4) h (by omega) gl.1 (by omega) hf
      have hz1 : z.1 < N := by
        have : ¬ z.1 = N := fun e => by
          rw [e, h0] at g
          exact hs0 g
        omega
      have C := hr s1 (z.1 + 1) (3, nbr (mTT tx n z.1).1 0, (mTT tx n z.1).2.1, 0, x) (os0 ++ z.2.2.2.1) (ks0 ++ z.2.2.1) (fun e => absurd (show (3 : Int32) = 2 from e) (by decide)) gl.2 a1 (by rw [L1]; omega) hz1 (by rw [L2]; omega)
      rw [L2, ← Nat.add_assoc, ← hkq] at C
      cases hd : rd (z.1 + 1) (kq + z.2.2.1.length) with
      | inl e =>
        rw [hd] at C
        exact FZ.via C (j := 0) (fun m => by rw [gl.1]; exact e1 m q) r1 (by omega) hz1
      | inr w =>
        rw [hd] at C
        obtain ⟨s2, j2, q2, c1, c2, c3, c4, c5, c6, c7⟩ := C
        obtain ⟨q2, rfl⟩ : ∃ x, q2 = x + 1 := ⟨q2 - 1, by omega⟩
        obtain ⟨b1, b2, b3⟩ := hlen _ _ _ hd
        have hw := hle _ _ _ hz1 hd
        have lw := lvl_le (mTT tx n w.1).1
        obtain ⟨s3, d1, d2, d3, d4⟩ := m1Q_two (D := D + 7) (l := lvl (mTT tx n w.1).1) c5 (by rw [List.length_append]; show W.length + 1 < 64; omega) (by rw [List.length_append, L1]; omega) lw.1 (by rw [gl.2]; omega) (by rw [gl.2]; omega)
        have L : lnZ k0 0 (w.1, 0, z.2.2.1 ++ w.2.2.1, z.2.2.2.1 ++ w.2.2.2.1 ++ [oTwo (mTT tx n) z.1], z.2.2.2.2 ++ w.2.2.2.2) := by
          refine ⟨?_, ?_, ?_⟩
          · show k0 < w.1; omega
          · simp only [List.length_append, List.length_singleton]; omega
          · simp only [List.length_append]; omega
        have e4 : os0 ++ z.2.2.2.1 ++ w.2.2.2.1 ++ [((9 : Int32), (mTT tx n z.1).2.1, nbr (mTT tx n z.1).1 0, (0 : Int32), (0 : Int64))] = os0 ++ (z.2.2.2.1 ++ w.2.2.2.1 ++ [oTwo (mTT tx n) z.1]) := by
          simp only [List.append_assoc]; rfl
        rw [e4, List.append_assoc ks0] at d2
        have I := ih (w.1, 0, z.2.2.1 ++ w.2.2.1, z.2.2.2.1 ++ w.2.2.2.1 ++ [oTwo (mTT tx n) z.1], z.2.2.2.2 ++ w.2.2.2.2) s3 q2 L hw (by show N < w.1 + kf; omega) d2 d4 (by omega) c4
        have run : ∀ m, m1Q (D + 8) (m + j2) (q + 1) (lvl (mTT tx n z.1).1) s = m1Q (D + 8) m q2 (lvl (mTT tx n w.1).1) s3 := by
          intro m
          rw [gl.1, e1, c1, d1]
        show match pLoop (mTT tx n) sg rd kq kf (w.1, 0, z.2.2.1 ++ w.2.2.1, z.2.2.2.1 ++ w.2.2.2.1 ++ [oTwo (mTT tx n) z.1], z.2.2.2.2 ++ w.2.2.2.2) with
          | .inl e => _
          | .inr w => _
        cases hp : pLoop (mTT tx n) sg rd kq kf (w.1, 0, z.2.2.1 ++ w.2.2.1, z.2.2.2.1 ++ w.2.2.2.1 ++ [oTwo (mTT tx n) z.1], z.2.2.2.2 ++ w.2.2.2.2) with
        | inl e =>
          rw [hp] at I
          exact FZ.via2 I run (r1.tr (c6.tr d3)) (by show j2 + (z.1 + 1) ≤ w.1 + 1; omega) (by show w.1 + 1 ≤ N + 5; omega)
        | inr v =>
          rw [hp] at I
          obtain ⟨s5, j5, q5, i1, i2, i3, i4, i5, i6, i7⟩ := I
          refine ⟨s5, j5 + j2, q5, fun m => ?_, ?_, i3, i4, i5, r1.tr (c6.tr (d3.tr i6)), i7⟩
          · rw [show m + (j5 + j2) = (m + j5) + j2 by omega, run]
            exact i1 m
          · have i2' : j5 + w.1 ≤ v.1 := i2
            omega
    · rw [if_neg g]
      exact ⟨s, 0, q + 1, fun m => rfl, by omega, hq, hns _ hl0 g, h, offG.rf, hsh⟩
end MJ79
