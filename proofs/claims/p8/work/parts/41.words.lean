/-! ===== the words; one token, in the middle between class and reference ===== -/
/-- the sixteen words, the last letter first -/
def wdL : List (List Int32) := [[115, 115, 97, 108, 99], [115, 105], [101, 114, 101, 104, 119], [110, 105], [110, 105, 97, 109], [116, 110, 105], [108, 108, 117, 110], [115, 105, 104, 116], [100, 108, 114, 111, 119], [119, 101, 110], [102, 105], [101, 115, 108, 101], [101, 108, 105, 104, 119], [110, 114, 117, 116, 101, 114], [121, 97, 115], [115, 97]]
theorem wd_ok : wdL.all (fun l => l.all (fun b => decide (¬ b < -128 ∧ b ≤ 127) && (isLb b || isDb b)) && decide (l.length ≤ 10)) = true := by decide +kernel
theorem wd_ne : (List.range 16).all (fun i => (List.range 16).all (fun j => decide (i = j) || decide (¬ wdL.getD i [] = wdL.getD j []))) = true := by decide +kernel
theorem wd_w {i : Nat} (hi : i < 16) : (∀ b ∈ wdL.getD i [], isW b) ∧ (wdL.getD i []).length ≤ 10 := by
  have hm : wdL.getD i [] ∈ wdL := by
    have hl : i < wdL.length := hi
    rw [List.getD_eq_getElem?_getD, List.getElem?_eq_getElem hl]
    exact List.getElem_mem hl
  have h := List.all_eq_true.mp wd_ok _ hm
  simp only [Bool.and_eq_true, decide_eq_true_eq, List.all_eq_true, Bool.or_eq_true] at h
  exact ⟨fun b hb => ⟨(h.1 b hb).1, (h.1 b hb).2⟩, h.2⟩
theorem wd_in {i j : Nat} (hi : i < 16) (hj : j < 16) (e : wdL.getD i [] = wdL.getD j []) : i = j := by
  have h := List.all_eq_true.mp (List.all_eq_true.mp wd_ne i (List.mem_range.mpr hi)) j (List.mem_range.mpr hj)
  simp only [Bool.or_eq_true, decide_eq_true_eq] at h
  exact h.elim id (fun g => absurd e g)
/-- the rows of words on both sides -/
def I_words (s : mjSt3) : Prop := ∀ i, i < 16 → s.2.1 59 i = lN (rN gC (wdL.getD i [])) ∧ s.2.1 99 (i + 1) = lN (rN gM (wdL.getD i []))
theorem rN_big {g : Int32 → Nat} (hg : ∀ b, isW b → 1 ≤ g b ∧ g b < 64) {x : List Int32} (hx : ∀ b ∈ x, isW b) (hl : x.length ≤ 10) : rN g x < 2 ^ 63 := by
  have a := rN_lt (P := isW) hg x hx
  have b : 64 ^ x.length ≤ 64 ^ 10 := Nat.pow_le_pow_right (by decide) hl
  have c : (64 : Nat) ^ 10 < 2 ^ 63 := by decide
  omega
theorem lN_inj {a b : Nat} (ha : a < 2 ^ 63) (hb : b < 2 ^ 63) (e : lN a = lN b) : a = b := by
  have k : (lN a).toInt = (lN b).toInt := by rw [e]
  rw [pk_lT ha, pk_lT hb] at k
  omega
theorem key_C {l m : List Int32} (hl : ∀ b ∈ l, isW b) (hm : ∀ b ∈ m, isW b) (l1 : l.length ≤ 10) (l2 : m.length ≤ 10) : lN (rN gC l) = lN (rN gC m) ↔ l = m := by
  refine ⟨fun e => ?_, fun e => by rw [e]⟩
  have e1 := lN_inj (rN_big (fun b hb => (cd_of hb).1) hl l1) (rN_big (fun b hb => (cd_of hb).1) hm l2) e
  exact rN_inj (fun b hb => (cd_of hb).1) gC_inj l m hl hm e1
theorem key_M {l m : List Int32} (hl : ∀ b ∈ l, isW b) (hm : ∀ b ∈ m, isW b) (l1 : l.length ≤ 10) (l2 : m.length ≤ 10) : lN (rN gM l) = lN (rN gM m) ↔ l = m :=
  (same_key hl hm l1 l2).symm.trans (key_C hl hm l1 l2)
/-- the kind of these letters: a word's number, or 3 -/
def wdX (l : List Int32) : Nat → Nat → Int32
  | 0, _ => 3
  | k + 1, i => if wdL.getD i [] = l then 5 + nI i else wdX l k (i + 1)
theorem wdX_none (l : List Int32) : ∀ (k i : Nat), (∀ j, i ≤ j → j < i + k → ¬ wdL.getD j [] = l) → wdX l k i = 3
  | 0, _, _ => rfl
  | k + 1, i, h => by
    unfold wdX
    rw [if_neg (h i (Nat.le_refl i) (by omega))]
    exact wdX_none l k (i + 1) (fun j h1 h2 => h j (by omega) (by omega))
theorem wdF_X {w : Nat → Int64} {l : List Int32} (hw : ∀ i, i < 16 → w i = lN (rN gC (wdL.getD i []))) (hl : ∀ b ∈ l, isW b) (h10 : l.length ≤ 10) : ∀ (k i : Nat), i + k ≤ 16 → wdF w (lN (rN gC l)) k i = wdX l k i
  | 0, _, _ => rfl
  | k + 1, i, h => by
    unfold wdF wdX
    have e := key_C (wd_w (i := i) (by omega)).1 hl (wd_w (i := i) (by omega)).2 h10
    rw [hw i (by omega), wdF_X hw hl h10 k (i + 1) (by omega)]
    simp only [e]
theorem i5 (i : Nat) : (5 : Int32) + nI i = nI (5 + i) := nI_add 5 i
theorem wdX_3 (l : List Int32) : ∀ (k i : Nat), i + k ≤ 16 → wdX l k i = 3 ∨ ∃ j, i ≤ j ∧ j < i + k ∧ wdX l k i = nI (5 + j)
  | 0, _, _ => Or.inl rfl
  | k + 1, i, h => by
    unfold wdX
    by_cases g : wdL.getD i [] = l
    · rw [if_pos g, i5]
      exact Or.inr ⟨i, Nat.le_refl i, by omega, rfl⟩
    · rw [if_neg g]
      rcases wdX_3 l k (i + 1) (by omega) with e | ⟨j, a, b, e⟩
      · exact Or.inl e
      · exact Or.inr ⟨j, by omega, by omega, e⟩
theorem nI_n3 {j : Nat} (h : j < 16) : ¬ nI (5 + j) = 3 := by
  intro e
  have k := (nI_eq (a := 5 + j) (b := 3) (by omega) (by omega)).mp e
  omega
theorem kwF_X {kp : Nat → Int64} {l : List Int32} (hw : ∀ i, i < 16 → kp (i + 1) = lN (rN gM (wdL.getD i []))) (hl : ∀ b ∈ l, isW b) (h10 : l.length ≤ 10) : ∀ (k i : Nat) (z : Int32 × Int32), i + k ≤ 16 → kwF kp (lN (rN gM l)) k (i + 1) z = if wdX l k i = 3 then z else (5, wdX l k i - 4)
  | 0, _, _, _ => rfl
  | k + 1, i, z, h => by
    unfold kwF
    rw [kwF_X hw hl h10 k (i + 1) _ (by omega)]
    have e := key_M (wd_w (i := i) (by omega)).1 hl (wd_w (i := i) (by omega)).2 h10
    rw [hw i (by omega)]
    have ex : wdX l (k + 1) i = if wdL.getD i [] = l then 5 + nI i else wdX l k (i + 1) := rfl
    rw [ex]
    by_cases g : wdL.getD i [] = l
    · have n : wdX l k (i + 1) = 3 := wdX_none l k (i + 1) (fun j h1 h2 q => by
        have := wd_in (i := i) (j := j) (by omega) (by omega) (g.trans q.symm)
        omega)
      rw [if_pos n, if_pos (e.mpr g), if_pos g, i5, if_neg (nI_n3 (by omega))]
      have q : nI (5 + i) - (4 : Int32) = nI (i + 1) := by
        have := pk_sub (a := 5 + i) (b := 4) (by omega)
        rw [show (4 : Int32) = Int32.ofNat 4 from rfl]
        rw [show 5 + i - 4 = i + 1 by omega] at this
        exact this
      rw [q]
    · rw [if_neg (fun q => g (e.mp q)), if_neg g]
/-- sort and number of a kind -/
def srt (k : Int32) : Int32 := if k = 0 then 0 else if k = 1 then 6 else if k = 2 then 1 else if k = 3 then 2 else if k = 4 then 3 else if k ≤ 20 then 5 else 4
def nbr (k v : Int32) : Int32 := if k = 4 then v else if k ≤ 20 then k - 4 else if k = 200 then 257 else if k = 201 then 258 else k
/-- one token: kind, letters, value, end -/
def t1 (tx : Nat → Int32) (n fr : Nat) : Int32 × List Int32 × Int32 × Nat :=
  if isLb (tx fr) = true then (if (scL tx (n - fr) [] fr).2 - fr ≤ 10 then (if 90 < tx fr then wdX (scL tx (n - fr) [] fr).1 16 0 else 2, (scL tx (n - fr) [] fr).1, 0, (scL tx (n - fr) [] fr).2) else (1, [], 0, n))
  else if isDb (tx fr) = true then (if (scD tx (n - fr) 0 fr).2 - fr ≤ 9 then (4, [], (scD tx (n - fr) 0 fr).1.toInt32, (scD tx (n - fr) 0 fr).2) else (1, [], 0, n))
  else if (sgT tx n fr).1 = 0 then (1, [], 0, n) else ((sgT tx n fr).1, [], 0, (sgT tx n fr).2)
theorem scL_10 {tx : Nat → Int32} {n fr : Nat} (h : (scL tx (n - fr) [] fr).2 - fr ≤ 10) : (scL tx (n - fr) [] fr).1.length ≤ 10 := by
  have a := scL_len (tx := tx) (n - fr) [] fr
  simp only [List.length_nil] at a
  omega
theorem scN_0 {tx : Nat → Int32} {n fr : Nat} (hf : fr ≤ n) (hb : ∀ i, i < n → byR (tx i)) : scN tx (n - fr) 0 fr = (lN (rN gC (scL tx (n - fr) [] fr).1), (scL tx (n - fr) [] fr).2) :=
  scN_L (n - fr) [] fr (fun q hq => hb q (by omega))
theorem scW_0 {tx : Nat → Int32} {n fr : Nat} (hf : fr ≤ n) (hb : ∀ i, i < n → byR (tx i)) (h : (scL tx (n - fr) [] fr).2 - fr ≤ 10) : scW tx fr (n - fr) 0 fr = (lN (rN gM (scL tx (n - fr) [] fr).1), (scL tx (n - fr) [] fr).2) :=
  scW_L (n - fr) [] fr (fun q hq => hb q (by omega)) (Nat.le_refl fr) h
/-- the class cuts t1 -/
theorem c1_t1 {tx : Nat → Int32} {w : Nat → Int64} {n fr : Nat} (hw : ∀ i, i < 16 → w i = lN (rN gC (wdL.getD i []))) (hf : fr < n) (hb : ∀ i, i < n → byR (tx i)) :
    (c1 tx w n fr).1 = (t1 tx n fr).1 ∧ (c1 tx w n fr).2.2 = (t1 tx n fr).2.2.2 ∧ (isLb (tx fr) = true → ¬ (t1 tx n fr).1 = 1 → (c1 tx w n fr).2.1 = lN (rN gC (t1 tx n fr).2.1)) ∧ ((t1 tx n fr).1 = 4 → (c1 tx w n fr).2.1.toInt32 = (t1 tx n fr).2.2.1) := by
  unfold c1 t1
  by_cases h1 : isLb (tx fr) = true
  · rw [if_pos h1, if_pos h1, scN_0 (by omega) hb]
    by_cases g : (scL tx (n - fr) [] fr).2 - fr ≤ 10
    · rw [if_pos g, if_pos g]
      have hl := scL_w (tx := tx) (n - fr) [] fr (fun q hq => hb q (by omega)) (fun b hb => nomatch hb)
      have e := wdF_X hw hl (scL_10 g) 16 0 (by omega)
      refine ⟨?_, rfl, fun _ _ => rfl, ?_⟩
      · show (if 90 < tx fr then wdF w (lN (rN gC (scL tx (n - fr) [] fr).1)) 16 0 else 2) = _
        rw [e]
      · intro q
        exfalso
        by_cases u : 90 < tx fr
        · rw [if_pos u] at q
          rcases wdX_3 (scL tx (n - fr) [] fr).1 16 0 (by omega) with x | ⟨j, _, b, x⟩
          · rw [x] at q; exact absurd (show (3 : Int32) = 4 from q) (by decide)
          · rw [x] at q
            have := (nI_eq (a := 5 + j) (b := 4) (by omega) (by omega)).mp q
            omega
        · rw [if_neg u] at q; exact absurd (show (2 : Int32) = 4 from q) (by decide)
    · rw [if_neg g, if_neg g]
      exact ⟨rfl, rfl, fun _ q => absurd rfl q, fun q => absurd (show (1 : Int32) = 4 from q) (by decide)⟩
  · rw [if_neg h1, if_neg h1]
    by_cases h2 : isDb (tx fr) = true
    · rw [if_pos h2, if_pos h2]
      by_cases g : (scD tx (n - fr) 0 fr).2 - fr ≤ 9
      · rw [if_pos g, if_pos g]
        exact ⟨rfl, rfl, fun q => absurd q h1, fun _ => rfl⟩
      · rw [if_neg g, if_neg g]
        exact ⟨rfl, rfl, fun q => absurd q h1, fun q => absurd (show (1 : Int32) = 4 from q) (by decide)⟩
    · rw [if_neg h2, if_neg h2]
      by_cases g : (sgT tx n fr).1 = 0
      · rw [if_pos g, if_pos g]
        exact ⟨rfl, rfl, fun q => absurd q h1, fun q => absurd (show (1 : Int32) = 4 from q) (by decide)⟩
      · rw [if_neg g, if_neg g]
        refine ⟨rfl, rfl, fun q => absurd q h1, fun q => ?_⟩
        exfalso
        rcases same_sign hb hf with ⟨_, _, e⟩ | ⟨_, ⟨m, e⟩ | ⟨_, e⟩⟩
        · have q' : (sgT tx n fr).1 = 4 := q
          rw [e] at q'
          by_cases u : (tx fr &&& 255) = 61
          · simp only [if_pos u] at q'; exact absurd q' (by decide)
          · simp only [if_neg u] at q'; exact absurd q' (by decide)
        · have q' : (sgT tx n fr).1 = 4 := q
          rw [e] at q'
          have q2 : (tx fr &&& 255) = 4 := q'
          rw [q2] at m
          exact absurd m (by decide)
        · exact g (by rw [e])
