/-! ===== names as numbers to the base 64, one-to-one ===== -/
def rN (g : Int32 → Nat) : List Int32 → Nat
  | [] => 0
  | b :: l => rN g l * 64 + g b
theorem rN_inj {g : Int32 → Nat} {P : Int32 → Prop} (h1 : ∀ b, P b → 1 ≤ g b ∧ g b < 64) (h2 : ∀ a b, P a → P b → g a = g b → a = b) : ∀ (l m : List Int32), (∀ b ∈ l, P b) → (∀ b ∈ m, P b) → rN g l = rN g m → l = m
  | [], [], _, _, _ => rfl
  | [], b :: m, _, hm, e => by
    have k := h1 b (hm b List.mem_cons_self)
    simp only [rN] at e
    omega
  | a :: l, [], hl, _, e => by
    have k := h1 a (hl a List.mem_cons_self)
    simp only [rN] at e
    omega
  | a :: l, b :: m, hl, hm, e => by
    have ka := h1 a (hl a List.mem_cons_self)
    have kb := h1 b (hm b List.mem_cons_self)
    simp only [rN] at e
    have e1 : g a = g b := by omega
    have e2 : rN g l = rN g m := by omega
    rw [h2 a b (hl a List.mem_cons_self) (hm b List.mem_cons_self) e1, rN_inj h1 h2 l m (fun b hb => hl b (List.mem_cons_of_mem _ hb)) (fun b hb => hm b (List.mem_cons_of_mem _ hb)) e2]
theorem rN_lt {g : Int32 → Nat} {P : Int32 → Prop} (h1 : ∀ b, P b → 1 ≤ g b ∧ g b < 64) : ∀ l : List Int32, (∀ b ∈ l, P b) → rN g l < 64 ^ l.length
  | [], _ => by simp [rN]
  | b :: l, hl => by
    have k := h1 b (hl b List.mem_cons_self)
    have r := rN_lt h1 l (fun b hb => hl b (List.mem_cons_of_mem _ hb))
    simp only [rN, List.length_cons, Nat.pow_succ]
    omega
def isW (b : Int32) : Prop := byR b ∧ (isLb b = true ∨ isDb b = true)
def gC (b : Int32) : Nat := (cdC b).toNatClampNeg
def gM (b : Int32) : Nat := (cdM (b &&& 255)).toNatClampNeg
theorem cd_tab : (List.range 256).all (fun j => !(isLb (Int32.ofInt ((j : Int) - 128)) || isDb (Int32.ofInt ((j : Int) - 128))) || (decide (1 ≤ gC (Int32.ofInt ((j : Int) - 128))) && decide (gC (Int32.ofInt ((j : Int) - 128)) < 64) && decide (1 ≤ gM (Int32.ofInt ((j : Int) - 128))) && decide (gM (Int32.ofInt ((j : Int) - 128)) < 64) && decide (cdC (Int32.ofInt ((j : Int) - 128)) = nI (gC (Int32.ofInt ((j : Int) - 128)))) && decide (cdM (Int32.ofInt ((j : Int) - 128) &&& 255) = nI (gM (Int32.ofInt ((j : Int) - 128)))) && decide (Int32.ofInt ((j : Int) - 128) = (if gC (Int32.ofInt ((j : Int) - 128)) < 11 then nI (gC (Int32.ofInt ((j : Int) - 128)) + 47) else if gC (Int32.ofInt ((j : Int) - 128)) < 37 then nI (gC (Int32.ofInt ((j : Int) - 128)) + 54) else nI (gC (Int32.ofInt ((j : Int) - 128)) + 60))) && decide (Int32.ofInt ((j : Int) - 128) = (if gM (Int32.ofInt ((j : Int) - 128)) < 27 then nI (gM (Int32.ofInt ((j : Int) - 128)) + 96) else if gM (Int32.ofInt ((j : Int) - 128)) < 53 then nI (gM (Int32.ofInt ((j : Int) - 128)) + 38) else nI (gM (Int32.ofInt ((j : Int) - 128)) - 5))))) = true := by decide +kernel
theorem cd_of {b : Int32} (h : isW b) : (1 ≤ gC b ∧ gC b < 64) ∧ (1 ≤ gM b ∧ gM b < 64) ∧ cdC b = nI (gC b) ∧ cdM (b &&& 255) = nI (gM b) ∧ b = (if gC b < 11 then nI (gC b + 47) else if gC b < 37 then nI (gC b + 54) else nI (gC b + 60)) ∧ b = (if gM b < 27 then nI (gM b + 96) else if gM b < 53 then nI (gM b + 38) else nI (gM b - 5)) := by
  obtain ⟨h1, h2⟩ := h
  obtain ⟨j, hj, rfl⟩ := by_of h1
  have k := List.all_eq_true.mp cd_tab j (List.mem_range.mpr hj)
  have h3 : (isLb (Int32.ofInt ((j : Int) - 128)) || isDb (Int32.ofInt ((j : Int) - 128))) = true := by simpa using h2
  rw [h3] at k
  simp only [Bool.not_true, Bool.false_or, Bool.and_eq_true, decide_eq_true_eq] at k
  obtain ⟨⟨⟨⟨⟨⟨⟨a, b⟩, c⟩, d⟩, e⟩, f⟩, g⟩, h⟩ := k
  exact ⟨⟨a, b⟩, ⟨c, d⟩, e, f, g, h⟩
theorem gC_inj (a b : Int32) (ha : isW a) (hb : isW b) (e : gC a = gC b) : a = b := by
  rw [(cd_of ha).2.2.2.2.1, (cd_of hb).2.2.2.2.1, e]
theorem gM_inj (a b : Int32) (ha : isW a) (hb : isW b) (e : gM a = gM b) : a = b := by
  rw [(cd_of ha).2.2.2.2.2, (cd_of hb).2.2.2.2.2, e]
/-- two spellings are the same for the class just where they are so for the reference -/
theorem same_name {l m : List Int32} (hl : ∀ b ∈ l, isW b) (hm : ∀ b ∈ m, isW b) : rN gC l = rN gC m ↔ rN gM l = rN gM m := by
  constructor
  · intro e
    rw [rN_inj (P := isW) (fun b hb => (cd_of hb).1) gC_inj l m hl hm e]
  · intro e
    rw [rN_inj (P := isW) (fun b hb => (cd_of hb).2.1) gM_inj l m hl hm e]
