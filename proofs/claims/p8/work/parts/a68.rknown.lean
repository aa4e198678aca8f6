/-! ===== the reference's judge: what is known of OWNERS ===== -/
theorem clo_t {w : Nat → Nat → Bool} : ∀ (m k a b : Nat), k < m → clo w m a k = true → clo w m k b = true → clo w m a b = true
  | 0, k, a, b, hk, _, _ => by omega
  | m + 1, k, a, b, hk, h1, h2 => by
    have ih := clo_t (w := w) m
    have h1' : (clo w m a k || (clo w m a m && clo w m m k)) = true := h1
    have h2' : (clo w m k b || (clo w m k m && clo w m m b)) = true := h2
    show (clo w m a b || (clo w m a m && clo w m m b)) = true
    rw [Bool.or_eq_true, Bool.and_eq_true] at h1' h2' ⊢
    by_cases e : k = m
    · subst e
      have a1 : clo w k a k = true := h1'.elim id (fun x => x.1)
      have a2 : clo w k k b = true := h2'.elim id (fun x => x.2)
      exact Or.inr ⟨a1, a2⟩
    · have hk' : k < m := by omega
      rcases h1' with x | ⟨x1, x2⟩ <;> rcases h2' with y | ⟨y1, y2⟩
      · exact Or.inl (ih k a b hk' x y)
      · exact Or.inr ⟨ih k a m hk' x y1, y2⟩
      · exact Or.inr ⟨x1, ih k m b hk' x2 y⟩
      · exact Or.inr ⟨x1, y2⟩
theorem clo_up {w : Nat → Nat → Bool} (a b : Nat) : ∀ m, w a b = true → clo w m a b = true
  | 0, h => h
  | m + 1, h => by
    show (clo w m a b || (clo w m a m && clo w m m b)) = true
    rw [clo_up a b m h]
    rfl
/-- closing does not ask for the order -/
theorem clo_pm {w w' : Nat → Nat → Bool} {p : Nat → Nat} (hp : ∀ x, x < 7 → p x < 7) (h : ∀ x y, x < 7 → y < 7 → w' x y = true → w (p x) (p y) = true) : ∀ (m x y : Nat), m ≤ 7 → x < 7 → y < 7 → clo w' m x y = true → clo w 7 (p x) (p y) = true
  | 0, x, y, _, hx, hy, e => clo_up _ _ 7 (h x y hx hy e)
  | m + 1, x, y, hm, hx, hy, e => by
    have e' : (clo w' m x y || (clo w' m x m && clo w' m m y)) = true := e
    rw [Bool.or_eq_true, Bool.and_eq_true] at e'
    rcases e' with e' | ⟨e1, e2⟩
    · exact clo_pm hp h m x y (by omega) hx hy e'
    · exact clo_t 7 (p m) _ _ (hp m (by omega)) (clo_pm hp h m x m (by omega) hx (by omega) e1) (clo_pm hp h m m y (by omega) (by omega) hy e2)
/-- an OWNER's row in the reference's table -/
def rwR (o : Nat) : Nat := if o = 6 then 5 else if o = 5 then 6 else o
theorem rwR_lt {x : Nat} (h : x < 7) : rwR x < 7 := by
  unfold rwR
  by_cases a : x = 6
  · rw [if_pos a]; omega
  · rw [if_neg a]
    by_cases b : x = 5
    · rw [if_pos b]; omega
    · rw [if_neg b]; exact h
theorem rwR_2 {x : Nat} (h : x < 7) : rwR (rwR x) = x := by
  unfold rwR
  by_cases a : x = 6
  · rw [if_pos a]; simp; omega
  · rw [if_neg a]
    by_cases b : x = 5
    · rw [if_pos b]; simp; omega
    · rw [if_neg b, if_neg a, if_neg b]
theorem clo_rw {w w' : Nat → Nat → Bool} (h : ∀ x y, x < 7 → y < 7 → w' (rwR x) (rwR y) = w x y) {x y : Nat} (hx : x < 7) (hy : y < 7) : clo w' 7 (rwR x) (rwR y) = clo w 7 x y := by
  rw [Bool.eq_iff_iff]
  constructor
  · intro e
    have := clo_pm (w := w) (w' := w') (p := rwR) (fun x hx => rwR_lt hx) (fun a b ha hb e => by
      have := h (rwR a) (rwR b) (rwR_lt ha) (rwR_lt hb)
      rw [rwR_2 ha, rwR_2 hb] at this
      rw [← this]; exact e) 7 (rwR x) (rwR y) (Nat.le_refl _) (rwR_lt hx) (rwR_lt hy) e
    rw [rwR_2 hx, rwR_2 hy] at this
    exact this
  · intro e
    exact clo_pm (w := w') (w' := w) (p := rwR) (fun x hx => rwR_lt hx) (fun a b ha hb e => by rw [h a b ha hb]; exact e) 7 x y (Nat.le_refl _) hx hy e
/-- the reference's rows of what is known -/
def WIT (b : Nat) (s : mjSt3) (n : Nat) (kn : Nat → Nat → Nat → Bool) : Prop := ∀ c, c < n → ∀ a, a < 7 → ∀ e, e < 7 → s.1 119 (49 * (16 * b + c) + 7 * rwR a + rwR e) = b2 (kn c a e)
/-- what the reference asks for two OWNERS -/
def kbG (kn : Nat → Nat → Nat → Bool) (h : Option Nat) (a e : Nat) : Bool := match h with
  | none => decide (a = e)
  | some c => kn c a e
section MJA68
variable {T : TT} {d N b k t c n : Nat} {ks : List Nat} {L : List CD} {s s' : mjSt3} {h : Option Nat} {hp : mjH}
theorem x_312 {o : Nat} (ho : o ≤ 6) : mjF (d + 1) 312 [.int (oR o)] hp = some (some (.int (nI (rwR o))), hp) := by
  rw [e_312]
  unfold f_312 b_312_0 oR rwR
  by_cases a : o = 6
  · subst a; rfl
  · by_cases e : o = 5
    · subst e; rfl
    · rw [if_neg e, if_neg a, if_neg a, if_neg e, if_neg (show ¬ nI o = -2 from fun x => nI_pos (show o < 2 ^ 31 by omega) (by rw [x]; decide)), if_neg (show ¬ nI o = -1 from nI_m1 (by omega))]
theorem oR_inj {a e : Nat} (ha : a ≤ 6) (he : e ≤ 6) : oR a = oR e ↔ a = e := by
  refine ⟨fun x => ?_, fun x => by rw [x]⟩
  have key : ∀ a, a < 7 → ∀ e, e < 7 → oR a = oR e → a = e := by decide
  exact key a (by omega) e (by omega) x
theorem x_311 {kn : Nat → Nat → Nat → Bool} (hb : b ≤ 1) (W : WIT b s n kn) (h16 : n ≤ 16) (hh : ∀ c, h = some c → c < n) {a e : Nat} (ha : a ≤ 6) (he : e ≤ 6) : mjF (d + 2) 311 [.ref 97, .int (cR b h), .int (oR a), .int (oR e)] (mjW0 s) = some (some (.int (b2 (kbG kn h a e))), mjW0 s) := by
  rw [e_311]
  unfold f_311 b_311_0 kbG
  cases h with
  | none =>
    rw [if_pos (show cR b none = -1 from rfl)]
    by_cases g : a = e
    · rw [if_pos ((oR_inj ha he).mpr g)]
      dsimp only
      rw [decide_eq_true g]
      rfl
    · rw [if_neg (fun x => g ((oR_inj ha he).mp x))]
      dsimp only
      rw [decide_eq_false g]
      rfl
  | some c =>
    have hc := hh c rfl
    have ra := rwR_lt (show a < 7 by omega)
    have re := rwR_lt (show e < 7 by omega)
    rw [if_neg (show ¬ cR b (some c) = -1 from nI_m1 (by omega)), xg_97_30, x_312 ha, bI_s, x_312 he, bI_s, show cR b (some c) = nI (16 * b + c) from rfl, show (49 : Int32) = nI 49 from rfl, show (7 : Int32) = nI 7 from rfl, nI_mul, nI_mul, nI_ad, nI_ad, wa_119 (by omega), W c hc a (by omega) e (by omega), if_pos (b2_nar _)]
end MJA68
