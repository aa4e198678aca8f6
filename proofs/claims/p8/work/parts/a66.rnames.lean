/-! ===== the reference's judge: NAMES ===== -/
def cR (b : Nat) (h : Option Nat) : Int32 := match h with
  | none => -1
  | some c => nI (16 * b + c)
/-- an OWNER as the reference has it -/
def oR (o : Nat) : Int32 := if o = 5 then -1 else if o = 6 then -2 else nI o
/-- NAMES are no marks of OWNERS -/
def NKp (T : TT) (N : Nat) : Prop := ∀ t, t ≤ N → (T t).1 = 3 → ¬ kyT T t = -1 ∧ ¬ kyT T t = -2
/-- what the reference's judge stands on: what was read -/
def RJ (T : TT) (N b : Nat) (ks : List Nat) (L : List CD) (s : mjSt3) : Prop := (b ≤ 1 ∧ s.1 97 63 = nI b) ∧ RCs T b s ks L ∧ (∀ (i t : Nat), ks[i]? = some t → Kd T s (800 * b + i) t) ∧ ks.length ≤ 750 ∧ (∀ (c : Nat) (E : CD), L[c]? = some E → E.2.length ≤ 24) ∧ HN T N L ∧ NKp T N
/-- a KIND's CLASS and OWNERS are found -/
def KRr (b : Nat) (s : mjSt3) (k n kk : Nat) : Prop := s.1 139 k = nI (16 * b + cK kk) ∧ ∀ i, i < n → s.1 142 (5 * k + i) = oR (oK kk i)
def oNm (k : Nat) : mjSt3 → mjSt3 → Prop := offG (fun h j => (h = 97 ∧ (j = 61 ∨ j = 62)) ∨ (h = 139 ∧ j = k) ∨ (h = 142 ∧ 5 * k ≤ j ∧ j < 5 * k + 5)) (fun _ _ => False)
section MJA66
variable {T : TT} {d N b k t c n : Nat} {ks : List Nat} {L : List CD} {s s' : mjSt3} {h : Option Nat} {beh : Bool}
theorem i16 (b c : Nat) : (16 : Int32) * nI b + nI c = nI (16 * b + c) := by rw [show (16 : Int32) = nI 16 from rfl, nI_mul, nI_ad]
theorem i5m (b c : Nat) : (5 : Int32) * nI b + nI c = nI (5 * b + c) := by rw [show (5 : Int32) = nI 5 from rfl, nI_mul, nI_ad]
theorem RJ.b1 (J : RJ T N b ks L s) : b ≤ 1 := J.1.1
theorem RJ.len (J : RJ T N b ks L s) : L.length ≤ 16 := J.2.2.2.2.2.1.1
/-- CLASS c's head -/
theorem RJ.hd (J : RJ T N b ks L s) (hc : c < L.length) : RH T b s ks (16 * b + c) (fmL L c) (hC L c) := by
  obtain ⟨E, hE⟩ : ∃ E, L[c]? = some E := ⟨_, List.getElem?_eq_getElem hc⟩
  have := (J.2.1.2.2 c E hE).1
  unfold hC
  rw [hE]
  exact this
theorem L303c_S (R : mjR) (n a : Nat) (e : Int64) (f : Int32) (hp : mjH) : L_303_2 R (n + 1) a e f hp = b_303_2 R (L_303_2 R n) a e f hp := rfl
theorem lq_303' (J : RJ T N b ks L s) (R : mjR) (key : Int64) : ∀ (r i m : Nat), i + r = L.length → r < m → (∀ j, j < i → ¬ kyT T (hC L j).1 = key) → L_303_2 R m 97 key (nI i) (mjW0 s) = some (some (.int (cR b (clsK T L key))), mjW0 s)
  | r, i, 0, e, hr, hj => by omega
  | 0, i, m + 1, e, hr, hj => by
    have h16 := J.len
    have hb := J.b1
    rw [L303c_S]
    unfold b_303_2
    rw [xg_97_11, xg_97_63, J.1.2, wa_100 (by omega), J.2.1.1, if_pos (nI_le (by omega) (by omega))]
    unfold clsK
    rw [fnd_none.mpr (fun j hx => decide_eq_false (hj j (by omega)))]
    rfl
  | r + 1, i, m + 1, e, hr, hj => by
    have h16 := J.len
    have hb := J.b1
    rw [L303c_S]
    unfold b_303_2
    rw [xg_97_11, xg_97_63, J.1.2, wa_100 (by omega), J.2.1.1, if_neg (nI_ge (by omega) (by omega)), xg_97_12, xg_97_63, J.1.2, i16, wa_101 (by omega), show s.2.1 101 (16 * b + i) = kyT T (hC L i).1 from (J.hd (c := i) (by omega)).1]
    by_cases g : kyT T (hC L i).1 = key
    · rw [if_pos ((lg_cmp_eq _ _).mpr g), xg_97_63, J.1.2, i16]
      unfold clsK
      rw [fnd_some.mpr ⟨show i < L.length by omega, decide_eq_true g, fun j hx => decide_eq_false (hj j hx)⟩]
      rfl
    · rw [if_neg (fun x => g ((lg_cmp_eq _ _).mp x)), nI_1]
      refine lq_303' J R key r (i + 1) m (by omega) (by omega) (fun j hx => ?_)
      by_cases e' : j = i
      · rw [e']; exact g
      · exact hj j (by omega)
theorem x_303 (J : RJ T N b ks L s) (key : Int64) : mjF (d + 1) 303 [.ref 97, .long key] (mjW0 s) = some (some (.int (cR b (clsK T L key))), mjW0 s) := by
  have := J.len
  rw [e_303]
  unfold f_303 b_303_0
  exact lq_303' J _ key L.length 0 mjN (by omega) (by have := mjN_v; omega) (fun j hj => absurd hj (by omega))
theorem L305_S (R : mjR) (n a : Nat) (b : Int32) (e : Int64) (f : Int32) (hp : mjH) : L_305_3 R (n + 1) a b e f hp = b_305_3 R (L_305_3 R n) a b e f hp := rfl
/-- nameOf's answer: STRANGE is -9 -/
def nR (o : Option Nat) : Int32 := match o with
  | none => -9
  | some i => nI i
theorem lq_305 (J : RJ T N b ks L s) (hc : c < L.length) (R : mjR) (key : Int64) : ∀ (r i m : Nat), i + r = (hC L c).2.1 → r < m → (∀ j, j < i → ¬ kyT T ((hC L c).1 + 2 + 2 * j) = key) → L_305_3 R m 97 (nI (16 * b + c)) key (nI i) (mjW0 s) = some (some (.int (nR (nmK T L c key))), mjW0 s)
  | r, i, 0, e, hr, hj => by omega
  | 0, i, m + 1, e, hr, hj => by
    have h16 := J.len
    have hb := J.b1
    have H := J.hd hc
    have h5 := H.2.2.2.2.2.2.2.1
    rw [L305_S]
    unfold b_305_3
    rw [xg_97_15, wa_104 (by omega), H.2.2.1.1, if_pos (nI_le (by omega) (by omega))]
    unfold nmK
    rw [fnd_none.mpr (fun j hx => decide_eq_false (hj j (by omega)))]
    rfl
  | r + 1, i, m + 1, e, hr, hj => by
    have h16 := J.len
    have hb := J.b1
    have H := J.hd hc
    have h5 := H.2.2.2.2.2.2.2.1
    rw [L305_S]
    unfold b_305_3
    rw [xg_97_15, wa_104 (by omega), H.2.2.1.1, if_neg (nI_ge (by omega) (by omega)), xg_97_22, i5m, wa_111 (by omega), show s.2.1 111 (5 * (16 * b + c) + i) = kyT T ((hC L c).1 + 2 + 2 * i) from (H.2.2.1.2 i (by omega)).1]
    by_cases g : kyT T ((hC L c).1 + 2 + 2 * i) = key
    · rw [if_pos ((lg_cmp_eq _ _).mpr g)]
      unfold nmK
      rw [fnd_some.mpr ⟨show i < (hC L c).2.1 by omega, decide_eq_true g, fun j hx => decide_eq_false (hj j hx)⟩]
      rfl
    · rw [if_neg (fun x => g ((lg_cmp_eq _ _).mp x)), nI_1]
      refine lq_305 J hc R key r (i + 1) m (by omega) (by omega) (fun j hx => ?_)
      by_cases e' : j = i
      · rw [e']; exact g
      · exact hj j (by omega)
theorem x_305 (J : RJ T N b ks L s) (hc : c < L.length) (key : Int64) : mjF (d + 1) 305 [.ref 97, .int (nI (16 * b + c)), .long key] (mjW0 s) = some (some (.int (nR (nmK T L c key))), mjW0 s) := by
  have h5 := (J.hd hc).2.2.2.2.2.2.2.1
  rw [e_305]
  unfold f_305 b_305_0
  exact lq_305 J hc _ key (hC L c).2.1 0 mjN (by omega) (by have := mjN_v; omega) (fun j hj => absurd hj (by omega))
/-- an OWNER's answer -/
def ownR (o : Option Nat) : Int32 := match o with
  | none => -9
  | some o => oR o
theorem nmK_lt (hn : HN T N L) (hc : c < L.length) {key : Int64} {i : Nat} (hi : nmK T L c key = some i) : i < 5 := by
  have a := fnd_lt hi
  have b := (hn.2 c hc).2.2.2.1
  omega
/-- ownerOf at an OWNER's token -/
theorem x_304 (J : RJ T N b ks L s) (hh : ∀ c, h = some c → c < L.length) (ht : t ≤ N) (ho : isOw (T t).1) : mjF (d + 2) 304 [.ref 97, .int (cR b h), .long (owR T t), .int (b2 beh)] (mjW0 s) = some (some (.int (ownR (owT T L h beh t))), mjW0 s) := by
  have hb := J.b1
  have h16 := J.len
  rw [e_304]
  unfold f_304 b_304_0 owT
  have k3 : (T t).1 = 3 → owR T t = kyT T t := fun e => if_pos e
  rcases ho with o | o | o
  · have e1 : owR T t = -2 := by unfold owR; rw [if_neg (by rw [o]; decide), if_pos o]
    rw [e1, if_neg (show ¬ lg_cmp (-2) (-1) = 0 from fun x => absurd ((lg_cmp_eq _ _).mp x) (by decide)), if_neg (show ¬ (T t).1 = 13 by rw [o]; decide)]
    cases h with
    | none =>
      rw [if_pos (show cR b none = -1 from rfl)]
      rfl
    | some c =>
      have := hh c rfl
      rw [if_neg (show ¬ cR b (some c) = -1 from nI_m1 (by omega)), if_pos ((lg_cmp_eq _ _).mpr rfl)]
      dsimp only
      rw [if_pos o]
      unfold b_304_31 b_304_28
      cases beh with
      | true => rw [if_neg (show ¬ b2 true = 0 by decide)]; rfl
      | false => rw [if_pos (show b2 false = 0 from rfl), if_pos ((lg_cmp_eq _ _).mpr rfl)]; rfl
  · have e1 : owR T t = -1 := by unfold owR; rw [if_neg (by rw [o]; decide), if_neg (by rw [o]; decide)]
    rw [e1, if_pos ((lg_cmp_eq _ _).mpr rfl), if_pos o]
    rfl
  · obtain ⟨n1, n2⟩ := J.2.2.2.2.2.2 t ht o
    rw [k3 o, if_neg (fun x => n1 ((lg_cmp_eq _ _).mp x)), if_neg (show ¬ (T t).1 = 13 by rw [o]; decide)]
    cases h with
    | none =>
      rw [if_pos (show cR b none = -1 from rfl)]
      rfl
    | some c =>
      have := hh c rfl
      rw [if_neg (show ¬ cR b (some c) = -1 from nI_m1 (by omega)), if_neg (fun x => n2 ((lg_cmp_eq _ _).mp x))]
      dsimp only
      unfold b_304_31
      rw [if_neg (fun x => n2 ((lg_cmp_eq _ _).mp x)), if_neg (show ¬ (T t).1 = 12 by rw [o]; decide), xV_97, show cR b (some c) = nI (16 * b + c) from rfl, x_305 J this, bI_s]
      cases hn : nmK T L c (kyT T t) with
      | none => rfl
      | some i =>
        have i5m' := nmK_lt J.2.2.2.2.2.1 this hn
        have e : oR i = nI i := by
          unfold oR
          rw [if_neg (by omega), if_neg (by omega)]
        show some (some (Value.int (nI i)), mjW0 s) = some (some (Value.int (oR i)), mjW0 s)
        rw [e]
theorem ownR_9 {o : Option Nat} (ho : ∀ x, o = some x → x ≤ 6) : ownR o = -9 ↔ o = none := by
  cases o with
  | none => exact ⟨fun _ => rfl, fun _ => rfl⟩
  | some x =>
    have := ho x rfl
    refine ⟨fun e => ?_, fun e => by cases e⟩
    have e' : oR x = -9 := e
    unfold oR at e'
    by_cases g5 : x = 5
    · rw [if_pos g5] at e'; exact absurd e' (by decide)
    · rw [if_neg g5] at e'
      by_cases g6 : x = 6
      · rw [if_pos g6] at e'; exact absurd e' (by decide)
      · rw [if_neg g6] at e'
        have : ¬ nI x < 0 := nI_pos (by omega)
        rw [e'] at this
        exact absurd (by decide) this
theorem owT_le (hn : HN T N L) (hh : ∀ c, h = some c → c < L.length) {x : Nat} (e : owT T L h beh t = some x) : x ≤ 6 := by
  unfold owT at e
  by_cases g : (T t).1 = 13
  · rw [if_pos g] at e; cases e; omega
  · rw [if_neg g] at e
    cases h with
    | none => cases e
    | some c =>
      dsimp only at e
      by_cases g2 : (T t).1 = 12
      · rw [if_pos g2] at e
        by_cases g3 : beh = true
        · rw [if_pos g3] at e; cases e
        · rw [if_neg g3] at e; cases e; omega
      · rw [if_neg g2] at e
        have := nmK_lt hn (hh c rfl) e
        omega
end MJA66
