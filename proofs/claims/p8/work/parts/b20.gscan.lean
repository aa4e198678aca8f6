/-! ===== the orders' brackets: what waits at each order ===== -/
/-- what waits: (0, 0, 0) a value, (1, 0, 0) a NAME left of =, (1, 1, 0) a FIELD left of =, (n + 2, i) a call: n values are asked for, i are there; its NAME -/
abbrev GS : Type := List (Nat × Nat × Int64)
def bmG : GS → GS
  | e :: l => (e.1, e.2.1 + 1, e.2.2) :: l
  | [] => []
def nxG (r : Row) (G : GS) : GS :=
  if r.1 = 3 ∨ r.1 = 4 ∨ r.1 = 5 ∨ r.1 = 6 ∨ r.1 = 7 then (0, 0, 0) :: G
  else if r.1 = 9 then G.tail
  else if r.1 = 11 then (nN r.2.2.2.1 + 2, 0, r.2.2.2.2) :: G.tail
  else if r.1 = 12 then bmG G.tail
  else if r.1 = 13 then (0, 0, 0) :: G.tail
  else if r.1 = 15 then (1, 0, 0) :: G
  else if r.1 = 16 then (1, 1, 0) :: G.tail
  else if r.1 = 17 ∨ r.1 = 18 then G.tail.tail
  else if r.1 = 20 ∨ r.1 = 21 ∨ r.1 = 24 ∨ r.1 = 25 ∨ r.1 = 28 then G.tail
  else G
/-- an order in its place -/
def okG (r : Row) (G : GS) : Prop := (r.1 = 3 ∨ r.1 = 4 ∨ r.1 = 5 ∨ r.1 = 6 ∨ r.1 = 7) ∨ (r.1 = 9 ∧ ∃ l, G = (0, 0, 0) :: (0, 0, 0) :: l) ∨ ((r.1 = 8 ∨ r.1 = 10 ∨ r.1 = 14 ∨ r.1 = 30) ∧ ∃ l, G = (0, 0, 0) :: l) ∨ (r.1 = 11 ∧ ∃ n l, n ≤ 6 ∧ r.2.2.2.1 = nI n ∧ G = (0, 0, 0) :: l) ∨ (r.1 = 12 ∧ ∃ n i w l, G = (0, 0, 0) :: (n + 2, i, w) :: l ∧ i < n ∧ n ≤ 6 ∧ r.2.2.1 = nI i) ∨ (r.1 = 13 ∧ ∃ n l, n ≤ 6 ∧ r.2.2.1 = nI n ∧ G = (n + 2, n, r.2.2.2.2) :: l) ∨ (r.1 = 15 ∧ G = []) ∨ (r.1 = 16 ∧ G = [(0, 0, 0)]) ∨ (r.1 = 17 ∧ G = [(0, 0, 0), (1, 0, 0)]) ∨ (r.1 = 18 ∧ G = [(0, 0, 0), (1, 1, 0)]) ∨ ((r.1 = 20 ∨ r.1 = 21 ∨ r.1 = 24 ∨ r.1 = 25 ∨ (r.1 = 28 ∧ r.2.2.1 = 1)) ∧ G = [(0, 0, 0)]) ∨ ((r.1 = 1 ∨ r.1 = 2 ∨ r.1 = 19 ∨ r.1 = 22 ∨ r.1 = 23 ∨ r.1 = 26 ∨ r.1 = 27) ∧ G = [])
def sdG : List Row → GS → Prop
  | [], _ => True
  | r :: l, G => okG r G ∧ sdG l (nxG r G)
def fdG : List Row → GS → GS
  | [], G => G
  | r :: l, G => fdG l (nxG r G)
def gdG (os : List Row) : Prop := ∀ G : GS, sdG os G ∧ fdG os G = (0, 0, 0) :: G
/-- a call's orders, behind its object; its values -/
def gdGC (os : List Row) : Prop := ∀ G : GS, sdG os ((0, 0, 0) :: G) ∧ fdG os ((0, 0, 0) :: G) = (0, 0, 0) :: G
def gdGA (k : Nat) (os : List Row) : Prop := ∀ (n : Nat) (w : Int64) (G : GS), k ≤ n → n ≤ 6 → sdG os ((n + 2, 0, w) :: G) ∧ fdG os ((n + 2, 0, w) :: G) = (n + 2, k, w) :: G
section MJB20
variable {T : TT} {M : Nat}
theorem okG.a {r : Row} {G : GS} (h : r.1 = 3 ∨ r.1 = 4 ∨ r.1 = 5 ∨ r.1 = 6 ∨ r.1 = 7) : okG r G := Or.inl h
theorem okG.two {r : Row} {G : GS} (h : r.1 = 9) : okG r ((0, 0, 0) :: (0, 0, 0) :: G) := Or.inr (Or.inl ⟨h, G, rfl⟩)
theorem okG.one {r : Row} {G : GS} (h : r.1 = 8 ∨ r.1 = 10 ∨ r.1 = 14 ∨ r.1 = 30) : okG r ((0, 0, 0) :: G) := Or.inr (Or.inr (Or.inl ⟨h, G, rfl⟩))
theorem okG.ask {r : Row} {G : GS} {n : Nat} (h : r.1 = 11) (hn : n ≤ 6) (e : r.2.2.2.1 = nI n) : okG r ((0, 0, 0) :: G) := Or.inr (Or.inr (Or.inr (Or.inl ⟨h, n, G, hn, e, rfl⟩)))
theorem okG.arg {r : Row} {G : GS} {n i : Nat} {w : Int64} (h : r.1 = 12) (hi : i < n) (hn : n ≤ 6) (e : r.2.2.1 = nI i) : okG r ((0, 0, 0) :: (n + 2, i, w) :: G) := Or.inr (Or.inr (Or.inr (Or.inr (Or.inl ⟨h, n, i, w, G, rfl, hi, hn, e⟩))))
theorem okG.call {r : Row} {G : GS} {n : Nat} (h : r.1 = 13) (hn : n ≤ 6) (e : r.2.2.1 = nI n) : okG r ((n + 2, n, r.2.2.2.2) :: G) := Or.inr (Or.inr (Or.inr (Or.inr (Or.inr (Or.inl ⟨h, n, G, hn, e, rfl⟩)))))
theorem okG.l {r : Row} (h : r.1 = 15) : okG r [] := Or.inr (Or.inr (Or.inr (Or.inr (Or.inr (Or.inr (Or.inl ⟨h, rfl⟩))))))
theorem okG.f {r : Row} (h : r.1 = 16) : okG r [(0, 0, 0)] := Or.inr (Or.inr (Or.inr (Or.inr (Or.inr (Or.inr (Or.inr (Or.inl ⟨h, rfl⟩)))))))
theorem okG.p {r : Row} (h : r.1 = 17) : okG r [(0, 0, 0), (1, 0, 0)] := Or.inr (Or.inr (Or.inr (Or.inr (Or.inr (Or.inr (Or.inr (Or.inr (Or.inl ⟨h, rfl⟩))))))))
theorem okG.q {r : Row} (h : r.1 = 18) : okG r [(0, 0, 0), (1, 1, 0)] := Or.inr (Or.inr (Or.inr (Or.inr (Or.inr (Or.inr (Or.inr (Or.inr (Or.inr (Or.inl ⟨h, rfl⟩)))))))))
theorem okG.o {r : Row} (h : r.1 = 20 ∨ r.1 = 21 ∨ r.1 = 24 ∨ r.1 = 25 ∨ (r.1 = 28 ∧ r.2.2.1 = 1)) : okG r [(0, 0, 0)] := Or.inr (Or.inr (Or.inr (Or.inr (Or.inr (Or.inr (Or.inr (Or.inr (Or.inr (Or.inr (Or.inl ⟨h, rfl⟩))))))))))
theorem okG.n {r : Row} (h : r.1 = 1 ∨ r.1 = 2 ∨ r.1 = 19 ∨ r.1 = 22 ∨ r.1 = 23 ∨ r.1 = 26 ∨ r.1 = 27) : okG r [] := Or.inr (Or.inr (Or.inr (Or.inr (Or.inr (Or.inr (Or.inr (Or.inr (Or.inr (Or.inr (Or.inr ⟨h, rfl⟩))))))))))
theorem nxG_a {r : Row} (h : r.1 = 3 ∨ r.1 = 4 ∨ r.1 = 5 ∨ r.1 = 6 ∨ r.1 = 7) (G : GS) : nxG r G = (0, 0, 0) :: G := if_pos h
theorem nxG_9 {r : Row} (h : r.1 = 9) (G : GS) : nxG r G = G.tail := by unfold nxG; rw [h, if_neg (by decide), if_pos rfl]
theorem nxG_11 {r : Row} (h : r.1 = 11) (G : GS) : nxG r G = (nN r.2.2.2.1 + 2, 0, r.2.2.2.2) :: G.tail := by unfold nxG; rw [h, if_neg (by decide), if_neg (by decide), if_pos rfl]
theorem nxG_12 {r : Row} (h : r.1 = 12) (G : GS) : nxG r G = bmG G.tail := by unfold nxG; rw [h, if_neg (by decide), if_neg (by decide), if_neg (by decide), if_pos rfl]
theorem nxG_13 {r : Row} (h : r.1 = 13) (G : GS) : nxG r G = (0, 0, 0) :: G.tail := by unfold nxG; rw [h, if_neg (by decide), if_neg (by decide), if_neg (by decide), if_neg (by decide), if_pos rfl]
theorem nxG_15 {r : Row} (h : r.1 = 15) (G : GS) : nxG r G = (1, 0, 0) :: G := by unfold nxG; rw [h, if_neg (by decide), if_neg (by decide), if_neg (by decide), if_neg (by decide), if_neg (by decide), if_pos rfl]
theorem nxG_16 {r : Row} (h : r.1 = 16) (G : GS) : nxG r G = (1, 1, 0) :: G.tail := by unfold nxG; rw [h, if_neg (by decide), if_neg (by decide), if_neg (by decide), if_neg (by decide), if_neg (by decide), if_neg (by decide), if_pos rfl]
theorem nxG_17 {r : Row} (h : r.1 = 17 ∨ r.1 = 18) (G : GS) : nxG r G = G.tail.tail := by unfold nxG; rcases h with h | h <;> rw [h, if_neg (by decide), if_neg (by decide), if_neg (by decide), if_neg (by decide), if_neg (by decide), if_neg (by decide), if_neg (by decide), if_pos (by decide)]
theorem nxG_o {r : Row} (h : r.1 = 20 ∨ r.1 = 21 ∨ r.1 = 24 ∨ r.1 = 25 ∨ r.1 = 28) (G : GS) : nxG r G = G.tail := by unfold nxG; rcases h with h | h | h | h | h <;> rw [h, if_neg (by decide), if_neg (by decide), if_neg (by decide), if_neg (by decide), if_neg (by decide), if_neg (by decide), if_neg (by decide), if_neg (by decide), if_pos (by decide)]
theorem nxG_n {r : Row} (h : r.1 = 8 ∨ r.1 = 10 ∨ r.1 = 14 ∨ r.1 = 30 ∨ r.1 = 1 ∨ r.1 = 2 ∨ r.1 = 19 ∨ r.1 = 22 ∨ r.1 = 23 ∨ r.1 = 26 ∨ r.1 = 27) (G : GS) : nxG r G = G := by unfold nxG; rcases h with h | h | h | h | h | h | h | h | h | h | h <;> rw [h, if_neg (by decide), if_neg (by decide), if_neg (by decide), if_neg (by decide), if_neg (by decide), if_neg (by decide), if_neg (by decide), if_neg (by decide), if_neg (by decide)]
theorem sdG_app : ∀ (a b : List Row) (G : GS), sdG (a ++ b) G ↔ sdG a G ∧ sdG b (fdG a G)
  | [], b, G => ⟨fun h => ⟨trivial, h⟩, fun h => h.2⟩
  | r :: a, b, G => by
    show okG r G ∧ sdG (a ++ b) (nxG r G) ↔ (okG r G ∧ sdG a (nxG r G)) ∧ sdG b (fdG a (nxG r G))
    rw [sdG_app a b, and_assoc]
theorem fdG_app : ∀ (a b : List Row) (G : GS), fdG (a ++ b) G = fdG b (fdG a G)
  | [], _, _ => rfl
  | r :: a, b, G => fdG_app a b (nxG r G)
theorem gdG.two {a b : List Row} {r : Row} (ha : gdG a) (hb : gdG b) (hr : r.1 = 9) : gdG (a ++ b ++ [r]) := by
  intro G
  obtain ⟨a1, a2⟩ := ha G
  obtain ⟨b1, b2⟩ := hb ((0, 0, 0) :: G)
  have f : fdG (a ++ b) G = (0, 0, 0) :: (0, 0, 0) :: G := by rw [fdG_app, a2, b2]
  rw [sdG_app, sdG_app, fdG_app (a ++ b), f, a2]
  exact ⟨⟨⟨a1, b1⟩, okG.two hr, trivial⟩, nxG_9 hr _⟩
theorem gdG.row {a : List Row} {r : Row} (ha : gdG a) (hr : r.1 = 8 ∨ r.1 = 10 ∨ r.1 = 14 ∨ r.1 = 30) : gdG (a ++ [r]) := by
  intro G
  obtain ⟨a1, a2⟩ := ha G
  rw [sdG_app, fdG_app, a2]
  exact ⟨⟨a1, okG.one hr, trivial⟩, nxG_n (by rcases hr with h | h | h | h <;> rw [h] <;> decide) _⟩
theorem gdG.call {a b : List Row} (ha : gdG a) (hb : gdGC b) : gdG (a ++ b) := by
  intro G
  obtain ⟨a1, a2⟩ := ha G
  obtain ⟨b1, b2⟩ := hb G
  rw [sdG_app, fdG_app, a2]
  exact ⟨⟨a1, b1⟩, b2⟩
theorem gdG.atom {r : Row} (hr : r.1 = 3 ∨ r.1 = 4 ∨ r.1 = 5 ∨ r.1 = 6 ∨ r.1 = 7) : gdG [r] := fun G => ⟨⟨okG.a hr, trivial⟩, nxG_a hr G⟩
theorem gdGA.arg {k : Nat} {a b : List Row} {r : Row} (ha : gdGA k a) (hb : gdG b) (hr : r.1 = 12) (hk : r.2.2.1 = nI k) : gdGA (k + 1) (a ++ b ++ [r]) := by
  intro n w G h1 h2
  obtain ⟨a1, a2⟩ := ha n w G (by omega) h2
  obtain ⟨b1, b2⟩ := hb ((n + 2, k, w) :: G)
  have f : fdG (a ++ b) ((n + 2, 0, w) :: G) = (0, 0, 0) :: (n + 2, k, w) :: G := by rw [fdG_app, a2, b2]
  rw [sdG_app, sdG_app, fdG_app (a ++ b), f, a2]
  exact ⟨⟨⟨a1, b1⟩, okG.arg hr (by omega) h2 hk, trivial⟩, nxG_12 hr _⟩
theorem gdGC.mk {n : Nat} {os : List Row} {ra rc : Row} (hz : gdGA n os) (hra : ra.1 = 11) (hrb : ra.2.2.2.1 = nI n) (hrc : rc.1 = 13) (hn : rc.2.2.1 = nI n) (h6 : n ≤ 6) (hw : ra.2.2.2.2 = rc.2.2.2.2) : gdGC (ra :: (os ++ [rc])) := by
  intro G
  obtain ⟨a1, a2⟩ := hz n rc.2.2.2.2 G (Nat.le_refl _) h6
  have n1 : nxG ra ((0, 0, 0) :: G) = (n + 2, 0, rc.2.2.2.2) :: G := by rw [nxG_11 hra, hrb, nN_nI (by omega), hw]; rfl
  refine ⟨⟨okG.ask hra h6 hrb, ?_⟩, ?_⟩
  · rw [n1, sdG_app, a2]
    exact ⟨a1, okG.call hrc h6 hn, trivial⟩
  · show fdG (os ++ [rc]) (nxG ra ((0, 0, 0) :: G)) = _
    rw [n1, fdG_app, a2]
    exact nxG_13 hrc _
theorem pLoop_gg {sg : Int32 → Bool} {rd : Nat → Nat → PX} {kq : Nat} (hr : ∀ c kq y, rd c kq = .inr y → gdG y.2.2.2.1) : ∀ (k : Nat) (z y : PZ), gdG z.2.2.2.1 → pLoop T sg rd kq k z = .inr y → gdG y.2.2.2.1
  | 0, z, y, hz, h => by cases h; exact hz
  | k + 1, z, y, hz, h => by
    unfold pLoop at h
    by_cases q : sg (T z.1).1 = true
    · rw [if_pos q] at h
      cases hd : rd (z.1 + 1) (kq + z.2.2.1.length) with
      | inl e => rw [hd] at h; cases h
      | inr w =>
        rw [hd] at h
        exact pLoop_gg hr k _ y (gdG.two hz (hr _ _ _ hd) rfl) h
    · rw [if_neg q] at h
      cases h
      exact hz
theorem pPost_gg {ra : Nat → Nat → PX} {kq : Nat} (hr : ∀ c kq y, ra c kq = .inr y → gdGC y.2.2.2.1) : ∀ (k : Nat) (z y : PZ), gdG z.2.2.2.1 → pPost T ra kq k z = .inr y → gdG y.2.2.2.1
  | 0, z, y, hz, h => by cases h; exact hz
  | k + 1, z, y, hz, h => by
    unfold pPost at h
    by_cases q : (T z.1).1 = 20
    · rw [if_pos q] at h
      cases hd : pKind T (z.1 + 1) with
      | inl e => rw [hd] at h; cases h
      | inr c' =>
        rw [hd] at h
        exact pPost_gg hr k _ y (gdG.row hz (Or.inr (Or.inr (Or.inl rfl)))) h
    · rw [if_neg q] at h
      by_cases g2 : (T z.1).1 = 46
      · rw [if_pos g2] at h
        by_cases g3 : (T (z.1 + 1)).1 = 3
        · rw [if_pos g3] at h
          by_cases g4 : (T (z.1 + 2)).1 = 40
          · rw [if_pos g4] at h
            cases hd : ra (z.1 + 2) (kq + z.2.2.1.length) with
            | inl e => rw [hd] at h; cases h
            | inr w =>
              rw [hd] at h
              exact pPost_gg hr k _ y (gdG.call hz (hr _ _ _ hd)) h
          · rw [if_neg g4] at h
            exact pPost_gg hr k _ y (gdG.row hz (Or.inr (Or.inl rfl))) h
        · rw [if_neg g3] at h; cases h
      · rw [if_neg g2] at h
        cases h
        exact hz
theorem pArgs_gg {rv : Nat → Nat → PX} {kq : Nat} (hr : ∀ c kq y, rv c kq = .inr y → gdG y.2.2.2.1) : ∀ (n k : Nat) (z : PZ) (y : Nat × PZ), k ≤ 6 → gdGA k z.2.2.2.1 → pArgs T rv kq n k z = .inr y → y.1 ≤ 6 ∧ gdGA y.1 y.2.2.2.2.1
  | 0, k, z, y, hk, hz, h => by cases h
  | n + 1, k, z, y, hk, hz, h => by
    unfold pArgs at h
    by_cases q : k = 6
    · rw [if_pos q] at h; cases h
    · rw [if_neg q] at h
      cases hd : rv z.1 (kq + z.2.2.1.length) with
      | inl e => rw [hd] at h; cases h
      | inr w =>
        rw [hd] at h
        have w2 := hr _ _ _ hd
        by_cases g2 : (T w.1).1 = 44
        · simp only [if_pos g2] at h
          exact pArgs_gg hr n (k + 1) _ y (by omega) (gdGA.arg hz w2 rfl rfl) h
        · simp only [if_neg g2] at h
          by_cases g3 : (T w.1).1 = 41
          · simp only [if_pos g3] at h
            cases h
            exact ⟨by show k + 1 ≤ 6; omega, gdGA.arg hz w2 rfl rfl⟩
          · simp only [if_neg g3] at h; cases h
theorem prE_gg : ∀ (f tag o c kq : Nat) (y : PZ), prE T M f tag o c kq = .inr y → (tag ≤ 5 → gdG y.2.2.2.1) ∧ (tag = 6 → gdGC y.2.2.2.1) := by
  intro f
  induction f with
  | zero => intro tag o c kq y h; cases h
  | succ f ih =>
    intro tag o c kq y h
    refine ⟨fun ht => ?_, fun ht => ?_⟩
    · match tag, ht with
      | 0, _ =>
        rw [prE_0] at h
        cases hd : prE T M f 1 o c kq with
        | inl e => rw [hd] at h; cases h
        | inr z =>
          rw [hd] at h
          have hz := (ih 1 o c kq z hd).1 (by omega)
          by_cases g : isCmp (T z.1).1 = true
          · simp only [if_pos g] at h
            cases hd2 : prE T M f 1 o (z.1 + 1) (kq + z.2.2.1.length) with
            | inl e => rw [hd2] at h; cases h
            | inr w =>
              rw [hd2] at h
              have hw := (ih 1 o _ _ w hd2).1 (by omega)
              cases h
              exact gdG.two hz hw rfl
          · simp only [if_neg g] at h
            cases h
            exact hz
      | 1, _ =>
        rw [prE_1] at h
        cases hd : prE T M f 2 o c kq with
        | inl e => rw [hd] at h; cases h
        | inr z =>
          rw [hd] at h
          exact pLoop_gg (fun c kq y hy => (ih 2 o c kq y hy).1 (by omega)) M z y ((ih 2 o c kq z hd).1 (by omega)) h
      | 2, _ =>
        rw [prE_2] at h
        cases hd : prE T M f 3 o c kq with
        | inl e => rw [hd] at h; cases h
        | inr z =>
          rw [hd] at h
          exact pLoop_gg (fun c kq y hy => (ih 3 o c kq y hy).1 (by omega)) M z y ((ih 3 o c kq z hd).1 (by omega)) h
      | 3, _ =>
        rw [prE_3] at h
        by_cases g : (T c).1 = 45
        · rw [if_pos g] at h
          by_cases g2 : o = 12
          · rw [if_pos g2] at h; cases h
          · rw [if_neg g2] at h
            cases hd : prE T M f 3 (o + 1) (c + 1) kq with
            | inl e => rw [hd] at h; cases h
            | inr z =>
              rw [hd] at h
              have hz := (ih 3 (o + 1) (c + 1) kq z hd).1 (by omega)
              cases h
              exact gdG.row hz (Or.inl rfl)
        · rw [if_neg g] at h
          exact (ih 4 o c kq y h).1 (by omega)
      | 4, _ =>
        rw [prE_4] at h
        cases hd : prE T M f 5 o c kq with
        | inl e => rw [hd] at h; cases h
        | inr z =>
          rw [hd] at h
          exact pPost_gg (fun c kq y hy => (ih 6 o c kq y hy).2 rfl) M z y ((ih 5 o c kq z hd).1 (by omega)) h
      | 5, _ =>
        rw [prE_5] at h
        unfold pAtom at h
        by_cases k3 : (T c).1 = 3
        · rw [if_pos k3] at h; cases h; exact gdG.atom (Or.inr (Or.inr (Or.inr (Or.inl rfl))))
        rw [if_neg k3] at h
        by_cases k4 : (T c).1 = 4
        · rw [if_pos k4] at h; cases h; exact gdG.atom (Or.inl rfl)
        rw [if_neg k4] at h
        by_cases k11 : (T c).1 = 11
        · rw [if_pos k11] at h; cases h; exact gdG.atom (Or.inr (Or.inl rfl))
        rw [if_neg k11] at h
        by_cases k12 : (T c).1 = 12
        · rw [if_pos k12] at h; cases h; exact gdG.atom (Or.inr (Or.inr (Or.inl rfl)))
        rw [if_neg k12] at h
        by_cases k14 : (T c).1 = 14
        · rw [if_pos k14] at h
          cases hd : pKind T (c + 1) with
          | inl e => rw [hd] at h; cases h
          | inr c' =>
            rw [hd] at h
            cases h
            exact gdG.atom (Or.inr (Or.inr (Or.inr (Or.inr rfl))))
        rw [if_neg k14] at h
        by_cases k40 : (T c).1 = 40
        · rw [if_pos k40] at h
          by_cases g2 : o = 12
          · rw [if_pos g2] at h; cases h
          · rw [if_neg g2] at h
            cases hd : prE T M f 0 (o + 1) (c + 1) kq with
            | inl e => rw [hd] at h; cases h
            | inr z =>
              rw [hd] at h
              have hz := (ih 0 (o + 1) (c + 1) kq z hd).1 (by omega)
              by_cases g3 : (T z.1).1 = 41
              · simp only [if_pos g3] at h
                cases h
                exact gdG.row hz (Or.inr (Or.inr (Or.inr rfl)))
              · simp only [if_neg g3] at h; cases h
        · rw [if_neg k40] at h; cases h
    · subst ht
      rw [prE_6] at h
      unfold pCall at h
      by_cases g2 : o = 12
      · rw [if_pos g2] at h; cases h
      · rw [if_neg g2] at h
        by_cases g3 : (T (c + 1)).1 = 41
        · rw [if_pos g3] at h
          cases h
          exact gdGC.mk (n := 0) (os := []) (fun n w G _ _ => ⟨trivial, rfl⟩) rfl rfl rfl rfl (by omega) rfl
        · rw [if_neg g3] at h
          cases hd : pArgs T (prE T M f 0 (o + 1)) kq 7 0 (c + 1, 0, [], [], []) with
          | inl e => rw [hd] at h; cases h
          | inr w =>
            rw [hd] at h
            have ha := pArgs_gg (T := T) (kq := kq) (fun c kq y hy => (ih 0 (o + 1) c kq y hy).1 (by omega)) 7 0 (c + 1, 0, [], [], []) w (by omega) (fun n w G _ _ => ⟨trivial, rfl⟩) hd
            cases h
            exact gdGC.mk ha.2 rfl rfl rfl rfl ha.1 rfl
theorem prV_gg {o c kq : Nat} {y : PZ} (h : prV T M o c kq = .inr y) : gdG y.2.2.2.1 := (prE_gg 100 0 o c kq y h).1 (by omega)
end MJB20
