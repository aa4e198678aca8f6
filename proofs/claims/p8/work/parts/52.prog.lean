/-! ===== the two programs: lemmas for both at once ===== -/
def isP (q : Nat) : Prop := q = 2 ∨ q = 30
theorem yV {q : Nat} (hq : isP q) {s : mjSt3} {u : mjU} : rV (mjW0 s) q 7 u = u := by
  rcases hq with h | h <;> subst h
  · exact xV_2
  · exact xV_30
theorem yg_0 {q : Nat} (hq : isP q) {s : mjSt3} {k : Int32 → mjU} : gI (mjW0 s) q 7 0 k = k (s.1 q 0) := by
  rcases hq with h | h <;> subst h
  · exact xg_2_0
  · exact xg_30_0
theorem yp_0 {q : Nat} (hq : isP q) {s : mjSt3} {v : Int32} {k : mjH → mjU} : pI (mjW0 s) q 7 0 v k = k (mjW0 (uI s q (upd (s.1 q) 0 v))) := by
  rcases hq with h | h <;> subst h
  · exact xp_2_0
  · exact xp_30_0
theorem yg_1 {q : Nat} (hq : isP q) {s : mjSt3} {k : Nat → mjU} : gR (mjW0 s) q 7 1 k = k (q + 1) := by
  rcases hq with h | h <;> subst h
  · exact xg_2_1
  · exact xg_30_1
theorem yg_2 {q : Nat} (hq : isP q) {s : mjSt3} {k : Nat → mjU} : gR (mjW0 s) q 7 2 k = k (q + 2) := by
  rcases hq with h | h <;> subst h
  · exact xg_2_2
  · exact xg_30_2
theorem yg_3 {q : Nat} (hq : isP q) {s : mjSt3} {k : Nat → mjU} : gR (mjW0 s) q 7 3 k = k (q + 3) := by
  rcases hq with h | h <;> subst h
  · exact xg_2_3
  · exact xg_30_3
theorem yg_4 {q : Nat} (hq : isP q) {s : mjSt3} {k : Nat → mjU} : gR (mjW0 s) q 7 4 k = k (q + 4) := by
  rcases hq with h | h <;> subst h
  · exact xg_2_4
  · exact xg_30_4
theorem yg_5 {q : Nat} (hq : isP q) {s : mjSt3} {k : Nat → mjU} : gR (mjW0 s) q 7 5 k = k (q + 5) := by
  rcases hq with h | h <;> subst h
  · exact xg_2_5
  · exact xg_30_5
theorem yg_6 {q : Nat} (hq : isP q) {s : mjSt3} {k : Nat → mjU} : gR (mjW0 s) q 7 6 k = k (q + 6) := by
  rcases hq with h | h <;> subst h
  · exact xg_2_6
  · exact xg_30_6
theorem yg_7 {q : Nat} (hq : isP q) {s : mjSt3} {k : Nat → mjU} : gR (mjW0 s) q 7 7 k = k (q + 7) := by
  rcases hq with h | h <;> subst h
  · exact xg_2_7
  · exact xg_30_7
theorem yg_8 {q : Nat} (hq : isP q) {s : mjSt3} {k : Nat → mjU} : gR (mjW0 s) q 7 8 k = k (q + 8) := by
  rcases hq with h | h <;> subst h
  · exact xg_2_8
  · exact xg_30_8
theorem yg_9 {q : Nat} (hq : isP q) {s : mjSt3} {k : Nat → mjU} : gR (mjW0 s) q 7 9 k = k (q + 9) := by
  rcases hq with h | h <;> subst h
  · exact xg_2_9
  · exact xg_30_9
theorem yg_10 {q : Nat} (hq : isP q) {s : mjSt3} {k : Nat → mjU} : gR (mjW0 s) q 7 10 k = k (q + 10) := by
  rcases hq with h | h <;> subst h
  · exact xg_2_10
  · exact xg_30_10
theorem yg_11 {q : Nat} (hq : isP q) {s : mjSt3} {k : Nat → mjU} : gR (mjW0 s) q 7 11 k = k (q + 11) := by
  rcases hq with h | h <;> subst h
  · exact xg_2_11
  · exact xg_30_11
theorem yg_12 {q : Nat} (hq : isP q) {s : mjSt3} {k : Nat → mjU} : gR (mjW0 s) q 7 12 k = k (q + 12) := by
  rcases hq with h | h <;> subst h
  · exact xg_2_12
  · exact xg_30_12
theorem yg_13 {q : Nat} (hq : isP q) {s : mjSt3} {k : Nat → mjU} : gR (mjW0 s) q 7 13 k = k (q + 13) := by
  rcases hq with h | h <;> subst h
  · exact xg_2_13
  · exact xg_30_13
theorem yg_14 {q : Nat} (hq : isP q) {s : mjSt3} {k : Nat → mjU} : gR (mjW0 s) q 7 14 k = k (q + 14) := by
  rcases hq with h | h <;> subst h
  · exact xg_2_14
  · exact xg_30_14
theorem yg_15 {q : Nat} (hq : isP q) {s : mjSt3} {k : Nat → mjU} : gR (mjW0 s) q 7 15 k = k (q + 24) := by
  rcases hq with h | h <;> subst h
  · exact xg_2_15
  · exact xg_30_15
theorem ymV {q : Nat} (hq : isP q) {s : mjSt3} {u : mjU} : rV (mjW0 s) (q + 14) 6 u = u := by
  rcases hq with h | h <;> subst h
  · exact xV_16
  · exact xV_44
theorem ymg_0 {q : Nat} (hq : isP q) {s : mjSt3} {k : Int32 → mjU} : gI (mjW0 s) (q + 14) 6 0 k = k (s.1 (q + 14) 0) := by
  rcases hq with h | h <;> subst h
  · exact xg_16_0
  · exact xg_44_0
theorem ymp_0 {q : Nat} (hq : isP q) {s : mjSt3} {v : Int32} {k : mjH → mjU} : pI (mjW0 s) (q + 14) 6 0 v k = k (mjW0 (uI s (q + 14) (upd (s.1 (q + 14)) 0 v))) := by
  rcases hq with h | h <;> subst h
  · exact xp_16_0
  · exact xp_44_0
theorem ymg_1 {q : Nat} (hq : isP q) {s : mjSt3} {k : Nat → mjU} : gR (mjW0 s) (q + 14) 6 1 k = k (q + 15) := by
  rcases hq with h | h <;> subst h
  · exact xg_16_1
  · exact xg_44_1
theorem ymg_2 {q : Nat} (hq : isP q) {s : mjSt3} {k : Nat → mjU} : gR (mjW0 s) (q + 14) 6 2 k = k (q + 16) := by
  rcases hq with h | h <;> subst h
  · exact xg_16_2
  · exact xg_44_2
theorem ymg_3 {q : Nat} (hq : isP q) {s : mjSt3} {k : Nat → mjU} : gR (mjW0 s) (q + 14) 6 3 k = k (q + 17) := by
  rcases hq with h | h <;> subst h
  · exact xg_16_3
  · exact xg_44_3
theorem ymg_4 {q : Nat} (hq : isP q) {s : mjSt3} {k : Nat → mjU} : gR (mjW0 s) (q + 14) 6 4 k = k (q + 18) := by
  rcases hq with h | h <;> subst h
  · exact xg_16_4
  · exact xg_44_4
theorem ymg_5 {q : Nat} (hq : isP q) {s : mjSt3} {k : Nat → mjU} : gR (mjW0 s) (q + 14) 6 5 k = k (q + 19) := by
  rcases hq with h | h <;> subst h
  · exact xg_16_5
  · exact xg_44_5
theorem ymg_6 {q : Nat} (hq : isP q) {s : mjSt3} {k : Nat → mjU} : gR (mjW0 s) (q + 14) 6 6 k = k (q + 20) := by
  rcases hq with h | h <;> subst h
  · exact xg_16_6
  · exact xg_44_6
theorem ymg_7 {q : Nat} (hq : isP q) {s : mjSt3} {k : Nat → mjU} : gR (mjW0 s) (q + 14) 6 7 k = k (q + 21) := by
  rcases hq with h | h <;> subst h
  · exact xg_16_7
  · exact xg_44_7
theorem ymg_8 {q : Nat} (hq : isP q) {s : mjSt3} {k : Nat → mjU} : gR (mjW0 s) (q + 14) 6 8 k = k (q + 22) := by
  rcases hq with h | h <;> subst h
  · exact xg_16_8
  · exact xg_44_8
theorem ymg_9 {q : Nat} (hq : isP q) {s : mjSt3} {k : Nat → mjU} : gR (mjW0 s) (q + 14) 6 9 k = k (q + 23) := by
  rcases hq with h | h <;> subst h
  · exact xg_16_9
  · exact xg_44_9
theorem ycV {q : Nat} (hq : isP q) {s : mjSt3} {u : mjU} : rV (mjW0 s) (q + 24) 0 u = u := by
  rcases hq with h | h <;> subst h
  · exact xV_26
  · exact xV_54
theorem ycg_0 {q : Nat} (hq : isP q) {s : mjSt3} {k : Nat → mjU} : gR (mjW0 s) (q + 24) 0 0 k = k (q + 25) := by
  rcases hq with h | h <;> subst h
  · exact xg_26_0
  · exact xg_54_0
theorem ycg_1 {q : Nat} (hq : isP q) {s : mjSt3} {k : Nat → mjU} : gR (mjW0 s) (q + 24) 0 1 k = k (q + 26) := by
  rcases hq with h | h <;> subst h
  · exact xg_26_1
  · exact xg_54_1
theorem ycg_2 {q : Nat} (hq : isP q) {s : mjSt3} {k : Nat → mjU} : gR (mjW0 s) (q + 24) 0 2 k = k (q + 27) := by
  rcases hq with h | h <;> subst h
  · exact xg_26_2
  · exact xg_54_2
theorem ycg_3 {q : Nat} (hq : isP q) {s : mjSt3} {k : Int32 → mjU} : gI (mjW0 s) (q + 24) 0 3 k = k (s.1 (q + 24) 3) := by
  rcases hq with h | h <;> subst h
  · exact xg_26_3
  · exact xg_54_3
theorem ycp_3 {q : Nat} (hq : isP q) {s : mjSt3} {v : Int32} {k : mjH → mjU} : pI (mjW0 s) (q + 24) 0 3 v k = k (mjW0 (uI s (q + 24) (upd (s.1 (q + 24)) 3 v))) := by
  rcases hq with h | h <;> subst h
  · exact xp_26_3
  · exact xp_54_3
theorem ya_1 {q : Nat} (hq : isP q) {s : mjSt3} {i : Int32} {k : Int32 → mjU} : aI (mjW0 s) (q + 1) i k = if mj_in i 16 = true then k (s.1 (q + 1) i.toNatClampNeg) else none := by
  rcases hq with h | h <;> subst h
  · exact xa_3
  · exact xa_31
theorem ys_1 {q : Nat} (hq : isP q) {s : mjSt3} {i x : Int32} {k : mjH → mjU} : sI (mjW0 s) (q + 1) i x k = if mj_in i 16 = true then k (mjW0 (uI s (q + 1) (upd (s.1 (q + 1)) i.toNatClampNeg x))) else none := by
  rcases hq with h | h <;> subst h
  · exact xs_3
  · exact xs_31
theorem yN_1 {q : Nat} (hq : isP q) {s : mjSt3} {k : Int32 → mjU} : aN (mjW0 s) (q + 1) k = k (Int32.ofNat 16) := by
  rcases hq with h | h <;> subst h
  · exact xN_3
  · exact xN_31
theorem ya_2 {q : Nat} (hq : isP q) {s : mjSt3} {i : Int32} {k : Int32 → mjU} : aI (mjW0 s) (q + 2) i k = if mj_in i 16 = true then k (s.1 (q + 2) i.toNatClampNeg) else none := by
  rcases hq with h | h <;> subst h
  · exact xa_4
  · exact xa_32
theorem ys_2 {q : Nat} (hq : isP q) {s : mjSt3} {i x : Int32} {k : mjH → mjU} : sI (mjW0 s) (q + 2) i x k = if mj_in i 16 = true then k (mjW0 (uI s (q + 2) (upd (s.1 (q + 2)) i.toNatClampNeg x))) else none := by
  rcases hq with h | h <;> subst h
  · exact xs_4
  · exact xs_32
theorem yN_2 {q : Nat} (hq : isP q) {s : mjSt3} {k : Int32 → mjU} : aN (mjW0 s) (q + 2) k = k (Int32.ofNat 16) := by
  rcases hq with h | h <;> subst h
  · exact xN_4
  · exact xN_32
theorem ya_3 {q : Nat} (hq : isP q) {s : mjSt3} {i : Int32} {k : Int32 → mjU} : aI (mjW0 s) (q + 3) i k = if mj_in i 16 = true then k (s.1 (q + 3) i.toNatClampNeg) else none := by
  rcases hq with h | h <;> subst h
  · exact xa_5
  · exact xa_33
theorem ys_3 {q : Nat} (hq : isP q) {s : mjSt3} {i x : Int32} {k : mjH → mjU} : sI (mjW0 s) (q + 3) i x k = if mj_in i 16 = true then k (mjW0 (uI s (q + 3) (upd (s.1 (q + 3)) i.toNatClampNeg x))) else none := by
  rcases hq with h | h <;> subst h
  · exact xs_5
  · exact xs_33
theorem yN_3 {q : Nat} (hq : isP q) {s : mjSt3} {k : Int32 → mjU} : aN (mjW0 s) (q + 3) k = k (Int32.ofNat 16) := by
  rcases hq with h | h <;> subst h
  · exact xN_5
  · exact xN_33
theorem ya_4 {q : Nat} (hq : isP q) {s : mjSt3} {i : Int32} {k : Int32 → mjU} : aI (mjW0 s) (q + 4) i k = if mj_in i 128 = true then k (s.1 (q + 4) i.toNatClampNeg) else none := by
  rcases hq with h | h <;> subst h
  · exact xa_6
  · exact xa_34
theorem ys_4 {q : Nat} (hq : isP q) {s : mjSt3} {i x : Int32} {k : mjH → mjU} : sI (mjW0 s) (q + 4) i x k = if mj_in i 128 = true then k (mjW0 (uI s (q + 4) (upd (s.1 (q + 4)) i.toNatClampNeg x))) else none := by
  rcases hq with h | h <;> subst h
  · exact xs_6
  · exact xs_34
theorem yN_4 {q : Nat} (hq : isP q) {s : mjSt3} {k : Int32 → mjU} : aN (mjW0 s) (q + 4) k = k (Int32.ofNat 128) := by
  rcases hq with h | h <;> subst h
  · exact xN_6
  · exact xN_34
theorem ya_5 {q : Nat} (hq : isP q) {s : mjSt3} {i : Int32} {k : Int32 → mjU} : aI (mjW0 s) (q + 5) i k = if mj_in i 16 = true then k (s.1 (q + 5) i.toNatClampNeg) else none := by
  rcases hq with h | h <;> subst h
  · exact xa_7
  · exact xa_35
theorem ys_5 {q : Nat} (hq : isP q) {s : mjSt3} {i x : Int32} {k : mjH → mjU} : sI (mjW0 s) (q + 5) i x k = if mj_in i 16 = true then k (mjW0 (uI s (q + 5) (upd (s.1 (q + 5)) i.toNatClampNeg x))) else none := by
  rcases hq with h | h <;> subst h
  · exact xs_7
  · exact xs_35
theorem yN_5 {q : Nat} (hq : isP q) {s : mjSt3} {k : Int32 → mjU} : aN (mjW0 s) (q + 5) k = k (Int32.ofNat 16) := by
  rcases hq with h | h <;> subst h
  · exact xN_7
  · exact xN_35
theorem ya_6 {q : Nat} (hq : isP q) {s : mjSt3} {i : Int32} {k : Int32 → mjU} : aI (mjW0 s) (q + 6) i k = if mj_in i 16 = true then k (s.1 (q + 6) i.toNatClampNeg) else none := by
  rcases hq with h | h <;> subst h
  · exact xa_8
  · exact xa_36
theorem ys_6 {q : Nat} (hq : isP q) {s : mjSt3} {i x : Int32} {k : mjH → mjU} : sI (mjW0 s) (q + 6) i x k = if mj_in i 16 = true then k (mjW0 (uI s (q + 6) (upd (s.1 (q + 6)) i.toNatClampNeg x))) else none := by
  rcases hq with h | h <;> subst h
  · exact xs_8
  · exact xs_36
theorem yN_6 {q : Nat} (hq : isP q) {s : mjSt3} {k : Int32 → mjU} : aN (mjW0 s) (q + 6) k = k (Int32.ofNat 16) := by
  rcases hq with h | h <;> subst h
  · exact xN_8
  · exact xN_36
theorem ya_7 {q : Nat} (hq : isP q) {s : mjSt3} {i : Int32} {k : Int32 → mjU} : aI (mjW0 s) (q + 7) i k = if mj_in i 16 = true then k (s.1 (q + 7) i.toNatClampNeg) else none := by
  rcases hq with h | h <;> subst h
  · exact xa_9
  · exact xa_37
theorem ys_7 {q : Nat} (hq : isP q) {s : mjSt3} {i x : Int32} {k : mjH → mjU} : sI (mjW0 s) (q + 7) i x k = if mj_in i 16 = true then k (mjW0 (uI s (q + 7) (upd (s.1 (q + 7)) i.toNatClampNeg x))) else none := by
  rcases hq with h | h <;> subst h
  · exact xs_9
  · exact xs_37
theorem yN_7 {q : Nat} (hq : isP q) {s : mjSt3} {k : Int32 → mjU} : aN (mjW0 s) (q + 7) k = k (Int32.ofNat 16) := by
  rcases hq with h | h <;> subst h
  · exact xN_9
  · exact xN_37
theorem ya_8 {q : Nat} (hq : isP q) {s : mjSt3} {i : Int32} {k : Int32 → mjU} : aI (mjW0 s) (q + 8) i k = if mj_in i 16 = true then k (s.1 (q + 8) i.toNatClampNeg) else none := by
  rcases hq with h | h <;> subst h
  · exact xa_10
  · exact xa_38
theorem ys_8 {q : Nat} (hq : isP q) {s : mjSt3} {i x : Int32} {k : mjH → mjU} : sI (mjW0 s) (q + 8) i x k = if mj_in i 16 = true then k (mjW0 (uI s (q + 8) (upd (s.1 (q + 8)) i.toNatClampNeg x))) else none := by
  rcases hq with h | h <;> subst h
  · exact xs_10
  · exact xs_38
theorem yN_8 {q : Nat} (hq : isP q) {s : mjSt3} {k : Int32 → mjU} : aN (mjW0 s) (q + 8) k = k (Int32.ofNat 16) := by
  rcases hq with h | h <;> subst h
  · exact xN_10
  · exact xN_38
theorem ya_9 {q : Nat} (hq : isP q) {s : mjSt3} {i : Int32} {k : Int32 → mjU} : aI (mjW0 s) (q + 9) i k = if mj_in i 16 = true then k (s.1 (q + 9) i.toNatClampNeg) else none := by
  rcases hq with h | h <;> subst h
  · exact xa_11
  · exact xa_39
theorem ys_9 {q : Nat} (hq : isP q) {s : mjSt3} {i x : Int32} {k : mjH → mjU} : sI (mjW0 s) (q + 9) i x k = if mj_in i 16 = true then k (mjW0 (uI s (q + 9) (upd (s.1 (q + 9)) i.toNatClampNeg x))) else none := by
  rcases hq with h | h <;> subst h
  · exact xs_11
  · exact xs_39
theorem yN_9 {q : Nat} (hq : isP q) {s : mjSt3} {k : Int32 → mjU} : aN (mjW0 s) (q + 9) k = k (Int32.ofNat 16) := by
  rcases hq with h | h <;> subst h
  · exact xN_11
  · exact xN_39
theorem ya_10 {q : Nat} (hq : isP q) {s : mjSt3} {i : Int32} {k : Int32 → mjU} : aI (mjW0 s) (q + 10) i k = if mj_in i 16 = true then k (s.1 (q + 10) i.toNatClampNeg) else none := by
  rcases hq with h | h <;> subst h
  · exact xa_12
  · exact xa_40
theorem ys_10 {q : Nat} (hq : isP q) {s : mjSt3} {i x : Int32} {k : mjH → mjU} : sI (mjW0 s) (q + 10) i x k = if mj_in i 16 = true then k (mjW0 (uI s (q + 10) (upd (s.1 (q + 10)) i.toNatClampNeg x))) else none := by
  rcases hq with h | h <;> subst h
  · exact xs_12
  · exact xs_40
theorem yN_10 {q : Nat} (hq : isP q) {s : mjSt3} {k : Int32 → mjU} : aN (mjW0 s) (q + 10) k = k (Int32.ofNat 16) := by
  rcases hq with h | h <;> subst h
  · exact xN_12
  · exact xN_40
theorem ya_11 {q : Nat} (hq : isP q) {s : mjSt3} {i : Int32} {k : Int32 → mjU} : aI (mjW0 s) (q + 11) i k = if mj_in i 112 = true then k (s.1 (q + 11) i.toNatClampNeg) else none := by
  rcases hq with h | h <;> subst h
  · exact xa_13
  · exact xa_41
theorem ys_11 {q : Nat} (hq : isP q) {s : mjSt3} {i x : Int32} {k : mjH → mjU} : sI (mjW0 s) (q + 11) i x k = if mj_in i 112 = true then k (mjW0 (uI s (q + 11) (upd (s.1 (q + 11)) i.toNatClampNeg x))) else none := by
  rcases hq with h | h <;> subst h
  · exact xs_13
  · exact xs_41
theorem yN_11 {q : Nat} (hq : isP q) {s : mjSt3} {k : Int32 → mjU} : aN (mjW0 s) (q + 11) k = k (Int32.ofNat 112) := by
  rcases hq with h | h <;> subst h
  · exact xN_13
  · exact xN_41
theorem ya_12 {q : Nat} (hq : isP q) {s : mjSt3} {i : Int32} {k : Int32 → mjU} : aI (mjW0 s) (q + 12) i k = if mj_in i 256 = true then k (s.1 (q + 12) i.toNatClampNeg) else none := by
  rcases hq with h | h <;> subst h
  · exact xa_14
  · exact xa_42
theorem ys_12 {q : Nat} (hq : isP q) {s : mjSt3} {i x : Int32} {k : mjH → mjU} : sI (mjW0 s) (q + 12) i x k = if mj_in i 256 = true then k (mjW0 (uI s (q + 12) (upd (s.1 (q + 12)) i.toNatClampNeg x))) else none := by
  rcases hq with h | h <;> subst h
  · exact xs_14
  · exact xs_42
theorem yN_12 {q : Nat} (hq : isP q) {s : mjSt3} {k : Int32 → mjU} : aN (mjW0 s) (q + 12) k = k (Int32.ofNat 256) := by
  rcases hq with h | h <;> subst h
  · exact xN_14
  · exact xN_42
theorem ya_13 {q : Nat} (hq : isP q) {s : mjSt3} {i : Int32} {k : Int64 → mjU} : aL (mjW0 s) (q + 13) i k = if mj_in i 96 = true then k (s.2.1 (q + 13) i.toNatClampNeg) else none := by
  rcases hq with h | h <;> subst h
  · exact xa_15
  · exact xa_43
theorem ys_13 {q : Nat} (hq : isP q) {s : mjSt3} {i : Int32} {x : Int64} {k : mjH → mjU} : sL (mjW0 s) (q + 13) i x k = if mj_in i 96 = true then k (mjW0 (uL s (q + 13) (vp_updL (s.2.1 (q + 13)) i.toNatClampNeg x))) else none := by
  rcases hq with h | h <;> subst h
  · exact xs_15
  · exact xs_43
theorem yN_13 {q : Nat} (hq : isP q) {s : mjSt3} {k : Int32 → mjU} : aN (mjW0 s) (q + 13) k = k (Int32.ofNat 96) := by
  rcases hq with h | h <;> subst h
  · exact xN_15
  · exact xN_43
theorem ya_15 {q : Nat} (hq : isP q) {s : mjSt3} {i : Int32} {k : Int64 → mjU} : aL (mjW0 s) (q + 15) i k = if mj_in i 385 = true then k (s.2.1 (q + 15) i.toNatClampNeg) else none := by
  rcases hq with h | h <;> subst h
  · exact xa_17
  · exact xa_45
theorem ys_15 {q : Nat} (hq : isP q) {s : mjSt3} {i : Int32} {x : Int64} {k : mjH → mjU} : sL (mjW0 s) (q + 15) i x k = if mj_in i 385 = true then k (mjW0 (uL s (q + 15) (vp_updL (s.2.1 (q + 15)) i.toNatClampNeg x))) else none := by
  rcases hq with h | h <;> subst h
  · exact xs_17
  · exact xs_45
theorem yN_15 {q : Nat} (hq : isP q) {s : mjSt3} {k : Int32 → mjU} : aN (mjW0 s) (q + 15) k = k (Int32.ofNat 385) := by
  rcases hq with h | h <;> subst h
  · exact xN_17
  · exact xN_45
theorem ya_16 {q : Nat} (hq : isP q) {s : mjSt3} {i : Int32} {k : Int32 → mjU} : aI (mjW0 s) (q + 16) i k = if mj_in i 385 = true then k (s.1 (q + 16) i.toNatClampNeg) else none := by
  rcases hq with h | h <;> subst h
  · exact xa_18
  · exact xa_46
theorem ys_16 {q : Nat} (hq : isP q) {s : mjSt3} {i x : Int32} {k : mjH → mjU} : sI (mjW0 s) (q + 16) i x k = if mj_in i 385 = true then k (mjW0 (uI s (q + 16) (upd (s.1 (q + 16)) i.toNatClampNeg x))) else none := by
  rcases hq with h | h <;> subst h
  · exact xs_18
  · exact xs_46
theorem yN_16 {q : Nat} (hq : isP q) {s : mjSt3} {k : Int32 → mjU} : aN (mjW0 s) (q + 16) k = k (Int32.ofNat 385) := by
  rcases hq with h | h <;> subst h
  · exact xN_18
  · exact xN_46
theorem ya_17 {q : Nat} (hq : isP q) {s : mjSt3} {i : Int32} {k : Int32 → mjU} : aI (mjW0 s) (q + 17) i k = if mj_in i 385 = true then k (s.1 (q + 17) i.toNatClampNeg) else none := by
  rcases hq with h | h <;> subst h
  · exact xa_19
  · exact xa_47
theorem ys_17 {q : Nat} (hq : isP q) {s : mjSt3} {i x : Int32} {k : mjH → mjU} : sI (mjW0 s) (q + 17) i x k = if mj_in i 385 = true then k (mjW0 (uI s (q + 17) (upd (s.1 (q + 17)) i.toNatClampNeg x))) else none := by
  rcases hq with h | h <;> subst h
  · exact xs_19
  · exact xs_47
theorem yN_17 {q : Nat} (hq : isP q) {s : mjSt3} {k : Int32 → mjU} : aN (mjW0 s) (q + 17) k = k (Int32.ofNat 385) := by
  rcases hq with h | h <;> subst h
  · exact xN_19
  · exact xN_47
theorem ya_18 {q : Nat} (hq : isP q) {s : mjSt3} {i : Int32} {k : Int32 → mjU} : aB (mjW0 s) (q + 18) i k = if mj_in i 385 = true then k (s.1 (q + 18) i.toNatClampNeg) else none := by
  rcases hq with h | h <;> subst h
  · exact xa_20
  · exact xa_48
theorem ys_18 {q : Nat} (hq : isP q) {s : mjSt3} {i x : Int32} {k : mjH → mjU} : sB (mjW0 s) (q + 18) i x k = if mj_in i 385 = true then k (mjW0 (uI s (q + 18) (upd (s.1 (q + 18)) i.toNatClampNeg (vp_nar .boolean x)))) else none := by
  rcases hq with h | h <;> subst h
  · exact xs_20
  · exact xs_48
theorem yN_18 {q : Nat} (hq : isP q) {s : mjSt3} {k : Int32 → mjU} : aN (mjW0 s) (q + 18) k = k (Int32.ofNat 385) := by
  rcases hq with h | h <;> subst h
  · exact xN_20
  · exact xN_48
theorem ya_19 {q : Nat} (hq : isP q) {s : mjSt3} {i : Int32} {k : Int32 → mjU} : aI (mjW0 s) (q + 19) i k = if mj_in i 385 = true then k (s.1 (q + 19) i.toNatClampNeg) else none := by
  rcases hq with h | h <;> subst h
  · exact xa_21
  · exact xa_49
theorem ys_19 {q : Nat} (hq : isP q) {s : mjSt3} {i x : Int32} {k : mjH → mjU} : sI (mjW0 s) (q + 19) i x k = if mj_in i 385 = true then k (mjW0 (uI s (q + 19) (upd (s.1 (q + 19)) i.toNatClampNeg x))) else none := by
  rcases hq with h | h <;> subst h
  · exact xs_21
  · exact xs_49
theorem yN_19 {q : Nat} (hq : isP q) {s : mjSt3} {k : Int32 → mjU} : aN (mjW0 s) (q + 19) k = k (Int32.ofNat 385) := by
  rcases hq with h | h <;> subst h
  · exact xN_21
  · exact xN_49
theorem ya_20 {q : Nat} (hq : isP q) {s : mjSt3} {i : Int32} {k : Int32 → mjU} : aI (mjW0 s) (q + 20) i k = if mj_in i 385 = true then k (s.1 (q + 20) i.toNatClampNeg) else none := by
  rcases hq with h | h <;> subst h
  · exact xa_22
  · exact xa_50
theorem ys_20 {q : Nat} (hq : isP q) {s : mjSt3} {i x : Int32} {k : mjH → mjU} : sI (mjW0 s) (q + 20) i x k = if mj_in i 385 = true then k (mjW0 (uI s (q + 20) (upd (s.1 (q + 20)) i.toNatClampNeg x))) else none := by
  rcases hq with h | h <;> subst h
  · exact xs_22
  · exact xs_50
theorem yN_20 {q : Nat} (hq : isP q) {s : mjSt3} {k : Int32 → mjU} : aN (mjW0 s) (q + 20) k = k (Int32.ofNat 385) := by
  rcases hq with h | h <;> subst h
  · exact xN_22
  · exact xN_50
theorem ya_21 {q : Nat} (hq : isP q) {s : mjSt3} {i : Int32} {k : Int32 → mjU} : aI (mjW0 s) (q + 21) i k = if mj_in i 2310 = true then k (s.1 (q + 21) i.toNatClampNeg) else none := by
  rcases hq with h | h <;> subst h
  · exact xa_23
  · exact xa_51
theorem ys_21 {q : Nat} (hq : isP q) {s : mjSt3} {i x : Int32} {k : mjH → mjU} : sI (mjW0 s) (q + 21) i x k = if mj_in i 2310 = true then k (mjW0 (uI s (q + 21) (upd (s.1 (q + 21)) i.toNatClampNeg x))) else none := by
  rcases hq with h | h <;> subst h
  · exact xs_23
  · exact xs_51
theorem yN_21 {q : Nat} (hq : isP q) {s : mjSt3} {k : Int32 → mjU} : aN (mjW0 s) (q + 21) k = k (Int32.ofNat 2310) := by
  rcases hq with h | h <;> subst h
  · exact xN_23
  · exact xN_51
theorem ya_22 {q : Nat} (hq : isP q) {s : mjSt3} {i : Int32} {k : Int32 → mjU} : aI (mjW0 s) (q + 22) i k = if mj_in i 385 = true then k (s.1 (q + 22) i.toNatClampNeg) else none := by
  rcases hq with h | h <;> subst h
  · exact xa_24
  · exact xa_52
theorem ys_22 {q : Nat} (hq : isP q) {s : mjSt3} {i x : Int32} {k : mjH → mjU} : sI (mjW0 s) (q + 22) i x k = if mj_in i 385 = true then k (mjW0 (uI s (q + 22) (upd (s.1 (q + 22)) i.toNatClampNeg x))) else none := by
  rcases hq with h | h <;> subst h
  · exact xs_24
  · exact xs_52
theorem yN_22 {q : Nat} (hq : isP q) {s : mjSt3} {k : Int32 → mjU} : aN (mjW0 s) (q + 22) k = k (Int32.ofNat 385) := by
  rcases hq with h | h <;> subst h
  · exact xN_24
  · exact xN_52
theorem ya_23 {q : Nat} (hq : isP q) {s : mjSt3} {i : Int32} {k : Int32 → mjU} : aI (mjW0 s) (q + 23) i k = if mj_in i 385 = true then k (s.1 (q + 23) i.toNatClampNeg) else none := by
  rcases hq with h | h <;> subst h
  · exact xa_25
  · exact xa_53
theorem ys_23 {q : Nat} (hq : isP q) {s : mjSt3} {i x : Int32} {k : mjH → mjU} : sI (mjW0 s) (q + 23) i x k = if mj_in i 385 = true then k (mjW0 (uI s (q + 23) (upd (s.1 (q + 23)) i.toNatClampNeg x))) else none := by
  rcases hq with h | h <;> subst h
  · exact xs_25
  · exact xs_53
theorem yN_23 {q : Nat} (hq : isP q) {s : mjSt3} {k : Int32 → mjU} : aN (mjW0 s) (q + 23) k = k (Int32.ofNat 385) := by
  rcases hq with h | h <;> subst h
  · exact xN_25
  · exact xN_53
theorem ya_25 {q : Nat} (hq : isP q) {s : mjSt3} {i : Int32} {k : Int32 → mjU} : aI (mjW0 s) (q + 25) i k = if mj_in i 3100 = true then k (s.1 (q + 25) i.toNatClampNeg) else none := by
  rcases hq with h | h <;> subst h
  · exact xa_27
  · exact xa_55
theorem ys_25 {q : Nat} (hq : isP q) {s : mjSt3} {i x : Int32} {k : mjH → mjU} : sI (mjW0 s) (q + 25) i x k = if mj_in i 3100 = true then k (mjW0 (uI s (q + 25) (upd (s.1 (q + 25)) i.toNatClampNeg x))) else none := by
  rcases hq with h | h <;> subst h
  · exact xs_27
  · exact xs_55
theorem yN_25 {q : Nat} (hq : isP q) {s : mjSt3} {k : Int32 → mjU} : aN (mjW0 s) (q + 25) k = k (Int32.ofNat 3100) := by
  rcases hq with h | h <;> subst h
  · exact xN_27
  · exact xN_55
theorem ya_26 {q : Nat} (hq : isP q) {s : mjSt3} {i : Int32} {k : Int32 → mjU} : aI (mjW0 s) (q + 26) i k = if mj_in i 3100 = true then k (s.1 (q + 26) i.toNatClampNeg) else none := by
  rcases hq with h | h <;> subst h
  · exact xa_28
  · exact xa_56
theorem ys_26 {q : Nat} (hq : isP q) {s : mjSt3} {i x : Int32} {k : mjH → mjU} : sI (mjW0 s) (q + 26) i x k = if mj_in i 3100 = true then k (mjW0 (uI s (q + 26) (upd (s.1 (q + 26)) i.toNatClampNeg x))) else none := by
  rcases hq with h | h <;> subst h
  · exact xs_28
  · exact xs_56
theorem yN_26 {q : Nat} (hq : isP q) {s : mjSt3} {k : Int32 → mjU} : aN (mjW0 s) (q + 26) k = k (Int32.ofNat 3100) := by
  rcases hq with h | h <;> subst h
  · exact xN_28
  · exact xN_56
theorem ya_27 {q : Nat} (hq : isP q) {s : mjSt3} {i : Int32} {k : Int32 → mjU} : aI (mjW0 s) (q + 27) i k = if mj_in i 3100 = true then k (s.1 (q + 27) i.toNatClampNeg) else none := by
  rcases hq with h | h <;> subst h
  · exact xa_29
  · exact xa_57
theorem ys_27 {q : Nat} (hq : isP q) {s : mjSt3} {i x : Int32} {k : mjH → mjU} : sI (mjW0 s) (q + 27) i x k = if mj_in i 3100 = true then k (mjW0 (uI s (q + 27) (upd (s.1 (q + 27)) i.toNatClampNeg x))) else none := by
  rcases hq with h | h <;> subst h
  · exact xs_29
  · exact xs_57
theorem yN_27 {q : Nat} (hq : isP q) {s : mjSt3} {k : Int32 → mjU} : aN (mjW0 s) (q + 27) k = k (Int32.ofNat 3100) := by
  rcases hq with h | h <;> subst h
  · exact xN_29
  · exact xN_57
