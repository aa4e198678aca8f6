/-! ===== jrow, order by order ===== -/
section MJB24
variable {E : EV} {r : Row} {j : JS}
theorem jr_3 (h : r.1 = 3) : jrow E r j = some (jpush j 0 false (0 :: jRS j), [(0, r.2.2.1, -1)]) := by unfold jrow; rw [h, if_pos rfl] <;> rfl
theorem jr_4 (h : r.1 = 4) : jrow E r j = some (jpush j 1 false (1 :: jRS j), [(0, 0, -1)]) := by unfold jrow; rw [h, if_neg (by decide), if_pos rfl] <;> rfl
theorem jr_5 (h : r.1 = 5) : jrow E r j = (match E.2.2.2.2.1 with
    | none => none
    | some c => some (jpush j (own (nmL E.2.1) c + 2) true ((own (nmL E.2.1) c + 2) :: jRS j), [(3, 0, -1)])) := by unfold jrow; rw [h, if_neg (by decide), if_neg (by decide), if_pos rfl] <;> rfl
theorem jr_6 (h : r.1 = 6) : jrow E r j = (match vsK j.2.2.1 r.2.2.2.2 with
    | none => none
    | some e => some (jpush j e.2.1 false (e.2.1 :: jRS j), [(1, nI e.2.2.1, -1)])) := by unfold jrow; rw [h, if_neg (by decide), if_neg (by decide), if_neg (by decide), if_pos rfl] <;> rfl
theorem jr_15 (h : r.1 = 15) : jrow E r j = (match vsK j.2.2.1 r.2.2.2.2 with
    | none => none
    | some e => some (((e.2.1, false) :: j.1, j.2.1, j.2.2.1, j.2.2.2.1, j.2.2.2.2.1, j.2.2.2.2.2.1, e.2.2.1, jRS j), [])) := by unfold jrow; rw [h, if_neg (by decide), if_neg (by decide), if_neg (by decide), if_neg (by decide), if_pos rfl] <;> rfl
theorem jr_7 (h : r.1 = 7) : jrow E r j = (match kdE E r.2.2.1 with
    | none => none
    | some k => some (jpush j (k + 2) false ((k + 2) :: jRS j), [(14, nI k, r.2.1)])) := by unfold jrow; rw [h, if_neg (by decide), if_neg (by decide), if_neg (by decide), if_neg (by decide), if_neg (by decide), if_pos rfl] <;> rfl
theorem jr_30 (h : r.1 = 30) : jrow E r j = (match j.1 with
    | t :: st => some (jst j ((t.1, false) :: st) (jRS j), [])
    | [] => none) := by unfold jrow; rw [h, if_neg (by decide), if_neg (by decide), if_neg (by decide), if_neg (by decide), if_neg (by decide), if_neg (by decide), if_pos rfl] <;> rfl
theorem jr_8 (h : r.1 = 8) : jrow E r j = (match j.1 with
    | t :: _ => if t.1 = 0 then some (j, [(16, 0, r.2.1)]) else none
    | [] => none) := by unfold jrow; rw [h, if_neg (by decide), if_neg (by decide), if_neg (by decide), if_neg (by decide), if_neg (by decide), if_neg (by decide), if_neg (by decide), if_pos rfl] <;> rfl
theorem jr_9 (h : r.1 = 9) : jrow E r j = (match j.1 with
    | t2 :: t1 :: st => if (if r.2.2.1 = 257 ∨ r.2.2.1 = 258 then (t1.1 = 0 ↔ t2.1 = 0) else (t1.1 = 0 ∧ t2.1 = 0)) then some (jst j ((0, false) :: st) (0 :: (jRS j).drop 2), [(opr r.2.2.1, 0, r.2.1)]) else none
    | _ => none) := by unfold jrow; rw [h, if_neg (by decide), if_neg (by decide), if_neg (by decide), if_neg (by decide), if_neg (by decide), if_neg (by decide), if_neg (by decide), if_neg (by decide), if_pos rfl] <;> rfl
theorem jr_10 (h : r.1 = 10) : jrow E r j = (match j.1 with
    | t :: st => (match prtE E t r.2.2.2.2 false with
      | none => none
      | some p => some (jst j ((sty (nmL E.2.1) (tyM E.1 E.2.1 p.1) p.2, false) :: st) (sty (nmL E.2.1) (tyM E.1 E.2.1 p.1) p.2 :: (jRS j).drop 1), [(12, nI (numM E.1 E.2.1 p.1), r.2.1)]))
    | [] => none) := by unfold jrow; rw [h, if_neg (by decide), if_neg (by decide), if_neg (by decide), if_neg (by decide), if_neg (by decide), if_neg (by decide), if_neg (by decide), if_neg (by decide), if_neg (by decide), if_pos rfl] <;> rfl
theorem jr_16 (h : r.1 = 16) : jrow E r j = (match j.1 with
    | t :: st => (match prtE E t r.2.2.2.2 false with
      | none => none
      | some p => some (((sty (nmL E.2.1) (tyM E.1 E.2.1 p.1) p.2, false) :: st, j.2.1, j.2.2.1, j.2.2.2.1, j.2.2.2.2.1, j.2.2.2.2.2.1, numM E.1 E.2.1 p.1, jRS j), []))
    | [] => none) := by unfold jrow; rw [h, if_neg (by decide), if_neg (by decide), if_neg (by decide), if_neg (by decide), if_neg (by decide), if_neg (by decide), if_neg (by decide), if_neg (by decide), if_neg (by decide), if_neg (by decide), if_pos rfl] <;> rfl
theorem jr_11 (h : r.1 = 11) : jrow E r j = (match j.1 with
    | t :: st => (match prtE E t r.2.2.2.2 true with
      | none => none
      | some p => if nI (psM E.2.1 p.1).length = r.2.2.2.1 then some ((st, p :: j.2.1, j.2.2), []) else none)
    | [] => none) := by unfold jrow; rw [h, if_neg (by decide), if_neg (by decide), if_neg (by decide), if_neg (by decide), if_neg (by decide), if_neg (by decide), if_neg (by decide), if_neg (by decide), if_neg (by decide), if_neg (by decide), if_neg (by decide), if_pos rfl] <;> rfl
theorem jr_12 (h : r.1 = 12) : jrow E r j = (match j.1, j.2.1 with
    | t :: st, p :: _ => if fitT E.1 E.2.1 t.1 (sty (nmL E.2.1) (pyT E.1 E.2.1 p.1 r.2.2.1.toNatClampNeg) p.2) = true then some (jst j st (jRS j), []) else none
    | _, _ => none) := by unfold jrow; rw [h, if_neg (by decide), if_neg (by decide), if_neg (by decide), if_neg (by decide), if_neg (by decide), if_neg (by decide), if_neg (by decide), if_neg (by decide), if_neg (by decide), if_neg (by decide), if_neg (by decide), if_neg (by decide), if_pos rfl] <;> rfl
theorem jr_13 (h : r.1 = 13) : jrow E r j = (match j.2.1 with
    | p :: pd => some (((sty (nmL E.2.1) (tyM E.1 E.2.1 p.1) p.2, false) :: j.1, pd, j.2.2.1, j.2.2.2.1, j.2.2.2.2.1, j.2.2.2.2.2.1, j.2.2.2.2.2.2.1, sty (nmL E.2.1) (tyM E.1 E.2.1 p.1) p.2 :: (jRS j).drop ((psM E.2.1 p.1).length + 1)), [(13, nI p.1, r.2.1)])
    | [] => none) := by unfold jrow; rw [h, if_neg (by decide), if_neg (by decide), if_neg (by decide), if_neg (by decide), if_neg (by decide), if_neg (by decide), if_neg (by decide), if_neg (by decide), if_neg (by decide), if_neg (by decide), if_neg (by decide), if_neg (by decide), if_neg (by decide), if_pos rfl] <;> rfl
theorem jr_14 (h : r.1 = 14) : jrow E r j = (match j.1 with
    | t :: st => (match kdE E r.2.2.1 with
      | none => none
      | some k => if t.1 = 0 then none else some (jst j ((k + 2, false) :: st) ((k + 2) :: (jRS j).drop 1), [(15, nI k, r.2.1)]))
    | [] => none) := by unfold jrow; rw [h, if_neg (by decide), if_neg (by decide), if_neg (by decide), if_neg (by decide), if_neg (by decide), if_neg (by decide), if_neg (by decide), if_neg (by decide), if_neg (by decide), if_neg (by decide), if_neg (by decide), if_neg (by decide), if_neg (by decide), if_neg (by decide), if_pos rfl] <;> rfl
theorem jr_17 (h : r.1 = 17) : jrow E r j = (match j.1 with
    | t2 :: t1 :: st => if fitT E.1 E.2.1 t2.1 t1.1 = true then some (jst j st ((jRS j).drop 1), [(2, nI j.2.2.2.2.2.2.1, -1)]) else none
    | _ => none) := by unfold jrow; rw [h, if_neg (by decide), if_neg (by decide), if_neg (by decide), if_neg (by decide), if_neg (by decide), if_neg (by decide), if_neg (by decide), if_neg (by decide), if_neg (by decide), if_neg (by decide), if_neg (by decide), if_neg (by decide), if_neg (by decide), if_neg (by decide), if_neg (by decide), if_pos rfl] <;> rfl
theorem jr_18 (h : r.1 = 18) : jrow E r j = (match j.1 with
    | t2 :: t1 :: st => if fitT E.1 E.2.1 t2.1 t1.1 = true then some (jst j st ((jRS j).drop 2), [(4, nI j.2.2.2.2.2.2.1, r.2.2.2.1)]) else none
    | _ => none) := by unfold jrow; rw [h, if_neg (by decide), if_neg (by decide), if_neg (by decide), if_neg (by decide), if_neg (by decide), if_neg (by decide), if_neg (by decide), if_neg (by decide), if_neg (by decide), if_neg (by decide), if_neg (by decide), if_neg (by decide), if_neg (by decide), if_neg (by decide), if_neg (by decide), if_neg (by decide), if_pos rfl] <;> rfl
theorem jr_19 (h : r.1 = 19) : jrow E r j = (match tyE E r.2.2.1 with
    | none => none
    | some t => if vsK j.2.2.1 r.2.2.2.2 = none then some ((j.1, j.2.1, j.2.2.1, j.2.2.2.1, j.2.2.2.2.1, (r.2.2.2.2, t), j.2.2.2.2.2.2), []) else none) := by unfold jrow; rw [h, if_neg (by decide), if_neg (by decide), if_neg (by decide), if_neg (by decide), if_neg (by decide), if_neg (by decide), if_neg (by decide), if_neg (by decide), if_neg (by decide), if_neg (by decide), if_neg (by decide), if_neg (by decide), if_neg (by decide), if_neg (by decide), if_neg (by decide), if_neg (by decide), if_neg (by decide), if_pos rfl] <;> rfl
theorem jr_20 (h : r.1 = 20) : jrow E r j = (match j.1 with
    | t :: st => if fitT E.1 E.2.1 t.1 j.2.2.2.2.2.1.2 = true then some ((st, j.2.1, j.2.2.1 ++ [(j.2.2.2.2.2.1.1, j.2.2.2.2.2.1.2, j.2.2.2.1, j.2.2.2.2.1)], j.2.2.2.1 + 1, j.2.2.2.2.1, j.2.2.2.2.2.1, j.2.2.2.2.2.2.1, (jRS j).drop 1), [(2, nI j.2.2.2.1, -1)]) else none
    | [] => none) := by unfold jrow; rw [h, if_neg (by decide), if_neg (by decide), if_neg (by decide), if_neg (by decide), if_neg (by decide), if_neg (by decide), if_neg (by decide), if_neg (by decide), if_neg (by decide), if_neg (by decide), if_neg (by decide), if_neg (by decide), if_neg (by decide), if_neg (by decide), if_neg (by decide), if_neg (by decide), if_neg (by decide), if_neg (by decide), if_pos rfl] <;> rfl
theorem jr_21 (h : r.1 = 21) : jrow E r j = (match j.1 with
    | t :: st => if t.1 = 0 then some (jst j st ((jRS j).drop 1), [(7, nI (E.2.2.2.2.2.2 r.2.2.1.toNatClampNeg), -1)]) else none
    | [] => none) := by unfold jrow; rw [h, if_neg (by decide), if_neg (by decide), if_neg (by decide), if_neg (by decide), if_neg (by decide), if_neg (by decide), if_neg (by decide), if_neg (by decide), if_neg (by decide), if_neg (by decide), if_neg (by decide), if_neg (by decide), if_neg (by decide), if_neg (by decide), if_neg (by decide), if_neg (by decide), if_neg (by decide), if_neg (by decide), if_neg (by decide), if_pos rfl] <;> rfl
theorem jr_24 (h : r.1 = 24) : jrow E r j = (match j.1 with
    | t :: st => if t.1 = 0 then some (jst j st ((jRS j).drop 1), [(8, 0, -1)]) else none
    | [] => none) := by unfold jrow; rw [h, if_neg (by decide), if_neg (by decide), if_neg (by decide), if_neg (by decide), if_neg (by decide), if_neg (by decide), if_neg (by decide), if_neg (by decide), if_neg (by decide), if_neg (by decide), if_neg (by decide), if_neg (by decide), if_neg (by decide), if_neg (by decide), if_neg (by decide), if_neg (by decide), if_neg (by decide), if_neg (by decide), if_neg (by decide), if_neg (by decide), if_pos rfl] <;> rfl
theorem jr_28 (h : r.1 = 28) : jrow E r j = (match j.1 with
    | t :: st => if fitT E.1 E.2.1 t.1 E.2.2.2.2.2.1 = true then some (jst j st ((jRS j).drop 1), [(9, 0, -1)]) else none
    | [] => none) := by unfold jrow; rw [h, if_neg (by decide), if_neg (by decide), if_neg (by decide), if_neg (by decide), if_neg (by decide), if_neg (by decide), if_neg (by decide), if_neg (by decide), if_neg (by decide), if_neg (by decide), if_neg (by decide), if_neg (by decide), if_neg (by decide), if_neg (by decide), if_neg (by decide), if_neg (by decide), if_neg (by decide), if_neg (by decide), if_neg (by decide), if_neg (by decide), if_neg (by decide), if_pos rfl] <;> rfl
theorem jr_25 (h : r.1 = 25) : jrow E r j = (match j.1 with
    | _ :: st => some (jst j st ((jRS j).drop 1), [(5, 0, -1)])
    | [] => none) := by unfold jrow; rw [h, if_neg (by decide), if_neg (by decide), if_neg (by decide), if_neg (by decide), if_neg (by decide), if_neg (by decide), if_neg (by decide), if_neg (by decide), if_neg (by decide), if_neg (by decide), if_neg (by decide), if_neg (by decide), if_neg (by decide), if_neg (by decide), if_neg (by decide), if_neg (by decide), if_neg (by decide), if_neg (by decide), if_neg (by decide), if_neg (by decide), if_neg (by decide), if_neg (by decide), if_pos rfl] <;> rfl
theorem jr_26 (h : r.1 = 26) : jrow E r j = some ((j.1, j.2.1, j.2.2.1, j.2.2.2.1, j.2.2.2.2.1 + 1, j.2.2.2.2.2), []) := by unfold jrow; rw [h, if_neg (by decide), if_neg (by decide), if_neg (by decide), if_neg (by decide), if_neg (by decide), if_neg (by decide), if_neg (by decide), if_neg (by decide), if_neg (by decide), if_neg (by decide), if_neg (by decide), if_neg (by decide), if_neg (by decide), if_neg (by decide), if_neg (by decide), if_neg (by decide), if_neg (by decide), if_neg (by decide), if_neg (by decide), if_neg (by decide), if_neg (by decide), if_neg (by decide), if_neg (by decide), if_pos rfl] <;> rfl
theorem jr_27 (h : r.1 = 27) : jrow E r j = some ((j.1, j.2.1, j.2.2.1.filter (fun e => decide (¬ e.2.2.2 = j.2.2.2.2.1)), j.2.2.2.1, j.2.2.2.2.1 - 1, j.2.2.2.2.2), []) := by unfold jrow; rw [h, if_neg (by decide), if_neg (by decide), if_neg (by decide), if_neg (by decide), if_neg (by decide), if_neg (by decide), if_neg (by decide), if_neg (by decide), if_neg (by decide), if_neg (by decide), if_neg (by decide), if_neg (by decide), if_neg (by decide), if_neg (by decide), if_neg (by decide), if_neg (by decide), if_neg (by decide), if_neg (by decide), if_neg (by decide), if_neg (by decide), if_neg (by decide), if_neg (by decide), if_neg (by decide), if_neg (by decide), if_pos rfl] <;> rfl
theorem jr_1 (h : r.1 = 1) : jrow E r j = some (j, [(10, 0, r.2.1)]) := by unfold jrow; rw [h, if_neg (by decide), if_neg (by decide), if_neg (by decide), if_neg (by decide), if_neg (by decide), if_neg (by decide), if_neg (by decide), if_neg (by decide), if_neg (by decide), if_neg (by decide), if_neg (by decide), if_neg (by decide), if_neg (by decide), if_neg (by decide), if_neg (by decide), if_neg (by decide), if_neg (by decide), if_neg (by decide), if_neg (by decide), if_neg (by decide), if_neg (by decide), if_neg (by decide), if_neg (by decide), if_neg (by decide), if_neg (by decide), if_pos rfl] <;> rfl
theorem jr_2 (h : r.1 = 2) : jrow E r j = some (j, [(11, 0, -1)]) := by unfold jrow; rw [h, if_neg (by decide), if_neg (by decide), if_neg (by decide), if_neg (by decide), if_neg (by decide), if_neg (by decide), if_neg (by decide), if_neg (by decide), if_neg (by decide), if_neg (by decide), if_neg (by decide), if_neg (by decide), if_neg (by decide), if_neg (by decide), if_neg (by decide), if_neg (by decide), if_neg (by decide), if_neg (by decide), if_neg (by decide), if_neg (by decide), if_neg (by decide), if_neg (by decide), if_neg (by decide), if_neg (by decide), if_neg (by decide), if_neg (by decide), if_pos rfl] <;> rfl
theorem jr_22 (h : r.1 = 22) : jrow E r j = some (j, [(6, nI (E.2.2.2.2.2.2 r.2.2.1.toNatClampNeg), -1)]) := by unfold jrow; rw [h, if_neg (by decide), if_neg (by decide), if_neg (by decide), if_neg (by decide), if_neg (by decide), if_neg (by decide), if_neg (by decide), if_neg (by decide), if_neg (by decide), if_neg (by decide), if_neg (by decide), if_neg (by decide), if_neg (by decide), if_neg (by decide), if_neg (by decide), if_neg (by decide), if_neg (by decide), if_neg (by decide), if_neg (by decide), if_neg (by decide), if_neg (by decide), if_neg (by decide), if_neg (by decide), if_neg (by decide), if_neg (by decide), if_neg (by decide), if_neg (by decide), if_pos rfl] <;> rfl
theorem jr_23 (h : r.1 = 23) : jrow E r j = some (j, [(6, nI (E.2.2.2.2.2.2 r.2.2.1.toNatClampNeg), -1)]) := by unfold jrow; rw [h, if_neg (by decide), if_neg (by decide), if_neg (by decide), if_neg (by decide), if_neg (by decide), if_neg (by decide), if_neg (by decide), if_neg (by decide), if_neg (by decide), if_neg (by decide), if_neg (by decide), if_neg (by decide), if_neg (by decide), if_neg (by decide), if_neg (by decide), if_neg (by decide), if_neg (by decide), if_neg (by decide), if_neg (by decide), if_neg (by decide), if_neg (by decide), if_neg (by decide), if_neg (by decide), if_neg (by decide), if_neg (by decide), if_neg (by decide), if_neg (by decide), if_neg (by decide), if_pos rfl] <;> rfl
end MJB24
