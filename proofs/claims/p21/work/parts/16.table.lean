/-! ===== all methods by number ===== -/
noncomputable def F_1 (R : mjR) (As : List Value) (hp : mjH) : mjU := match As with
  | [.ref a0, .int a1, .int a2, .int a3] => f_1 R a0 a1 a2 a3 hp
  | _ => none
theorem Fk_1 {R : mjR} {d : Nat} (hR : mjC R d) {As : List Value} {hp : mjH} {q : Option Value × mjH} (h : F_1 R As hp = some q) : mjM (d + 1) 0 0 1 As hp (mjEq q) := by
  unfold F_1 at h
  split at h
  · exact c_1 hR h
  · exact mj_no h
noncomputable def F_2 (R : mjR) (As : List Value) (hp : mjH) : mjU := match As with
  | [.ref a0, .int a1] => f_2 R a0 a1 hp
  | _ => none
theorem Fk_2 {R : mjR} {d : Nat} (hR : mjC R d) {As : List Value} {hp : mjH} {q : Option Value × mjH} (h : F_2 R As hp = some q) : mjM (d + 1) 0 0 2 As hp (mjEq q) := by
  unfold F_2 at h
  split at h
  · exact c_2 hR h
  · exact mj_no h
noncomputable def F_4 (R : mjR) (As : List Value) (hp : mjH) : mjU := match As with
  | [.ref a0, .ref a1] => f_4 R a0 a1 hp
  | _ => none
theorem Fk_4 {R : mjR} {d : Nat} (hR : mjC R d) {As : List Value} {hp : mjH} {q : Option Value × mjH} (h : F_4 R As hp = some q) : mjM (d + 1) 0 0 4 As hp (mjEq q) := by
  unfold F_4 at h
  split at h
  · exact c_4 hR h
  · exact mj_no h
noncomputable def F_5 (R : mjR) (As : List Value) (hp : mjH) : mjU := match As with
  | [.ref a0, .int a1] => f_5 R a0 a1 hp
  | _ => none
theorem Fk_5 {R : mjR} {d : Nat} (hR : mjC R d) {As : List Value} {hp : mjH} {q : Option Value × mjH} (h : F_5 R As hp = some q) : mjM (d + 1) 0 0 5 As hp (mjEq q) := by
  unfold F_5 at h
  split at h
  · exact c_5 hR h
  · exact mj_no h
noncomputable def F_6 (R : mjR) (As : List Value) (hp : mjH) : mjU := match As with
  | [.ref a0, .long a1, .int a2] => f_6 R a0 a1 a2 hp
  | _ => none
theorem Fk_6 {R : mjR} {d : Nat} (hR : mjC R d) {As : List Value} {hp : mjH} {q : Option Value × mjH} (h : F_6 R As hp = some q) : mjM (d + 1) 0 0 6 As hp (mjEq q) := by
  unfold F_6 at h
  split at h
  · exact c_6 hR h
  · exact mj_no h
noncomputable def F_7 (R : mjR) (As : List Value) (hp : mjH) : mjU := match As with
  | [.ref a0] => f_7 R a0 hp
  | _ => none
theorem Fk_7 {R : mjR} {d : Nat} (hR : mjC R d) {As : List Value} {hp : mjH} {q : Option Value × mjH} (h : F_7 R As hp = some q) : mjM (d + 1) 0 0 7 As hp (mjEq q) := by
  unfold F_7 at h
  split at h
  · exact c_7 hR h
  · exact mj_no h
noncomputable def F_8 (R : mjR) (As : List Value) (hp : mjH) : mjU := match As with
  | [.ref a0] => f_8 R a0 hp
  | _ => none
theorem Fk_8 {R : mjR} {d : Nat} (hR : mjC R d) {As : List Value} {hp : mjH} {q : Option Value × mjH} (h : F_8 R As hp = some q) : mjM (d + 1) 0 0 8 As hp (mjEq q) := by
  unfold F_8 at h
  split at h
  · exact c_8 hR h
  · exact mj_no h
noncomputable def F_9 (R : mjR) (As : List Value) (hp : mjH) : mjU := match As with
  | [.ref a0] => f_9 R a0 hp
  | _ => none
theorem Fk_9 {R : mjR} {d : Nat} (hR : mjC R d) {As : List Value} {hp : mjH} {q : Option Value × mjH} (h : F_9 R As hp = some q) : mjM (d + 1) 0 0 9 As hp (mjEq q) := by
  unfold F_9 at h
  split at h
  · exact c_9 hR h
  · exact mj_no h
noncomputable def F_10 (R : mjR) (As : List Value) (hp : mjH) : mjU := match As with
  | [.ref a0] => f_10 R a0 hp
  | _ => none
theorem Fk_10 {R : mjR} {d : Nat} (hR : mjC R d) {As : List Value} {hp : mjH} {q : Option Value × mjH} (h : F_10 R As hp = some q) : mjM (d + 1) 0 0 10 As hp (mjEq q) := by
  unfold F_10 at h
  split at h
  · exact c_10 hR h
  · exact mj_no h
noncomputable def F_11 (R : mjR) (As : List Value) (hp : mjH) : mjU := match As with
  | [.ref a0] => f_11 R a0 hp
  | _ => none
theorem Fk_11 {R : mjR} {d : Nat} (hR : mjC R d) {As : List Value} {hp : mjH} {q : Option Value × mjH} (h : F_11 R As hp = some q) : mjM (d + 1) 0 0 11 As hp (mjEq q) := by
  unfold F_11 at h
  split at h
  · exact c_11 hR h
  · exact mj_no h
noncomputable def F_12 (R : mjR) (As : List Value) (hp : mjH) : mjU := match As with
  | [.ref a0] => f_12 R a0 hp
  | _ => none
theorem Fk_12 {R : mjR} {d : Nat} (hR : mjC R d) {As : List Value} {hp : mjH} {q : Option Value × mjH} (h : F_12 R As hp = some q) : mjM (d + 1) 0 0 12 As hp (mjEq q) := by
  unfold F_12 at h
  split at h
  · exact c_12 hR h
  · exact mj_no h
noncomputable def F_13 (R : mjR) (As : List Value) (hp : mjH) : mjU := match As with
  | [.ref a0] => f_13 R a0 hp
  | _ => none
theorem Fk_13 {R : mjR} {d : Nat} (hR : mjC R d) {As : List Value} {hp : mjH} {q : Option Value × mjH} (h : F_13 R As hp = some q) : mjM (d + 1) 0 0 13 As hp (mjEq q) := by
  unfold F_13 at h
  split at h
  · exact c_13 hR h
  · exact mj_no h
noncomputable def F_14 (R : mjR) (As : List Value) (hp : mjH) : mjU := match As with
  | [.ref a0] => f_14 R a0 hp
  | _ => none
theorem Fk_14 {R : mjR} {d : Nat} (hR : mjC R d) {As : List Value} {hp : mjH} {q : Option Value × mjH} (h : F_14 R As hp = some q) : mjM (d + 1) 0 0 14 As hp (mjEq q) := by
  unfold F_14 at h
  split at h
  · exact c_14 hR h
  · exact mj_no h
noncomputable def F_15 (R : mjR) (As : List Value) (hp : mjH) : mjU := match As with
  | [.ref a0] => f_15 R a0 hp
  | _ => none
theorem Fk_15 {R : mjR} {d : Nat} (hR : mjC R d) {As : List Value} {hp : mjH} {q : Option Value × mjH} (h : F_15 R As hp = some q) : mjM (d + 1) 0 0 15 As hp (mjEq q) := by
  unfold F_15 at h
  split at h
  · exact c_15 hR h
  · exact mj_no h
noncomputable def F_16 (R : mjR) (As : List Value) (hp : mjH) : mjU := match As with
  | [.ref a0] => f_16 R a0 hp
  | _ => none
theorem Fk_16 {R : mjR} {d : Nat} (hR : mjC R d) {As : List Value} {hp : mjH} {q : Option Value × mjH} (h : F_16 R As hp = some q) : mjM (d + 1) 0 0 16 As hp (mjEq q) := by
  unfold F_16 at h
  split at h
  · exact c_16 hR h
  · exact mj_no h
noncomputable def F_17 (R : mjR) (As : List Value) (hp : mjH) : mjU := match As with
  | [.ref a0] => f_17 R a0 hp
  | _ => none
theorem Fk_17 {R : mjR} {d : Nat} (hR : mjC R d) {As : List Value} {hp : mjH} {q : Option Value × mjH} (h : F_17 R As hp = some q) : mjM (d + 1) 0 0 17 As hp (mjEq q) := by
  unfold F_17 at h
  split at h
  · exact c_17 hR h
  · exact mj_no h
noncomputable def F_18 (R : mjR) (As : List Value) (hp : mjH) : mjU := match As with
  | [.ref a0, .long a1] => f_18 R a0 a1 hp
  | _ => none
theorem Fk_18 {R : mjR} {d : Nat} (hR : mjC R d) {As : List Value} {hp : mjH} {q : Option Value × mjH} (h : F_18 R As hp = some q) : mjM (d + 1) 0 0 18 As hp (mjEq q) := by
  unfold F_18 at h
  split at h
  · exact c_18 hR h
  · exact mj_no h
noncomputable def F_19 (R : mjR) (As : List Value) (hp : mjH) : mjU := match As with
  | [.ref a0, .int a1] => f_19 R a0 a1 hp
  | _ => none
theorem Fk_19 {R : mjR} {d : Nat} (hR : mjC R d) {As : List Value} {hp : mjH} {q : Option Value × mjH} (h : F_19 R As hp = some q) : mjM (d + 1) 0 0 19 As hp (mjEq q) := by
  unfold F_19 at h
  split at h
  · exact c_19 hR h
  · exact mj_no h
noncomputable def F_20 (R : mjR) (As : List Value) (hp : mjH) : mjU := match As with
  | [.ref a0, .int a1] => f_20 R a0 a1 hp
  | _ => none
theorem Fk_20 {R : mjR} {d : Nat} (hR : mjC R d) {As : List Value} {hp : mjH} {q : Option Value × mjH} (h : F_20 R As hp = some q) : mjM (d + 1) 0 0 20 As hp (mjEq q) := by
  unfold F_20 at h
  split at h
  · exact c_20 hR h
  · exact mj_no h
noncomputable def F_21 (R : mjR) (As : List Value) (hp : mjH) : mjU := match As with
  | [.ref a0] => f_21 R a0 hp
  | _ => none
theorem Fk_21 {R : mjR} {d : Nat} (hR : mjC R d) {As : List Value} {hp : mjH} {q : Option Value × mjH} (h : F_21 R As hp = some q) : mjM (d + 1) 0 0 21 As hp (mjEq q) := by
  unfold F_21 at h
  split at h
  · exact c_21 hR h
  · exact mj_no h
noncomputable def F_22 (R : mjR) (As : List Value) (hp : mjH) : mjU := match As with
  | [.ref a0, .int a1, .int a2] => f_22 R a0 a1 a2 hp
  | _ => none
theorem Fk_22 {R : mjR} {d : Nat} (hR : mjC R d) {As : List Value} {hp : mjH} {q : Option Value × mjH} (h : F_22 R As hp = some q) : mjM (d + 1) 0 0 22 As hp (mjEq q) := by
  unfold F_22 at h
  split at h
  · exact c_22 hR h
  · exact mj_no h
noncomputable def F_23 (R : mjR) (As : List Value) (hp : mjH) : mjU := match As with
  | [.ref a0, .int a1, .int a2, .int a3] => f_23 R a0 a1 a2 a3 hp
  | _ => none
theorem Fk_23 {R : mjR} {d : Nat} (hR : mjC R d) {As : List Value} {hp : mjH} {q : Option Value × mjH} (h : F_23 R As hp = some q) : mjM (d + 1) 0 0 23 As hp (mjEq q) := by
  unfold F_23 at h
  split at h
  · exact c_23 hR h
  · exact mj_no h
noncomputable def F_24 (R : mjR) (As : List Value) (hp : mjH) : mjU := match As with
  | [.ref a0, .int a1, .int a2] => f_24 R a0 a1 a2 hp
  | _ => none
theorem Fk_24 {R : mjR} {d : Nat} (hR : mjC R d) {As : List Value} {hp : mjH} {q : Option Value × mjH} (h : F_24 R As hp = some q) : mjM (d + 1) 0 0 24 As hp (mjEq q) := by
  unfold F_24 at h
  split at h
  · exact c_24 hR h
  · exact mj_no h
noncomputable def F_25 (R : mjR) (As : List Value) (hp : mjH) : mjU := match As with
  | [.ref a0, .int a1, .int a2, .int a3] => f_25 R a0 a1 a2 a3 hp
  | _ => none
theorem Fk_25 {R : mjR} {d : Nat} (hR : mjC R d) {As : List Value} {hp : mjH} {q : Option Value × mjH} (h : F_25 R As hp = some q) : mjM (d + 1) 0 0 25 As hp (mjEq q) := by
  unfold F_25 at h
  split at h
  · exact c_25 hR h
  · exact mj_no h
noncomputable def F_26 (R : mjR) (As : List Value) (hp : mjH) : mjU := match As with
  | [.ref a0, .int a1, .int a2] => f_26 R a0 a1 a2 hp
  | _ => none
theorem Fk_26 {R : mjR} {d : Nat} (hR : mjC R d) {As : List Value} {hp : mjH} {q : Option Value × mjH} (h : F_26 R As hp = some q) : mjM (d + 1) 0 0 26 As hp (mjEq q) := by
  unfold F_26 at h
  split at h
  · exact c_26 hR h
  · exact mj_no h
noncomputable def F_27 (R : mjR) (As : List Value) (hp : mjH) : mjU := match As with
  | [.ref a0, .int a1, .int a2] => f_27 R a0 a1 a2 hp
  | _ => none
theorem Fk_27 {R : mjR} {d : Nat} (hR : mjC R d) {As : List Value} {hp : mjH} {q : Option Value × mjH} (h : F_27 R As hp = some q) : mjM (d + 1) 0 0 27 As hp (mjEq q) := by
  unfold F_27 at h
  split at h
  · exact c_27 hR h
  · exact mj_no h
noncomputable def F_28 (R : mjR) (As : List Value) (hp : mjH) : mjU := match As with
  | [.ref a0, .int a1, .int a2, .int a3] => f_28 R a0 a1 a2 a3 hp
  | _ => none
theorem Fk_28 {R : mjR} {d : Nat} (hR : mjC R d) {As : List Value} {hp : mjH} {q : Option Value × mjH} (h : F_28 R As hp = some q) : mjM (d + 1) 0 0 28 As hp (mjEq q) := by
  unfold F_28 at h
  split at h
  · exact c_28 hR h
  · exact mj_no h
noncomputable def F_29 (R : mjR) (As : List Value) (hp : mjH) : mjU := match As with
  | [.ref a0, .int a1] => f_29 R a0 a1 hp
  | _ => none
theorem Fk_29 {R : mjR} {d : Nat} (hR : mjC R d) {As : List Value} {hp : mjH} {q : Option Value × mjH} (h : F_29 R As hp = some q) : mjM (d + 1) 0 0 29 As hp (mjEq q) := by
  unfold F_29 at h
  split at h
  · exact c_29 hR h
  · exact mj_no h
noncomputable def F_30 (R : mjR) (As : List Value) (hp : mjH) : mjU := match As with
  | [.int a0] => f_30 R a0 hp
  | _ => none
theorem Fk_30 {R : mjR} {d : Nat} (hR : mjC R d) {As : List Value} {hp : mjH} {q : Option Value × mjH} (h : F_30 R As hp = some q) : mjM (d + 1) 0 0 30 As hp (mjEq q) := by
  unfold F_30 at h
  split at h
  · exact c_30 hR h
  · exact mj_no h
noncomputable def F_31 (R : mjR) (As : List Value) (hp : mjH) : mjU := match As with
  | [.ref a0] => f_31 R a0 hp
  | _ => none
theorem Fk_31 {R : mjR} {d : Nat} (hR : mjC R d) {As : List Value} {hp : mjH} {q : Option Value × mjH} (h : F_31 R As hp = some q) : mjM (d + 1) 0 0 31 As hp (mjEq q) := by
  unfold F_31 at h
  split at h
  · exact c_31 hR h
  · exact mj_no h
noncomputable def F_32 (R : mjR) (As : List Value) (hp : mjH) : mjU := match As with
  | [.ref a0, .int a1] => f_32 R a0 a1 hp
  | _ => none
theorem Fk_32 {R : mjR} {d : Nat} (hR : mjC R d) {As : List Value} {hp : mjH} {q : Option Value × mjH} (h : F_32 R As hp = some q) : mjM (d + 1) 0 0 32 As hp (mjEq q) := by
  unfold F_32 at h
  split at h
  · exact c_32 hR h
  · exact mj_no h
noncomputable def F_33 (R : mjR) (As : List Value) (hp : mjH) : mjU := match As with
  | [.ref a0] => f_33 R a0 hp
  | _ => none
theorem Fk_33 {R : mjR} {d : Nat} (hR : mjC R d) {As : List Value} {hp : mjH} {q : Option Value × mjH} (h : F_33 R As hp = some q) : mjM (d + 1) 0 0 33 As hp (mjEq q) := by
  unfold F_33 at h
  split at h
  · exact c_33 hR h
  · exact mj_no h
noncomputable def F_34 (R : mjR) (As : List Value) (hp : mjH) : mjU := match As with
  | [.ref a0] => f_34 R a0 hp
  | _ => none
theorem Fk_34 {R : mjR} {d : Nat} (hR : mjC R d) {As : List Value} {hp : mjH} {q : Option Value × mjH} (h : F_34 R As hp = some q) : mjM (d + 1) 0 0 34 As hp (mjEq q) := by
  unfold F_34 at h
  split at h
  · exact c_34 hR h
  · exact mj_no h
noncomputable def F_36 (R : mjR) (As : List Value) (hp : mjH) : mjU := match As with
  | [.ref a0] => f_36 R a0 hp
  | _ => none
theorem Fk_36 {R : mjR} {d : Nat} (hR : mjC R d) {As : List Value} {hp : mjH} {q : Option Value × mjH} (h : F_36 R As hp = some q) : mjM (d + 1) 0 0 36 As hp (mjEq q) := by
  unfold F_36 at h
  split at h
  · exact c_36 hR h
  · exact mj_no h
noncomputable def F_37 (R : mjR) (As : List Value) (hp : mjH) : mjU := match As with
  | [.ref a0, .int a1, .int a2, .int a3] => f_37 R a0 a1 a2 a3 hp
  | _ => none
theorem Fk_37 {R : mjR} {d : Nat} (hR : mjC R d) {As : List Value} {hp : mjH} {q : Option Value × mjH} (h : F_37 R As hp = some q) : mjM (d + 1) 0 0 37 As hp (mjEq q) := by
  unfold F_37 at h
  split at h
  · exact c_37 hR h
  · exact mj_no h
noncomputable def F_38 (R : mjR) (As : List Value) (hp : mjH) : mjU := match As with
  | [.ref a0] => f_38 R a0 hp
  | _ => none
theorem Fk_38 {R : mjR} {d : Nat} (hR : mjC R d) {As : List Value} {hp : mjH} {q : Option Value × mjH} (h : F_38 R As hp = some q) : mjM (d + 1) 0 0 38 As hp (mjEq q) := by
  unfold F_38 at h
  split at h
  · exact c_38 hR h
  · exact mj_no h
noncomputable def F_39 (R : mjR) (As : List Value) (hp : mjH) : mjU := match As with
  | [.ref a0, .int a1, .int a2] => f_39 R a0 a1 a2 hp
  | _ => none
theorem Fk_39 {R : mjR} {d : Nat} (hR : mjC R d) {As : List Value} {hp : mjH} {q : Option Value × mjH} (h : F_39 R As hp = some q) : mjM (d + 1) 0 0 39 As hp (mjEq q) := by
  unfold F_39 at h
  split at h
  · exact c_39 hR h
  · exact mj_no h
noncomputable def F_40 (R : mjR) (As : List Value) (hp : mjH) : mjU := match As with
  | [.ref a0, .int a1, .int a2] => f_40 R a0 a1 a2 hp
  | _ => none
theorem Fk_40 {R : mjR} {d : Nat} (hR : mjC R d) {As : List Value} {hp : mjH} {q : Option Value × mjH} (h : F_40 R As hp = some q) : mjM (d + 1) 0 0 40 As hp (mjEq q) := by
  unfold F_40 at h
  split at h
  · exact c_40 hR h
  · exact mj_no h
noncomputable def F_42 (R : mjR) (As : List Value) (hp : mjH) : mjU := match As with
  | [.ref a0, .int a1] => f_42 R a0 a1 hp
  | _ => none
theorem Fk_42 {R : mjR} {d : Nat} (hR : mjC R d) {As : List Value} {hp : mjH} {q : Option Value × mjH} (h : F_42 R As hp = some q) : mjM (d + 1) 0 0 42 As hp (mjEq q) := by
  unfold F_42 at h
  split at h
  · exact c_42 hR h
  · exact mj_no h
noncomputable def F_43 (R : mjR) (As : List Value) (hp : mjH) : mjU := match As with
  | [.ref a0, .int a1] => f_43 R a0 a1 hp
  | _ => none
theorem Fk_43 {R : mjR} {d : Nat} (hR : mjC R d) {As : List Value} {hp : mjH} {q : Option Value × mjH} (h : F_43 R As hp = some q) : mjM (d + 1) 0 0 43 As hp (mjEq q) := by
  unfold F_43 at h
  split at h
  · exact c_43 hR h
  · exact mj_no h
noncomputable def F_44 (R : mjR) (As : List Value) (hp : mjH) : mjU := match As with
  | [.ref a0, .int a1, .int a2, .int a3] => f_44 R a0 a1 a2 a3 hp
  | _ => none
theorem Fk_44 {R : mjR} {d : Nat} (hR : mjC R d) {As : List Value} {hp : mjH} {q : Option Value × mjH} (h : F_44 R As hp = some q) : mjM (d + 1) 0 0 44 As hp (mjEq q) := by
  unfold F_44 at h
  split at h
  · exact c_44 hR h
  · exact mj_no h
noncomputable def F_45 (R : mjR) (As : List Value) (hp : mjH) : mjU := match As with
  | [.ref a0, .int a1, .int a2] => f_45 R a0 a1 a2 hp
  | _ => none
theorem Fk_45 {R : mjR} {d : Nat} (hR : mjC R d) {As : List Value} {hp : mjH} {q : Option Value × mjH} (h : F_45 R As hp = some q) : mjM (d + 1) 0 0 45 As hp (mjEq q) := by
  unfold F_45 at h
  split at h
  · exact c_45 hR h
  · exact mj_no h
noncomputable def F_46 (R : mjR) (As : List Value) (hp : mjH) : mjU := match As with
  | [.ref a0, .int a1] => f_46 R a0 a1 hp
  | _ => none
theorem Fk_46 {R : mjR} {d : Nat} (hR : mjC R d) {As : List Value} {hp : mjH} {q : Option Value × mjH} (h : F_46 R As hp = some q) : mjM (d + 1) 0 0 46 As hp (mjEq q) := by
  unfold F_46 at h
  split at h
  · exact c_46 hR h
  · exact mj_no h
noncomputable def F_47 (R : mjR) (As : List Value) (hp : mjH) : mjU := match As with
  | [.ref a0, .int a1, .int a2, .int a3] => f_47 R a0 a1 a2 a3 hp
  | _ => none
theorem Fk_47 {R : mjR} {d : Nat} (hR : mjC R d) {As : List Value} {hp : mjH} {q : Option Value × mjH} (h : F_47 R As hp = some q) : mjM (d + 1) 0 0 47 As hp (mjEq q) := by
  unfold F_47 at h
  split at h
  · exact c_47 hR h
  · exact mj_no h
noncomputable def F_48 (R : mjR) (As : List Value) (hp : mjH) : mjU := match As with
  | [.ref a0, .int a1] => f_48 R a0 a1 hp
  | _ => none
theorem Fk_48 {R : mjR} {d : Nat} (hR : mjC R d) {As : List Value} {hp : mjH} {q : Option Value × mjH} (h : F_48 R As hp = some q) : mjM (d + 1) 0 0 48 As hp (mjEq q) := by
  unfold F_48 at h
  split at h
  · exact c_48 hR h
  · exact mj_no h
noncomputable def F_49 (R : mjR) (As : List Value) (hp : mjH) : mjU := match As with
  | [.ref a0, .int a1, .int a2] => f_49 R a0 a1 a2 hp
  | _ => none
theorem Fk_49 {R : mjR} {d : Nat} (hR : mjC R d) {As : List Value} {hp : mjH} {q : Option Value × mjH} (h : F_49 R As hp = some q) : mjM (d + 1) 0 0 49 As hp (mjEq q) := by
  unfold F_49 at h
  split at h
  · exact c_49 hR h
  · exact mj_no h
noncomputable def F_50 (R : mjR) (As : List Value) (hp : mjH) : mjU := match As with
  | [.ref a0, .int a1, .int a2, .int a3] => f_50 R a0 a1 a2 a3 hp
  | _ => none
theorem Fk_50 {R : mjR} {d : Nat} (hR : mjC R d) {As : List Value} {hp : mjH} {q : Option Value × mjH} (h : F_50 R As hp = some q) : mjM (d + 1) 0 0 50 As hp (mjEq q) := by
  unfold F_50 at h
  split at h
  · exact c_50 hR h
  · exact mj_no h
noncomputable def F_51 (R : mjR) (As : List Value) (hp : mjH) : mjU := match As with
  | [.ref a0, .int a1] => f_51 R a0 a1 hp
  | _ => none
theorem Fk_51 {R : mjR} {d : Nat} (hR : mjC R d) {As : List Value} {hp : mjH} {q : Option Value × mjH} (h : F_51 R As hp = some q) : mjM (d + 1) 0 0 51 As hp (mjEq q) := by
  unfold F_51 at h
  split at h
  · exact c_51 hR h
  · exact mj_no h
noncomputable def F_52 (R : mjR) (As : List Value) (hp : mjH) : mjU := match As with
  | [.ref a0, .int a1, .int a2] => f_52 R a0 a1 a2 hp
  | _ => none
theorem Fk_52 {R : mjR} {d : Nat} (hR : mjC R d) {As : List Value} {hp : mjH} {q : Option Value × mjH} (h : F_52 R As hp = some q) : mjM (d + 1) 0 0 52 As hp (mjEq q) := by
  unfold F_52 at h
  split at h
  · exact c_52 hR h
  · exact mj_no h
noncomputable def F_54 (R : mjR) (As : List Value) (hp : mjH) : mjU := match As with
  | [.ref a0, .ref a1, .int a2] => f_54 R a0 a1 a2 hp
  | _ => none
theorem Fk_54 {R : mjR} {d : Nat} (hR : mjC R d) {As : List Value} {hp : mjH} {q : Option Value × mjH} (h : F_54 R As hp = some q) : mjM (d + 1) 0 0 54 As hp (mjEq q) := by
  unfold F_54 at h
  split at h
  · exact c_54 hR h
  · exact mj_no h
noncomputable def F_55 (R : mjR) (As : List Value) (hp : mjH) : mjU := match As with
  | [.ref a0] => f_55 R a0 hp
  | _ => none
theorem Fk_55 {R : mjR} {d : Nat} (hR : mjC R d) {As : List Value} {hp : mjH} {q : Option Value × mjH} (h : F_55 R As hp = some q) : mjM (d + 1) 0 0 55 As hp (mjEq q) := by
  unfold F_55 at h
  split at h
  · exact c_55 hR h
  · exact mj_no h
noncomputable def F_56 (R : mjR) (As : List Value) (hp : mjH) : mjU := match As with
  | [.ref a0, .long a1] => f_56 R a0 a1 hp
  | _ => none
theorem Fk_56 {R : mjR} {d : Nat} (hR : mjC R d) {As : List Value} {hp : mjH} {q : Option Value × mjH} (h : F_56 R As hp = some q) : mjM (d + 1) 0 0 56 As hp (mjEq q) := by
  unfold F_56 at h
  split at h
  · exact c_56 hR h
  · exact mj_no h
noncomputable def F_57 (R : mjR) (As : List Value) (hp : mjH) : mjU := match As with
  | [.ref a0, .int a1, .int a2] => f_57 R a0 a1 a2 hp
  | _ => none
theorem Fk_57 {R : mjR} {d : Nat} (hR : mjC R d) {As : List Value} {hp : mjH} {q : Option Value × mjH} (h : F_57 R As hp = some q) : mjM (d + 1) 0 0 57 As hp (mjEq q) := by
  unfold F_57 at h
  split at h
  · exact c_57 hR h
  · exact mj_no h
noncomputable def F_58 (R : mjR) (As : List Value) (hp : mjH) : mjU := match As with
  | [.ref a0, .int a1, .long a2] => f_58 R a0 a1 a2 hp
  | _ => none
theorem Fk_58 {R : mjR} {d : Nat} (hR : mjC R d) {As : List Value} {hp : mjH} {q : Option Value × mjH} (h : F_58 R As hp = some q) : mjM (d + 1) 0 0 58 As hp (mjEq q) := by
  unfold F_58 at h
  split at h
  · exact c_58 hR h
  · exact mj_no h
noncomputable def F_59 (R : mjR) (As : List Value) (hp : mjH) : mjU := match As with
  | [.ref a0] => f_59 R a0 hp
  | _ => none
theorem Fk_59 {R : mjR} {d : Nat} (hR : mjC R d) {As : List Value} {hp : mjH} {q : Option Value × mjH} (h : F_59 R As hp = some q) : mjM (d + 1) 0 0 59 As hp (mjEq q) := by
  unfold F_59 at h
  split at h
  · exact c_59 hR h
  · exact mj_no h
noncomputable def F_60 (R : mjR) (As : List Value) (hp : mjH) : mjU := match As with
  | [.ref a0, .int a1, .int a2] => f_60 R a0 a1 a2 hp
  | _ => none
theorem Fk_60 {R : mjR} {d : Nat} (hR : mjC R d) {As : List Value} {hp : mjH} {q : Option Value × mjH} (h : F_60 R As hp = some q) : mjM (d + 1) 0 0 60 As hp (mjEq q) := by
  unfold F_60 at h
  split at h
  · exact c_60 hR h
  · exact mj_no h
noncomputable def F_61 (R : mjR) (As : List Value) (hp : mjH) : mjU := match As with
  | [.ref a0, .int a1] => f_61 R a0 a1 hp
  | _ => none
theorem Fk_61 {R : mjR} {d : Nat} (hR : mjC R d) {As : List Value} {hp : mjH} {q : Option Value × mjH} (h : F_61 R As hp = some q) : mjM (d + 1) 0 0 61 As hp (mjEq q) := by
  unfold F_61 at h
  split at h
  · exact c_61 hR h
  · exact mj_no h
noncomputable def F_62 (R : mjR) (As : List Value) (hp : mjH) : mjU := match As with
  | [.ref a0, .int a1, .int a2, .int a3] => f_62 R a0 a1 a2 a3 hp
  | _ => none
theorem Fk_62 {R : mjR} {d : Nat} (hR : mjC R d) {As : List Value} {hp : mjH} {q : Option Value × mjH} (h : F_62 R As hp = some q) : mjM (d + 1) 0 0 62 As hp (mjEq q) := by
  unfold F_62 at h
  split at h
  · exact c_62 hR h
  · exact mj_no h
noncomputable def F_63 (R : mjR) (As : List Value) (hp : mjH) : mjU := match As with
  | [.ref a0] => f_63 R a0 hp
  | _ => none
theorem Fk_63 {R : mjR} {d : Nat} (hR : mjC R d) {As : List Value} {hp : mjH} {q : Option Value × mjH} (h : F_63 R As hp = some q) : mjM (d + 1) 0 0 63 As hp (mjEq q) := by
  unfold F_63 at h
  split at h
  · exact c_63 hR h
  · exact mj_no h
noncomputable def F_64 (R : mjR) (As : List Value) (hp : mjH) : mjU := match As with
  | [.ref a0] => f_64 R a0 hp
  | _ => none
theorem Fk_64 {R : mjR} {d : Nat} (hR : mjC R d) {As : List Value} {hp : mjH} {q : Option Value × mjH} (h : F_64 R As hp = some q) : mjM (d + 1) 0 0 64 As hp (mjEq q) := by
  unfold F_64 at h
  split at h
  · exact c_64 hR h
  · exact mj_no h
noncomputable def F_65 (R : mjR) (As : List Value) (hp : mjH) : mjU := match As with
  | [.ref a0, .int a1, .int a2] => f_65 R a0 a1 a2 hp
  | _ => none
theorem Fk_65 {R : mjR} {d : Nat} (hR : mjC R d) {As : List Value} {hp : mjH} {q : Option Value × mjH} (h : F_65 R As hp = some q) : mjM (d + 1) 0 0 65 As hp (mjEq q) := by
  unfold F_65 at h
  split at h
  · exact c_65 hR h
  · exact mj_no h
noncomputable def F_66 (R : mjR) (As : List Value) (hp : mjH) : mjU := match As with
  | [.ref a0] => f_66 R a0 hp
  | _ => none
theorem Fk_66 {R : mjR} {d : Nat} (hR : mjC R d) {As : List Value} {hp : mjH} {q : Option Value × mjH} (h : F_66 R As hp = some q) : mjM (d + 1) 0 0 66 As hp (mjEq q) := by
  unfold F_66 at h
  split at h
  · exact c_66 hR h
  · exact mj_no h
noncomputable def F_67 (R : mjR) (As : List Value) (hp : mjH) : mjU := match As with
  | [.ref a0, .int a1, .int a2] => f_67 R a0 a1 a2 hp
  | _ => none
theorem Fk_67 {R : mjR} {d : Nat} (hR : mjC R d) {As : List Value} {hp : mjH} {q : Option Value × mjH} (h : F_67 R As hp = some q) : mjM (d + 1) 0 0 67 As hp (mjEq q) := by
  unfold F_67 at h
  split at h
  · exact c_67 hR h
  · exact mj_no h
noncomputable def F_68 (R : mjR) (As : List Value) (hp : mjH) : mjU := match As with
  | [.ref a0, .int a1] => f_68 R a0 a1 hp
  | _ => none
theorem Fk_68 {R : mjR} {d : Nat} (hR : mjC R d) {As : List Value} {hp : mjH} {q : Option Value × mjH} (h : F_68 R As hp = some q) : mjM (d + 1) 0 0 68 As hp (mjEq q) := by
  unfold F_68 at h
  split at h
  · exact c_68 hR h
  · exact mj_no h
noncomputable def F_69 (R : mjR) (As : List Value) (hp : mjH) : mjU := match As with
  | [.ref a0, .int a1] => f_69 R a0 a1 hp
  | _ => none
theorem Fk_69 {R : mjR} {d : Nat} (hR : mjC R d) {As : List Value} {hp : mjH} {q : Option Value × mjH} (h : F_69 R As hp = some q) : mjM (d + 1) 0 0 69 As hp (mjEq q) := by
  unfold F_69 at h
  split at h
  · exact c_69 hR h
  · exact mj_no h
noncomputable def F_70 (R : mjR) (As : List Value) (hp : mjH) : mjU := match As with
  | [.ref a0] => f_70 R a0 hp
  | _ => none
theorem Fk_70 {R : mjR} {d : Nat} (hR : mjC R d) {As : List Value} {hp : mjH} {q : Option Value × mjH} (h : F_70 R As hp = some q) : mjM (d + 1) 0 0 70 As hp (mjEq q) := by
  unfold F_70 at h
  split at h
  · exact c_70 hR h
  · exact mj_no h
noncomputable def F_71 (R : mjR) (As : List Value) (hp : mjH) : mjU := match As with
  | [.ref a0, .int a1, .int a2] => f_71 R a0 a1 a2 hp
  | _ => none
theorem Fk_71 {R : mjR} {d : Nat} (hR : mjC R d) {As : List Value} {hp : mjH} {q : Option Value × mjH} (h : F_71 R As hp = some q) : mjM (d + 1) 0 0 71 As hp (mjEq q) := by
  unfold F_71 at h
  split at h
  · exact c_71 hR h
  · exact mj_no h
noncomputable def F_73 (R : mjR) (As : List Value) (hp : mjH) : mjU := match As with
  | [.ref a0] => f_73 R a0 hp
  | _ => none
theorem Fk_73 {R : mjR} {d : Nat} (hR : mjC R d) {As : List Value} {hp : mjH} {q : Option Value × mjH} (h : F_73 R As hp = some q) : mjM (d + 1) 0 0 73 As hp (mjEq q) := by
  unfold F_73 at h
  split at h
  · exact c_73 hR h
  · exact mj_no h
noncomputable def F_74 (R : mjR) (As : List Value) (hp : mjH) : mjU := match As with
  | [.ref a0, .ref a1, .int a2, .int a3] => f_74 R a0 a1 a2 a3 hp
  | _ => none
theorem Fk_74 {R : mjR} {d : Nat} (hR : mjC R d) {As : List Value} {hp : mjH} {q : Option Value × mjH} (h : F_74 R As hp = some q) : mjM (d + 1) 0 0 74 As hp (mjEq q) := by
  unfold F_74 at h
  split at h
  · exact c_74 hR h
  · exact mj_no h
noncomputable def F_75 (R : mjR) (As : List Value) (hp : mjH) : mjU := match As with
  | [.ref a0, .int a1] => f_75 R a0 a1 hp
  | _ => none
theorem Fk_75 {R : mjR} {d : Nat} (hR : mjC R d) {As : List Value} {hp : mjH} {q : Option Value × mjH} (h : F_75 R As hp = some q) : mjM (d + 1) 0 0 75 As hp (mjEq q) := by
  unfold F_75 at h
  split at h
  · exact c_75 hR h
  · exact mj_no h
noncomputable def F_76 (R : mjR) (As : List Value) (hp : mjH) : mjU := match As with
  | [.ref a0] => f_76 R a0 hp
  | _ => none
theorem Fk_76 {R : mjR} {d : Nat} (hR : mjC R d) {As : List Value} {hp : mjH} {q : Option Value × mjH} (h : F_76 R As hp = some q) : mjM (d + 1) 0 0 76 As hp (mjEq q) := by
  unfold F_76 at h
  split at h
  · exact c_76 hR h
  · exact mj_no h
noncomputable def F_77 (R : mjR) (As : List Value) (hp : mjH) : mjU := match As with
  | [.ref a0] => f_77 R a0 hp
  | _ => none
theorem Fk_77 {R : mjR} {d : Nat} (hR : mjC R d) {As : List Value} {hp : mjH} {q : Option Value × mjH} (h : F_77 R As hp = some q) : mjM (d + 1) 0 0 77 As hp (mjEq q) := by
  unfold F_77 at h
  split at h
  · exact c_77 hR h
  · exact mj_no h
noncomputable def F_78 (R : mjR) (As : List Value) (hp : mjH) : mjU := match As with
  | [.ref a0, .int a1, .int a2, .int a3] => f_78 R a0 a1 a2 a3 hp
  | _ => none
theorem Fk_78 {R : mjR} {d : Nat} (hR : mjC R d) {As : List Value} {hp : mjH} {q : Option Value × mjH} (h : F_78 R As hp = some q) : mjM (d + 1) 0 0 78 As hp (mjEq q) := by
  unfold F_78 at h
  split at h
  · exact c_78 hR h
  · exact mj_no h
noncomputable def F_79 (R : mjR) (As : List Value) (hp : mjH) : mjU := match As with
  | [.ref a0, .int a1] => f_79 R a0 a1 hp
  | _ => none
theorem Fk_79 {R : mjR} {d : Nat} (hR : mjC R d) {As : List Value} {hp : mjH} {q : Option Value × mjH} (h : F_79 R As hp = some q) : mjM (d + 1) 0 0 79 As hp (mjEq q) := by
  unfold F_79 at h
  split at h
  · exact c_79 hR h
  · exact mj_no h
noncomputable def F_80 (R : mjR) (As : List Value) (hp : mjH) : mjU := match As with
  | [.ref a0] => f_80 R a0 hp
  | _ => none
theorem Fk_80 {R : mjR} {d : Nat} (hR : mjC R d) {As : List Value} {hp : mjH} {q : Option Value × mjH} (h : F_80 R As hp = some q) : mjM (d + 1) 0 0 80 As hp (mjEq q) := by
  unfold F_80 at h
  split at h
  · exact c_80 hR h
  · exact mj_no h
noncomputable def F_81 (R : mjR) (As : List Value) (hp : mjH) : mjU := match As with
  | [.ref a0, .int a1, .int a2] => f_81 R a0 a1 a2 hp
  | _ => none
theorem Fk_81 {R : mjR} {d : Nat} (hR : mjC R d) {As : List Value} {hp : mjH} {q : Option Value × mjH} (h : F_81 R As hp = some q) : mjM (d + 1) 0 0 81 As hp (mjEq q) := by
  unfold F_81 at h
  split at h
  · exact c_81 hR h
  · exact mj_no h
noncomputable def F_82 (R : mjR) (As : List Value) (hp : mjH) : mjU := match As with
  | [.ref a0, .int a1, .int a2] => f_82 R a0 a1 a2 hp
  | _ => none
theorem Fk_82 {R : mjR} {d : Nat} (hR : mjC R d) {As : List Value} {hp : mjH} {q : Option Value × mjH} (h : F_82 R As hp = some q) : mjM (d + 1) 0 0 82 As hp (mjEq q) := by
  unfold F_82 at h
  split at h
  · exact c_82 hR h
  · exact mj_no h
noncomputable def F_83 (R : mjR) (As : List Value) (hp : mjH) : mjU := match As with
  | [.ref a0, .int a1] => f_83 R a0 a1 hp
  | _ => none
theorem Fk_83 {R : mjR} {d : Nat} (hR : mjC R d) {As : List Value} {hp : mjH} {q : Option Value × mjH} (h : F_83 R As hp = some q) : mjM (d + 1) 0 0 83 As hp (mjEq q) := by
  unfold F_83 at h
  split at h
  · exact c_83 hR h
  · exact mj_no h
noncomputable def F_84 (R : mjR) (As : List Value) (hp : mjH) : mjU := match As with
  | [.ref a0, .int a1] => f_84 R a0 a1 hp
  | _ => none
theorem Fk_84 {R : mjR} {d : Nat} (hR : mjC R d) {As : List Value} {hp : mjH} {q : Option Value × mjH} (h : F_84 R As hp = some q) : mjM (d + 1) 0 0 84 As hp (mjEq q) := by
  unfold F_84 at h
  split at h
  · exact c_84 hR h
  · exact mj_no h
noncomputable def F_85 (R : mjR) (As : List Value) (hp : mjH) : mjU := match As with
  | [.ref a0, .int a1, .int a2] => f_85 R a0 a1 a2 hp
  | _ => none
theorem Fk_85 {R : mjR} {d : Nat} (hR : mjC R d) {As : List Value} {hp : mjH} {q : Option Value × mjH} (h : F_85 R As hp = some q) : mjM (d + 1) 0 0 85 As hp (mjEq q) := by
  unfold F_85 at h
  split at h
  · exact c_85 hR h
  · exact mj_no h
noncomputable def F_86 (R : mjR) (As : List Value) (hp : mjH) : mjU := match As with
  | [.ref a0, .int a1, .int a2, .int a3, .int a4] => f_86 R a0 a1 a2 a3 a4 hp
  | _ => none
theorem Fk_86 {R : mjR} {d : Nat} (hR : mjC R d) {As : List Value} {hp : mjH} {q : Option Value × mjH} (h : F_86 R As hp = some q) : mjM (d + 1) 0 0 86 As hp (mjEq q) := by
  unfold F_86 at h
  split at h
  · exact c_86 hR h
  · exact mj_no h
noncomputable def F_87 (R : mjR) (As : List Value) (hp : mjH) : mjU := match As with
  | [.ref a0, .int a1, .int a2, .int a3] => f_87 R a0 a1 a2 a3 hp
  | _ => none
theorem Fk_87 {R : mjR} {d : Nat} (hR : mjC R d) {As : List Value} {hp : mjH} {q : Option Value × mjH} (h : F_87 R As hp = some q) : mjM (d + 1) 0 0 87 As hp (mjEq q) := by
  unfold F_87 at h
  split at h
  · exact c_87 hR h
  · exact mj_no h
noncomputable def F_88 (R : mjR) (As : List Value) (hp : mjH) : mjU := match As with
  | [.ref a0, .int a1, .int a2] => f_88 R a0 a1 a2 hp
  | _ => none
theorem Fk_88 {R : mjR} {d : Nat} (hR : mjC R d) {As : List Value} {hp : mjH} {q : Option Value × mjH} (h : F_88 R As hp = some q) : mjM (d + 1) 0 0 88 As hp (mjEq q) := by
  unfold F_88 at h
  split at h
  · exact c_88 hR h
  · exact mj_no h
noncomputable def F_89 (R : mjR) (As : List Value) (hp : mjH) : mjU := match As with
  | [.ref a0, .int a1, .int a2] => f_89 R a0 a1 a2 hp
  | _ => none
theorem Fk_89 {R : mjR} {d : Nat} (hR : mjC R d) {As : List Value} {hp : mjH} {q : Option Value × mjH} (h : F_89 R As hp = some q) : mjM (d + 1) 0 0 89 As hp (mjEq q) := by
  unfold F_89 at h
  split at h
  · exact c_89 hR h
  · exact mj_no h
noncomputable def F_90 (R : mjR) (As : List Value) (hp : mjH) : mjU := match As with
  | [.ref a0, .int a1] => f_90 R a0 a1 hp
  | _ => none
theorem Fk_90 {R : mjR} {d : Nat} (hR : mjC R d) {As : List Value} {hp : mjH} {q : Option Value × mjH} (h : F_90 R As hp = some q) : mjM (d + 1) 0 0 90 As hp (mjEq q) := by
  unfold F_90 at h
  split at h
  · exact c_90 hR h
  · exact mj_no h
noncomputable def F_91 (R : mjR) (As : List Value) (hp : mjH) : mjU := match As with
  | [.ref a0, .int a1, .int a2] => f_91 R a0 a1 a2 hp
  | _ => none
theorem Fk_91 {R : mjR} {d : Nat} (hR : mjC R d) {As : List Value} {hp : mjH} {q : Option Value × mjH} (h : F_91 R As hp = some q) : mjM (d + 1) 0 0 91 As hp (mjEq q) := by
  unfold F_91 at h
  split at h
  · exact c_91 hR h
  · exact mj_no h
noncomputable def F_92 (R : mjR) (As : List Value) (hp : mjH) : mjU := match As with
  | [.ref a0, .int a1] => f_92 R a0 a1 hp
  | _ => none
theorem Fk_92 {R : mjR} {d : Nat} (hR : mjC R d) {As : List Value} {hp : mjH} {q : Option Value × mjH} (h : F_92 R As hp = some q) : mjM (d + 1) 0 0 92 As hp (mjEq q) := by
  unfold F_92 at h
  split at h
  · exact c_92 hR h
  · exact mj_no h
noncomputable def F_93 (R : mjR) (As : List Value) (hp : mjH) : mjU := match As with
  | [.ref a0, .int a1, .int a2, .int a3] => f_93 R a0 a1 a2 a3 hp
  | _ => none
theorem Fk_93 {R : mjR} {d : Nat} (hR : mjC R d) {As : List Value} {hp : mjH} {q : Option Value × mjH} (h : F_93 R As hp = some q) : mjM (d + 1) 0 0 93 As hp (mjEq q) := by
  unfold F_93 at h
  split at h
  · exact c_93 hR h
  · exact mj_no h
noncomputable def F_94 (R : mjR) (As : List Value) (hp : mjH) : mjU := match As with
  | [.ref a0, .int a1, .int a2] => f_94 R a0 a1 a2 hp
  | _ => none
theorem Fk_94 {R : mjR} {d : Nat} (hR : mjC R d) {As : List Value} {hp : mjH} {q : Option Value × mjH} (h : F_94 R As hp = some q) : mjM (d + 1) 0 0 94 As hp (mjEq q) := by
  unfold F_94 at h
  split at h
  · exact c_94 hR h
  · exact mj_no h
noncomputable def F_96 (R : mjR) (As : List Value) (hp : mjH) : mjU := match As with
  | [.ref a0] => f_96 R a0 hp
  | _ => none
theorem Fk_96 {R : mjR} {d : Nat} (hR : mjC R d) {As : List Value} {hp : mjH} {q : Option Value × mjH} (h : F_96 R As hp = some q) : mjM (d + 1) 0 0 96 As hp (mjEq q) := by
  unfold F_96 at h
  split at h
  · exact c_96 hR h
  · exact mj_no h
noncomputable def F_97 (R : mjR) (As : List Value) (hp : mjH) : mjU := match As with
  | [.ref a0, .int a1, .int a2, .int a3] => f_97 R a0 a1 a2 a3 hp
  | _ => none
theorem Fk_97 {R : mjR} {d : Nat} (hR : mjC R d) {As : List Value} {hp : mjH} {q : Option Value × mjH} (h : F_97 R As hp = some q) : mjM (d + 1) 0 0 97 As hp (mjEq q) := by
  unfold F_97 at h
  split at h
  · exact c_97 hR h
  · exact mj_no h
noncomputable def F_98 (R : mjR) (As : List Value) (hp : mjH) : mjU := match As with
  | [.ref a0, .int a1, .int a2] => f_98 R a0 a1 a2 hp
  | _ => none
theorem Fk_98 {R : mjR} {d : Nat} (hR : mjC R d) {As : List Value} {hp : mjH} {q : Option Value × mjH} (h : F_98 R As hp = some q) : mjM (d + 1) 0 0 98 As hp (mjEq q) := by
  unfold F_98 at h
  split at h
  · exact c_98 hR h
  · exact mj_no h
noncomputable def F_99 (R : mjR) (As : List Value) (hp : mjH) : mjU := match As with
  | [.ref a0, .int a1] => f_99 R a0 a1 hp
  | _ => none
theorem Fk_99 {R : mjR} {d : Nat} (hR : mjC R d) {As : List Value} {hp : mjH} {q : Option Value × mjH} (h : F_99 R As hp = some q) : mjM (d + 1) 0 0 99 As hp (mjEq q) := by
  unfold F_99 at h
  split at h
  · exact c_99 hR h
  · exact mj_no h
noncomputable def F_101 (R : mjR) (As : List Value) (hp : mjH) : mjU := match As with
  | [.ref a0] => f_101 R a0 hp
  | _ => none
theorem Fk_101 {R : mjR} {d : Nat} (hR : mjC R d) {As : List Value} {hp : mjH} {q : Option Value × mjH} (h : F_101 R As hp = some q) : mjM (d + 1) 0 0 101 As hp (mjEq q) := by
  unfold F_101 at h
  split at h
  · exact c_101 hR h
  · exact mj_no h
noncomputable def F_102 (R : mjR) (As : List Value) (hp : mjH) : mjU := match As with
  | [.int a0] => f_102 R a0 hp
  | _ => none
theorem Fk_102 {R : mjR} {d : Nat} (hR : mjC R d) {As : List Value} {hp : mjH} {q : Option Value × mjH} (h : F_102 R As hp = some q) : mjM (d + 1) 0 0 102 As hp (mjEq q) := by
  unfold F_102 at h
  split at h
  · exact c_102 hR h
  · exact mj_no h
noncomputable def F_103 (R : mjR) (As : List Value) (hp : mjH) : mjU := match As with
  | [.int a0, .int a1, .int a2] => f_103 R a0 a1 a2 hp
  | _ => none
theorem Fk_103 {R : mjR} {d : Nat} (hR : mjC R d) {As : List Value} {hp : mjH} {q : Option Value × mjH} (h : F_103 R As hp = some q) : mjM (d + 1) 0 0 103 As hp (mjEq q) := by
  unfold F_103 at h
  split at h
  · exact c_103 hR h
  · exact mj_no h
noncomputable def F_104 (R : mjR) (As : List Value) (hp : mjH) : mjU := match As with
  | [.ref a0, .int a1, .int a2] => f_104 R a0 a1 a2 hp
  | _ => none
theorem Fk_104 {R : mjR} {d : Nat} (hR : mjC R d) {As : List Value} {hp : mjH} {q : Option Value × mjH} (h : F_104 R As hp = some q) : mjM (d + 1) 0 0 104 As hp (mjEq q) := by
  unfold F_104 at h
  split at h
  · exact c_104 hR h
  · exact mj_no h
noncomputable def F_105 (R : mjR) (As : List Value) (hp : mjH) : mjU := match As with
  | [.int a0] => f_105 R a0 hp
  | _ => none
theorem Fk_105 {R : mjR} {d : Nat} (hR : mjC R d) {As : List Value} {hp : mjH} {q : Option Value × mjH} (h : F_105 R As hp = some q) : mjM (d + 1) 0 0 105 As hp (mjEq q) := by
  unfold F_105 at h
  split at h
  · exact c_105 hR h
  · exact mj_no h
noncomputable def F_106 (R : mjR) (As : List Value) (hp : mjH) : mjU := match As with
  | [.int a0, .int a1] => f_106 R a0 a1 hp
  | _ => none
theorem Fk_106 {R : mjR} {d : Nat} (hR : mjC R d) {As : List Value} {hp : mjH} {q : Option Value × mjH} (h : F_106 R As hp = some q) : mjM (d + 1) 0 0 106 As hp (mjEq q) := by
  unfold F_106 at h
  split at h
  · exact c_106 hR h
  · exact mj_no h
noncomputable def F_107 (R : mjR) (As : List Value) (hp : mjH) : mjU := match As with
  | [.ref a0, .int a1, .int a2, .int a3] => f_107 R a0 a1 a2 a3 hp
  | _ => none
theorem Fk_107 {R : mjR} {d : Nat} (hR : mjC R d) {As : List Value} {hp : mjH} {q : Option Value × mjH} (h : F_107 R As hp = some q) : mjM (d + 1) 0 0 107 As hp (mjEq q) := by
  unfold F_107 at h
  split at h
  · exact c_107 hR h
  · exact mj_no h
noncomputable def F_108 (R : mjR) (As : List Value) (hp : mjH) : mjU := match As with
  | [.ref a0, .int a1] => f_108 R a0 a1 hp
  | _ => none
theorem Fk_108 {R : mjR} {d : Nat} (hR : mjC R d) {As : List Value} {hp : mjH} {q : Option Value × mjH} (h : F_108 R As hp = some q) : mjM (d + 1) 0 0 108 As hp (mjEq q) := by
  unfold F_108 at h
  split at h
  · exact c_108 hR h
  · exact mj_no h
noncomputable def F_109 (R : mjR) (As : List Value) (hp : mjH) : mjU := match As with
  | [.ref a0, .int a1, .int a2, .int a3, .int a4] => f_109 R a0 a1 a2 a3 a4 hp
  | _ => none
theorem Fk_109 {R : mjR} {d : Nat} (hR : mjC R d) {As : List Value} {hp : mjH} {q : Option Value × mjH} (h : F_109 R As hp = some q) : mjM (d + 1) 0 0 109 As hp (mjEq q) := by
  unfold F_109 at h
  split at h
  · exact c_109 hR h
  · exact mj_no h
noncomputable def F_110 (R : mjR) (As : List Value) (hp : mjH) : mjU := match As with
  | [.ref a0] => f_110 R a0 hp
  | _ => none
theorem Fk_110 {R : mjR} {d : Nat} (hR : mjC R d) {As : List Value} {hp : mjH} {q : Option Value × mjH} (h : F_110 R As hp = some q) : mjM (d + 1) 0 0 110 As hp (mjEq q) := by
  unfold F_110 at h
  split at h
  · exact c_110 hR h
  · exact mj_no h
noncomputable def F_111 (R : mjR) (As : List Value) (hp : mjH) : mjU := match As with
  | [.ref a0, .int a1] => f_111 R a0 a1 hp
  | _ => none
theorem Fk_111 {R : mjR} {d : Nat} (hR : mjC R d) {As : List Value} {hp : mjH} {q : Option Value × mjH} (h : F_111 R As hp = some q) : mjM (d + 1) 0 0 111 As hp (mjEq q) := by
  unfold F_111 at h
  split at h
  · exact c_111 hR h
  · exact mj_no h
noncomputable def F_112 (R : mjR) (As : List Value) (hp : mjH) : mjU := match As with
  | [.ref a0, .int a1, .int a2] => f_112 R a0 a1 a2 hp
  | _ => none
theorem Fk_112 {R : mjR} {d : Nat} (hR : mjC R d) {As : List Value} {hp : mjH} {q : Option Value × mjH} (h : F_112 R As hp = some q) : mjM (d + 1) 0 0 112 As hp (mjEq q) := by
  unfold F_112 at h
  split at h
  · exact c_112 hR h
  · exact mj_no h
noncomputable def F_113 (R : mjR) (As : List Value) (hp : mjH) : mjU := match As with
  | [.ref a0] => f_113 R a0 hp
  | _ => none
theorem Fk_113 {R : mjR} {d : Nat} (hR : mjC R d) {As : List Value} {hp : mjH} {q : Option Value × mjH} (h : F_113 R As hp = some q) : mjM (d + 1) 0 0 113 As hp (mjEq q) := by
  unfold F_113 at h
  split at h
  · exact c_113 hR h
  · exact mj_no h
noncomputable def F_114 (R : mjR) (As : List Value) (hp : mjH) : mjU := match As with
  | [.ref a0, .int a1, .int a2] => f_114 R a0 a1 a2 hp
  | _ => none
theorem Fk_114 {R : mjR} {d : Nat} (hR : mjC R d) {As : List Value} {hp : mjH} {q : Option Value × mjH} (h : F_114 R As hp = some q) : mjM (d + 1) 0 0 114 As hp (mjEq q) := by
  unfold F_114 at h
  split at h
  · exact c_114 hR h
  · exact mj_no h
noncomputable def F_115 (R : mjR) (As : List Value) (hp : mjH) : mjU := match As with
  | [.ref a0] => f_115 R a0 hp
  | _ => none
theorem Fk_115 {R : mjR} {d : Nat} (hR : mjC R d) {As : List Value} {hp : mjH} {q : Option Value × mjH} (h : F_115 R As hp = some q) : mjM (d + 1) 0 0 115 As hp (mjEq q) := by
  unfold F_115 at h
  split at h
  · exact c_115 hR h
  · exact mj_no h
noncomputable def F_116 (R : mjR) (As : List Value) (hp : mjH) : mjU := match As with
  | [.ref a0, .int a1] => f_116 R a0 a1 hp
  | _ => none
theorem Fk_116 {R : mjR} {d : Nat} (hR : mjC R d) {As : List Value} {hp : mjH} {q : Option Value × mjH} (h : F_116 R As hp = some q) : mjM (d + 1) 0 0 116 As hp (mjEq q) := by
  unfold F_116 at h
  split at h
  · exact c_116 hR h
  · exact mj_no h
noncomputable def F_117 (R : mjR) (As : List Value) (hp : mjH) : mjU := match As with
  | [.ref a0, .int a1, .int a2, .int a3] => f_117 R a0 a1 a2 a3 hp
  | _ => none
theorem Fk_117 {R : mjR} {d : Nat} (hR : mjC R d) {As : List Value} {hp : mjH} {q : Option Value × mjH} (h : F_117 R As hp = some q) : mjM (d + 1) 0 0 117 As hp (mjEq q) := by
  unfold F_117 at h
  split at h
  · exact c_117 hR h
  · exact mj_no h
noncomputable def F_118 (R : mjR) (As : List Value) (hp : mjH) : mjU := match As with
  | [.ref a0, .int a1] => f_118 R a0 a1 hp
  | _ => none
theorem Fk_118 {R : mjR} {d : Nat} (hR : mjC R d) {As : List Value} {hp : mjH} {q : Option Value × mjH} (h : F_118 R As hp = some q) : mjM (d + 1) 0 0 118 As hp (mjEq q) := by
  unfold F_118 at h
  split at h
  · exact c_118 hR h
  · exact mj_no h
noncomputable def F_119 (R : mjR) (As : List Value) (hp : mjH) : mjU := match As with
  | [.ref a0, .int a1, .long a2] => f_119 R a0 a1 a2 hp
  | _ => none
theorem Fk_119 {R : mjR} {d : Nat} (hR : mjC R d) {As : List Value} {hp : mjH} {q : Option Value × mjH} (h : F_119 R As hp = some q) : mjM (d + 1) 0 0 119 As hp (mjEq q) := by
  unfold F_119 at h
  split at h
  · exact c_119 hR h
  · exact mj_no h
noncomputable def F_120 (R : mjR) (As : List Value) (hp : mjH) : mjU := match As with
  | [.ref a0] => f_120 R a0 hp
  | _ => none
theorem Fk_120 {R : mjR} {d : Nat} (hR : mjC R d) {As : List Value} {hp : mjH} {q : Option Value × mjH} (h : F_120 R As hp = some q) : mjM (d + 1) 0 0 120 As hp (mjEq q) := by
  unfold F_120 at h
  split at h
  · exact c_120 hR h
  · exact mj_no h
noncomputable def F_121 (R : mjR) (As : List Value) (hp : mjH) : mjU := match As with
  | [.ref a0, .int a1, .long a2, .int a3] => f_121 R a0 a1 a2 a3 hp
  | _ => none
theorem Fk_121 {R : mjR} {d : Nat} (hR : mjC R d) {As : List Value} {hp : mjH} {q : Option Value × mjH} (h : F_121 R As hp = some q) : mjM (d + 1) 0 0 121 As hp (mjEq q) := by
  unfold F_121 at h
  split at h
  · exact c_121 hR h
  · exact mj_no h
noncomputable def F_122 (R : mjR) (As : List Value) (hp : mjH) : mjU := match As with
  | [.int a0] => f_122 R a0 hp
  | _ => none
theorem Fk_122 {R : mjR} {d : Nat} (hR : mjC R d) {As : List Value} {hp : mjH} {q : Option Value × mjH} (h : F_122 R As hp = some q) : mjM (d + 1) 0 0 122 As hp (mjEq q) := by
  unfold F_122 at h
  split at h
  · exact c_122 hR h
  · exact mj_no h
noncomputable def F_123 (R : mjR) (As : List Value) (hp : mjH) : mjU := match As with
  | [.ref a0, .int a1, .int a2] => f_123 R a0 a1 a2 hp
  | _ => none
theorem Fk_123 {R : mjR} {d : Nat} (hR : mjC R d) {As : List Value} {hp : mjH} {q : Option Value × mjH} (h : F_123 R As hp = some q) : mjM (d + 1) 0 0 123 As hp (mjEq q) := by
  unfold F_123 at h
  split at h
  · exact c_123 hR h
  · exact mj_no h
noncomputable def F_124 (R : mjR) (As : List Value) (hp : mjH) : mjU := match As with
  | [.ref a0, .int a1, .int a2] => f_124 R a0 a1 a2 hp
  | _ => none
theorem Fk_124 {R : mjR} {d : Nat} (hR : mjC R d) {As : List Value} {hp : mjH} {q : Option Value × mjH} (h : F_124 R As hp = some q) : mjM (d + 1) 0 0 124 As hp (mjEq q) := by
  unfold F_124 at h
  split at h
  · exact c_124 hR h
  · exact mj_no h
noncomputable def F_126 (R : mjR) (As : List Value) (hp : mjH) : mjU := match As with
  | [.ref a0, .ref a1] => f_126 R a0 a1 hp
  | _ => none
theorem Fk_126 {R : mjR} {d : Nat} (hR : mjC R d) {As : List Value} {hp : mjH} {q : Option Value × mjH} (h : F_126 R As hp = some q) : mjM (d + 1) 0 0 126 As hp (mjEq q) := by
  unfold F_126 at h
  split at h
  · exact c_126 hR h
  · exact mj_no h
noncomputable def F_127 (R : mjR) (As : List Value) (hp : mjH) : mjU := match As with
  | [.ref a0, .int a1] => f_127 R a0 a1 hp
  | _ => none
theorem Fk_127 {R : mjR} {d : Nat} (hR : mjC R d) {As : List Value} {hp : mjH} {q : Option Value × mjH} (h : F_127 R As hp = some q) : mjM (d + 1) 0 0 127 As hp (mjEq q) := by
  unfold F_127 at h
  split at h
  · exact c_127 hR h
  · exact mj_no h
noncomputable def F_128 (R : mjR) (As : List Value) (hp : mjH) : mjU := match As with
  | [.ref a0, .int a1] => f_128 R a0 a1 hp
  | _ => none
theorem Fk_128 {R : mjR} {d : Nat} (hR : mjC R d) {As : List Value} {hp : mjH} {q : Option Value × mjH} (h : F_128 R As hp = some q) : mjM (d + 1) 0 0 128 As hp (mjEq q) := by
  unfold F_128 at h
  split at h
  · exact c_128 hR h
  · exact mj_no h
noncomputable def F_129 (R : mjR) (As : List Value) (hp : mjH) : mjU := match As with
  | [.ref a0, .int a1] => f_129 R a0 a1 hp
  | _ => none
theorem Fk_129 {R : mjR} {d : Nat} (hR : mjC R d) {As : List Value} {hp : mjH} {q : Option Value × mjH} (h : F_129 R As hp = some q) : mjM (d + 1) 0 0 129 As hp (mjEq q) := by
  unfold F_129 at h
  split at h
  · exact c_129 hR h
  · exact mj_no h
noncomputable def F_130 (R : mjR) (As : List Value) (hp : mjH) : mjU := match As with
  | [.ref a0, .int a1] => f_130 R a0 a1 hp
  | _ => none
theorem Fk_130 {R : mjR} {d : Nat} (hR : mjC R d) {As : List Value} {hp : mjH} {q : Option Value × mjH} (h : F_130 R As hp = some q) : mjM (d + 1) 0 0 130 As hp (mjEq q) := by
  unfold F_130 at h
  split at h
  · exact c_130 hR h
  · exact mj_no h
noncomputable def F_131 (R : mjR) (As : List Value) (hp : mjH) : mjU := match As with
  | [.ref a0, .int a1] => f_131 R a0 a1 hp
  | _ => none
theorem Fk_131 {R : mjR} {d : Nat} (hR : mjC R d) {As : List Value} {hp : mjH} {q : Option Value × mjH} (h : F_131 R As hp = some q) : mjM (d + 1) 0 0 131 As hp (mjEq q) := by
  unfold F_131 at h
  split at h
  · exact c_131 hR h
  · exact mj_no h
noncomputable def F_132 (R : mjR) (As : List Value) (hp : mjH) : mjU := match As with
  | [.ref a0, .int a1] => f_132 R a0 a1 hp
  | _ => none
theorem Fk_132 {R : mjR} {d : Nat} (hR : mjC R d) {As : List Value} {hp : mjH} {q : Option Value × mjH} (h : F_132 R As hp = some q) : mjM (d + 1) 0 0 132 As hp (mjEq q) := by
  unfold F_132 at h
  split at h
  · exact c_132 hR h
  · exact mj_no h
noncomputable def F_133 (R : mjR) (As : List Value) (hp : mjH) : mjU := match As with
  | [.ref a0, .int a1] => f_133 R a0 a1 hp
  | _ => none
theorem Fk_133 {R : mjR} {d : Nat} (hR : mjC R d) {As : List Value} {hp : mjH} {q : Option Value × mjH} (h : F_133 R As hp = some q) : mjM (d + 1) 0 0 133 As hp (mjEq q) := by
  unfold F_133 at h
  split at h
  · exact c_133 hR h
  · exact mj_no h
noncomputable def F_134 (R : mjR) (As : List Value) (hp : mjH) : mjU := match As with
  | [.ref a0, .int a1] => f_134 R a0 a1 hp
  | _ => none
theorem Fk_134 {R : mjR} {d : Nat} (hR : mjC R d) {As : List Value} {hp : mjH} {q : Option Value × mjH} (h : F_134 R As hp = some q) : mjM (d + 1) 0 0 134 As hp (mjEq q) := by
  unfold F_134 at h
  split at h
  · exact c_134 hR h
  · exact mj_no h
noncomputable def F_135 (R : mjR) (As : List Value) (hp : mjH) : mjU := match As with
  | [.ref a0] => f_135 R a0 hp
  | _ => none
theorem Fk_135 {R : mjR} {d : Nat} (hR : mjC R d) {As : List Value} {hp : mjH} {q : Option Value × mjH} (h : F_135 R As hp = some q) : mjM (d + 1) 0 0 135 As hp (mjEq q) := by
  unfold F_135 at h
  split at h
  · exact c_135 hR h
  · exact mj_no h
noncomputable def F_136 (R : mjR) (As : List Value) (hp : mjH) : mjU := match As with
  | [.ref a0, .int a1, .int a2] => f_136 R a0 a1 a2 hp
  | _ => none
theorem Fk_136 {R : mjR} {d : Nat} (hR : mjC R d) {As : List Value} {hp : mjH} {q : Option Value × mjH} (h : F_136 R As hp = some q) : mjM (d + 1) 0 0 136 As hp (mjEq q) := by
  unfold F_136 at h
  split at h
  · exact c_136 hR h
  · exact mj_no h
noncomputable def F_137 (R : mjR) (As : List Value) (hp : mjH) : mjU := match As with
  | [.ref a0, .int a1] => f_137 R a0 a1 hp
  | _ => none
theorem Fk_137 {R : mjR} {d : Nat} (hR : mjC R d) {As : List Value} {hp : mjH} {q : Option Value × mjH} (h : F_137 R As hp = some q) : mjM (d + 1) 0 0 137 As hp (mjEq q) := by
  unfold F_137 at h
  split at h
  · exact c_137 hR h
  · exact mj_no h
noncomputable def F_138 (R : mjR) (As : List Value) (hp : mjH) : mjU := match As with
  | [.ref a0, .int a1] => f_138 R a0 a1 hp
  | _ => none
theorem Fk_138 {R : mjR} {d : Nat} (hR : mjC R d) {As : List Value} {hp : mjH} {q : Option Value × mjH} (h : F_138 R As hp = some q) : mjM (d + 1) 0 0 138 As hp (mjEq q) := by
  unfold F_138 at h
  split at h
  · exact c_138 hR h
  · exact mj_no h
noncomputable def F_139 (R : mjR) (As : List Value) (hp : mjH) : mjU := match As with
  | [.ref a0] => f_139 R a0 hp
  | _ => none
theorem Fk_139 {R : mjR} {d : Nat} (hR : mjC R d) {As : List Value} {hp : mjH} {q : Option Value × mjH} (h : F_139 R As hp = some q) : mjM (d + 1) 0 0 139 As hp (mjEq q) := by
  unfold F_139 at h
  split at h
  · exact c_139 hR h
  · exact mj_no h
noncomputable def F_140 (R : mjR) (As : List Value) (hp : mjH) : mjU := match As with
  | [.ref a0] => f_140 R a0 hp
  | _ => none
theorem Fk_140 {R : mjR} {d : Nat} (hR : mjC R d) {As : List Value} {hp : mjH} {q : Option Value × mjH} (h : F_140 R As hp = some q) : mjM (d + 1) 0 0 140 As hp (mjEq q) := by
  unfold F_140 at h
  split at h
  · exact c_140 hR h
  · exact mj_no h
noncomputable def F_141 (R : mjR) (As : List Value) (hp : mjH) : mjU := match As with
  | [.ref a0] => f_141 R a0 hp
  | _ => none
theorem Fk_141 {R : mjR} {d : Nat} (hR : mjC R d) {As : List Value} {hp : mjH} {q : Option Value × mjH} (h : F_141 R As hp = some q) : mjM (d + 1) 0 0 141 As hp (mjEq q) := by
  unfold F_141 at h
  split at h
  · exact c_141 hR h
  · exact mj_no h
noncomputable def F_142 (R : mjR) (As : List Value) (hp : mjH) : mjU := match As with
  | [.ref a0] => f_142 R a0 hp
  | _ => none
theorem Fk_142 {R : mjR} {d : Nat} (hR : mjC R d) {As : List Value} {hp : mjH} {q : Option Value × mjH} (h : F_142 R As hp = some q) : mjM (d + 1) 0 0 142 As hp (mjEq q) := by
  unfold F_142 at h
  split at h
  · exact c_142 hR h
  · exact mj_no h
noncomputable def F_143 (R : mjR) (As : List Value) (hp : mjH) : mjU := match As with
  | [.ref a0] => f_143 R a0 hp
  | _ => none
theorem Fk_143 {R : mjR} {d : Nat} (hR : mjC R d) {As : List Value} {hp : mjH} {q : Option Value × mjH} (h : F_143 R As hp = some q) : mjM (d + 1) 0 0 143 As hp (mjEq q) := by
  unfold F_143 at h
  split at h
  · exact c_143 hR h
  · exact mj_no h
noncomputable def F_144 (R : mjR) (As : List Value) (hp : mjH) : mjU := match As with
  | [.ref a0] => f_144 R a0 hp
  | _ => none
theorem Fk_144 {R : mjR} {d : Nat} (hR : mjC R d) {As : List Value} {hp : mjH} {q : Option Value × mjH} (h : F_144 R As hp = some q) : mjM (d + 1) 0 0 144 As hp (mjEq q) := by
  unfold F_144 at h
  split at h
  · exact c_144 hR h
  · exact mj_no h
noncomputable def F_145 (R : mjR) (As : List Value) (hp : mjH) : mjU := match As with
  | [.ref a0] => f_145 R a0 hp
  | _ => none
theorem Fk_145 {R : mjR} {d : Nat} (hR : mjC R d) {As : List Value} {hp : mjH} {q : Option Value × mjH} (h : F_145 R As hp = some q) : mjM (d + 1) 0 0 145 As hp (mjEq q) := by
  unfold F_145 at h
  split at h
  · exact c_145 hR h
  · exact mj_no h
noncomputable def F_146 (R : mjR) (As : List Value) (hp : mjH) : mjU := match As with
  | [.ref a0] => f_146 R a0 hp
  | _ => none
theorem Fk_146 {R : mjR} {d : Nat} (hR : mjC R d) {As : List Value} {hp : mjH} {q : Option Value × mjH} (h : F_146 R As hp = some q) : mjM (d + 1) 0 0 146 As hp (mjEq q) := by
  unfold F_146 at h
  split at h
  · exact c_146 hR h
  · exact mj_no h
noncomputable def F_147 (R : mjR) (As : List Value) (hp : mjH) : mjU := match As with
  | [.ref a0] => f_147 R a0 hp
  | _ => none
theorem Fk_147 {R : mjR} {d : Nat} (hR : mjC R d) {As : List Value} {hp : mjH} {q : Option Value × mjH} (h : F_147 R As hp = some q) : mjM (d + 1) 0 0 147 As hp (mjEq q) := by
  unfold F_147 at h
  split at h
  · exact c_147 hR h
  · exact mj_no h
noncomputable def F_148 (R : mjR) (As : List Value) (hp : mjH) : mjU := match As with
  | [.ref a0] => f_148 R a0 hp
  | _ => none
theorem Fk_148 {R : mjR} {d : Nat} (hR : mjC R d) {As : List Value} {hp : mjH} {q : Option Value × mjH} (h : F_148 R As hp = some q) : mjM (d + 1) 0 0 148 As hp (mjEq q) := by
  unfold F_148 at h
  split at h
  · exact c_148 hR h
  · exact mj_no h
noncomputable def F_149 (R : mjR) (As : List Value) (hp : mjH) : mjU := match As with
  | [.ref a0] => f_149 R a0 hp
  | _ => none
theorem Fk_149 {R : mjR} {d : Nat} (hR : mjC R d) {As : List Value} {hp : mjH} {q : Option Value × mjH} (h : F_149 R As hp = some q) : mjM (d + 1) 0 0 149 As hp (mjEq q) := by
  unfold F_149 at h
  split at h
  · exact c_149 hR h
  · exact mj_no h
noncomputable def F_150 (R : mjR) (As : List Value) (hp : mjH) : mjU := match As with
  | [.ref a0] => f_150 R a0 hp
  | _ => none
theorem Fk_150 {R : mjR} {d : Nat} (hR : mjC R d) {As : List Value} {hp : mjH} {q : Option Value × mjH} (h : F_150 R As hp = some q) : mjM (d + 1) 0 0 150 As hp (mjEq q) := by
  unfold F_150 at h
  split at h
  · exact c_150 hR h
  · exact mj_no h
noncomputable def F_151 (R : mjR) (As : List Value) (hp : mjH) : mjU := match As with
  | [.ref a0, .int a1] => f_151 R a0 a1 hp
  | _ => none
theorem Fk_151 {R : mjR} {d : Nat} (hR : mjC R d) {As : List Value} {hp : mjH} {q : Option Value × mjH} (h : F_151 R As hp = some q) : mjM (d + 1) 0 0 151 As hp (mjEq q) := by
  unfold F_151 at h
  split at h
  · exact c_151 hR h
  · exact mj_no h
noncomputable def F_153 (R : mjR) (As : List Value) (hp : mjH) : mjU := match As with
  | [.long a0, .int a1] => f_153 R a0 a1 hp
  | _ => none
theorem Fk_153 {R : mjR} {d : Nat} (hR : mjC R d) {As : List Value} {hp : mjH} {q : Option Value × mjH} (h : F_153 R As hp = some q) : mjM (d + 1) 0 0 153 As hp (mjEq q) := by
  unfold F_153 at h
  split at h
  · exact c_153 hR h
  · exact mj_no h
noncomputable def F_154 (R : mjR) (As : List Value) (hp : mjH) : mjU := match As with
  | [.ref a0, .ref a1, .int a2] => f_154 R a0 a1 a2 hp
  | _ => none
theorem Fk_154 {R : mjR} {d : Nat} (hR : mjC R d) {As : List Value} {hp : mjH} {q : Option Value × mjH} (h : F_154 R As hp = some q) : mjM (d + 1) 0 0 154 As hp (mjEq q) := by
  unfold F_154 at h
  split at h
  · exact c_154 hR h
  · exact mj_no h
noncomputable def F_155 (R : mjR) (As : List Value) (hp : mjH) : mjU := match As with
  | [.ref a0, .int a1, .int a2] => f_155 R a0 a1 a2 hp
  | _ => none
theorem Fk_155 {R : mjR} {d : Nat} (hR : mjC R d) {As : List Value} {hp : mjH} {q : Option Value × mjH} (h : F_155 R As hp = some q) : mjM (d + 1) 0 0 155 As hp (mjEq q) := by
  unfold F_155 at h
  split at h
  · exact c_155 hR h
  · exact mj_no h
noncomputable def F_156 (R : mjR) (As : List Value) (hp : mjH) : mjU := match As with
  | [.ref a0, .ref a1, .int a2, .int a3] => f_156 R a0 a1 a2 a3 hp
  | _ => none
theorem Fk_156 {R : mjR} {d : Nat} (hR : mjC R d) {As : List Value} {hp : mjH} {q : Option Value × mjH} (h : F_156 R As hp = some q) : mjM (d + 1) 0 0 156 As hp (mjEq q) := by
  unfold F_156 at h
  split at h
  · exact c_156 hR h
  · exact mj_no h
noncomputable def F_157 (R : mjR) (As : List Value) (hp : mjH) : mjU := match As with
  | [.int a0] => f_157 R a0 hp
  | _ => none
theorem Fk_157 {R : mjR} {d : Nat} (hR : mjC R d) {As : List Value} {hp : mjH} {q : Option Value × mjH} (h : F_157 R As hp = some q) : mjM (d + 1) 0 0 157 As hp (mjEq q) := by
  unfold F_157 at h
  split at h
  · exact c_157 hR h
  · exact mj_no h
noncomputable def F_158 (R : mjR) (As : List Value) (hp : mjH) : mjU := match As with
  | [.ref a0, .ref a1, .int a2, .int a3] => f_158 R a0 a1 a2 a3 hp
  | _ => none
theorem Fk_158 {R : mjR} {d : Nat} (hR : mjC R d) {As : List Value} {hp : mjH} {q : Option Value × mjH} (h : F_158 R As hp = some q) : mjM (d + 1) 0 0 158 As hp (mjEq q) := by
  unfold F_158 at h
  split at h
  · exact c_158 hR h
  · exact mj_no h
noncomputable def F_159 (R : mjR) (As : List Value) (hp : mjH) : mjU := match As with
  | [.int a0] => f_159 R a0 hp
  | _ => none
theorem Fk_159 {R : mjR} {d : Nat} (hR : mjC R d) {As : List Value} {hp : mjH} {q : Option Value × mjH} (h : F_159 R As hp = some q) : mjM (d + 1) 0 0 159 As hp (mjEq q) := by
  unfold F_159 at h
  split at h
  · exact c_159 hR h
  · exact mj_no h
noncomputable def F_160 (R : mjR) (As : List Value) (hp : mjH) : mjU := match As with
  | [.ref a0, .long a1] => f_160 R a0 a1 hp
  | _ => none
theorem Fk_160 {R : mjR} {d : Nat} (hR : mjC R d) {As : List Value} {hp : mjH} {q : Option Value × mjH} (h : F_160 R As hp = some q) : mjM (d + 1) 0 0 160 As hp (mjEq q) := by
  unfold F_160 at h
  split at h
  · exact c_160 hR h
  · exact mj_no h
noncomputable def F_161 (R : mjR) (As : List Value) (hp : mjH) : mjU := match As with
  | [.ref a0, .int a1, .int a2, .long a3] => f_161 R a0 a1 a2 a3 hp
  | _ => none
theorem Fk_161 {R : mjR} {d : Nat} (hR : mjC R d) {As : List Value} {hp : mjH} {q : Option Value × mjH} (h : F_161 R As hp = some q) : mjM (d + 1) 0 0 161 As hp (mjEq q) := by
  unfold F_161 at h
  split at h
  · exact c_161 hR h
  · exact mj_no h
noncomputable def F_162 (R : mjR) (As : List Value) (hp : mjH) : mjU := match As with
  | [.ref a0, .ref a1, .int a2, .int a3] => f_162 R a0 a1 a2 a3 hp
  | _ => none
theorem Fk_162 {R : mjR} {d : Nat} (hR : mjC R d) {As : List Value} {hp : mjH} {q : Option Value × mjH} (h : F_162 R As hp = some q) : mjM (d + 1) 0 0 162 As hp (mjEq q) := by
  unfold F_162 at h
  split at h
  · exact c_162 hR h
  · exact mj_no h
noncomputable def F_163 (R : mjR) (As : List Value) (hp : mjH) : mjU := match As with
  | [.ref a0, .ref a1, .int a2, .int a3] => f_163 R a0 a1 a2 a3 hp
  | _ => none
theorem Fk_163 {R : mjR} {d : Nat} (hR : mjC R d) {As : List Value} {hp : mjH} {q : Option Value × mjH} (h : F_163 R As hp = some q) : mjM (d + 1) 0 0 163 As hp (mjEq q) := by
  unfold F_163 at h
  split at h
  · exact c_163 hR h
  · exact mj_no h
noncomputable def F_164 (R : mjR) (As : List Value) (hp : mjH) : mjU := match As with
  | [.ref a0, .int a1] => f_164 R a0 a1 hp
  | _ => none
theorem Fk_164 {R : mjR} {d : Nat} (hR : mjC R d) {As : List Value} {hp : mjH} {q : Option Value × mjH} (h : F_164 R As hp = some q) : mjM (d + 1) 0 0 164 As hp (mjEq q) := by
  unfold F_164 at h
  split at h
  · exact c_164 hR h
  · exact mj_no h
noncomputable def F_165 (R : mjR) (As : List Value) (hp : mjH) : mjU := match As with
  | [.ref a0, .int a1] => f_165 R a0 a1 hp
  | _ => none
theorem Fk_165 {R : mjR} {d : Nat} (hR : mjC R d) {As : List Value} {hp : mjH} {q : Option Value × mjH} (h : F_165 R As hp = some q) : mjM (d + 1) 0 0 165 As hp (mjEq q) := by
  unfold F_165 at h
  split at h
  · exact c_165 hR h
  · exact mj_no h
noncomputable def F_166 (R : mjR) (As : List Value) (hp : mjH) : mjU := match As with
  | [.ref a0] => f_166 R a0 hp
  | _ => none
theorem Fk_166 {R : mjR} {d : Nat} (hR : mjC R d) {As : List Value} {hp : mjH} {q : Option Value × mjH} (h : F_166 R As hp = some q) : mjM (d + 1) 0 0 166 As hp (mjEq q) := by
  unfold F_166 at h
  split at h
  · exact c_166 hR h
  · exact mj_no h
noncomputable def F_167 (R : mjR) (As : List Value) (hp : mjH) : mjU := match As with
  | [.ref a0] => f_167 R a0 hp
  | _ => none
theorem Fk_167 {R : mjR} {d : Nat} (hR : mjC R d) {As : List Value} {hp : mjH} {q : Option Value × mjH} (h : F_167 R As hp = some q) : mjM (d + 1) 0 0 167 As hp (mjEq q) := by
  unfold F_167 at h
  split at h
  · exact c_167 hR h
  · exact mj_no h
noncomputable def F_168 (R : mjR) (As : List Value) (hp : mjH) : mjU := match As with
  | [.ref a0, .int a1] => f_168 R a0 a1 hp
  | _ => none
theorem Fk_168 {R : mjR} {d : Nat} (hR : mjC R d) {As : List Value} {hp : mjH} {q : Option Value × mjH} (h : F_168 R As hp = some q) : mjM (d + 1) 0 0 168 As hp (mjEq q) := by
  unfold F_168 at h
  split at h
  · exact c_168 hR h
  · exact mj_no h
noncomputable def F_169 (R : mjR) (As : List Value) (hp : mjH) : mjU := match As with
  | [.ref a0, .int a1] => f_169 R a0 a1 hp
  | _ => none
theorem Fk_169 {R : mjR} {d : Nat} (hR : mjC R d) {As : List Value} {hp : mjH} {q : Option Value × mjH} (h : F_169 R As hp = some q) : mjM (d + 1) 0 0 169 As hp (mjEq q) := by
  unfold F_169 at h
  split at h
  · exact c_169 hR h
  · exact mj_no h
noncomputable def F_170 (R : mjR) (As : List Value) (hp : mjH) : mjU := match As with
  | [.ref a0, .int a1] => f_170 R a0 a1 hp
  | _ => none
theorem Fk_170 {R : mjR} {d : Nat} (hR : mjC R d) {As : List Value} {hp : mjH} {q : Option Value × mjH} (h : F_170 R As hp = some q) : mjM (d + 1) 0 0 170 As hp (mjEq q) := by
  unfold F_170 at h
  split at h
  · exact c_170 hR h
  · exact mj_no h
noncomputable def F_171 (R : mjR) (As : List Value) (hp : mjH) : mjU := match As with
  | [.ref a0] => f_171 R a0 hp
  | _ => none
theorem Fk_171 {R : mjR} {d : Nat} (hR : mjC R d) {As : List Value} {hp : mjH} {q : Option Value × mjH} (h : F_171 R As hp = some q) : mjM (d + 1) 0 0 171 As hp (mjEq q) := by
  unfold F_171 at h
  split at h
  · exact c_171 hR h
  · exact mj_no h
noncomputable def F_172 (R : mjR) (As : List Value) (hp : mjH) : mjU := match As with
  | [.ref a0] => f_172 R a0 hp
  | _ => none
theorem Fk_172 {R : mjR} {d : Nat} (hR : mjC R d) {As : List Value} {hp : mjH} {q : Option Value × mjH} (h : F_172 R As hp = some q) : mjM (d + 1) 0 0 172 As hp (mjEq q) := by
  unfold F_172 at h
  split at h
  · exact c_172 hR h
  · exact mj_no h
noncomputable def F_173 (R : mjR) (As : List Value) (hp : mjH) : mjU := match As with
  | [.ref a0] => f_173 R a0 hp
  | _ => none
theorem Fk_173 {R : mjR} {d : Nat} (hR : mjC R d) {As : List Value} {hp : mjH} {q : Option Value × mjH} (h : F_173 R As hp = some q) : mjM (d + 1) 0 0 173 As hp (mjEq q) := by
  unfold F_173 at h
  split at h
  · exact c_173 hR h
  · exact mj_no h
noncomputable def F_174 (R : mjR) (As : List Value) (hp : mjH) : mjU := match As with
  | [.ref a0, .int a1, .int a2] => f_174 R a0 a1 a2 hp
  | _ => none
theorem Fk_174 {R : mjR} {d : Nat} (hR : mjC R d) {As : List Value} {hp : mjH} {q : Option Value × mjH} (h : F_174 R As hp = some q) : mjM (d + 1) 0 0 174 As hp (mjEq q) := by
  unfold F_174 at h
  split at h
  · exact c_174 hR h
  · exact mj_no h
noncomputable def F_175 (R : mjR) (As : List Value) (hp : mjH) : mjU := match As with
  | [.ref a0] => f_175 R a0 hp
  | _ => none
theorem Fk_175 {R : mjR} {d : Nat} (hR : mjC R d) {As : List Value} {hp : mjH} {q : Option Value × mjH} (h : F_175 R As hp = some q) : mjM (d + 1) 0 0 175 As hp (mjEq q) := by
  unfold F_175 at h
  split at h
  · exact c_175 hR h
  · exact mj_no h
noncomputable def F_176 (R : mjR) (As : List Value) (hp : mjH) : mjU := match As with
  | [.ref a0] => f_176 R a0 hp
  | _ => none
theorem Fk_176 {R : mjR} {d : Nat} (hR : mjC R d) {As : List Value} {hp : mjH} {q : Option Value × mjH} (h : F_176 R As hp = some q) : mjM (d + 1) 0 0 176 As hp (mjEq q) := by
  unfold F_176 at h
  split at h
  · exact c_176 hR h
  · exact mj_no h
noncomputable def F_177 (R : mjR) (As : List Value) (hp : mjH) : mjU := match As with
  | [.ref a0] => f_177 R a0 hp
  | _ => none
theorem Fk_177 {R : mjR} {d : Nat} (hR : mjC R d) {As : List Value} {hp : mjH} {q : Option Value × mjH} (h : F_177 R As hp = some q) : mjM (d + 1) 0 0 177 As hp (mjEq q) := by
  unfold F_177 at h
  split at h
  · exact c_177 hR h
  · exact mj_no h
noncomputable def F_178 (R : mjR) (As : List Value) (hp : mjH) : mjU := match As with
  | [.ref a0, .int a1, .int a2] => f_178 R a0 a1 a2 hp
  | _ => none
theorem Fk_178 {R : mjR} {d : Nat} (hR : mjC R d) {As : List Value} {hp : mjH} {q : Option Value × mjH} (h : F_178 R As hp = some q) : mjM (d + 1) 0 0 178 As hp (mjEq q) := by
  unfold F_178 at h
  split at h
  · exact c_178 hR h
  · exact mj_no h
noncomputable def F_179 (R : mjR) (As : List Value) (hp : mjH) : mjU := match As with
  | [.ref a0, .int a1] => f_179 R a0 a1 hp
  | _ => none
theorem Fk_179 {R : mjR} {d : Nat} (hR : mjC R d) {As : List Value} {hp : mjH} {q : Option Value × mjH} (h : F_179 R As hp = some q) : mjM (d + 1) 0 0 179 As hp (mjEq q) := by
  unfold F_179 at h
  split at h
  · exact c_179 hR h
  · exact mj_no h
noncomputable def F_180 (R : mjR) (As : List Value) (hp : mjH) : mjU := match As with
  | [.ref a0, .int a1] => f_180 R a0 a1 hp
  | _ => none
theorem Fk_180 {R : mjR} {d : Nat} (hR : mjC R d) {As : List Value} {hp : mjH} {q : Option Value × mjH} (h : F_180 R As hp = some q) : mjM (d + 1) 0 0 180 As hp (mjEq q) := by
  unfold F_180 at h
  split at h
  · exact c_180 hR h
  · exact mj_no h
noncomputable def F_181 (R : mjR) (As : List Value) (hp : mjH) : mjU := match As with
  | [.ref a0, .int a1] => f_181 R a0 a1 hp
  | _ => none
theorem Fk_181 {R : mjR} {d : Nat} (hR : mjC R d) {As : List Value} {hp : mjH} {q : Option Value × mjH} (h : F_181 R As hp = some q) : mjM (d + 1) 0 0 181 As hp (mjEq q) := by
  unfold F_181 at h
  split at h
  · exact c_181 hR h
  · exact mj_no h
noncomputable def F_183 (R : mjR) (As : List Value) (hp : mjH) : mjU := match As with
  | [.ref a0] => f_183 R a0 hp
  | _ => none
theorem Fk_183 {R : mjR} {d : Nat} (hR : mjC R d) {As : List Value} {hp : mjH} {q : Option Value × mjH} (h : F_183 R As hp = some q) : mjM (d + 1) 0 0 183 As hp (mjEq q) := by
  unfold F_183 at h
  split at h
  · exact c_183 hR h
  · exact mj_no h
noncomputable def F_184 (R : mjR) (As : List Value) (hp : mjH) : mjU := match As with
  | [.ref a0, .ref a1] => f_184 R a0 a1 hp
  | _ => none
theorem Fk_184 {R : mjR} {d : Nat} (hR : mjC R d) {As : List Value} {hp : mjH} {q : Option Value × mjH} (h : F_184 R As hp = some q) : mjM (d + 1) 0 0 184 As hp (mjEq q) := by
  unfold F_184 at h
  split at h
  · exact c_184 hR h
  · exact mj_no h
noncomputable def F_185 (R : mjR) (As : List Value) (hp : mjH) : mjU := match As with
  | [.ref a0, .int a1, .int a2] => f_185 R a0 a1 a2 hp
  | _ => none
theorem Fk_185 {R : mjR} {d : Nat} (hR : mjC R d) {As : List Value} {hp : mjH} {q : Option Value × mjH} (h : F_185 R As hp = some q) : mjM (d + 1) 0 0 185 As hp (mjEq q) := by
  unfold F_185 at h
  split at h
  · exact c_185 hR h
  · exact mj_no h
noncomputable def F_186 (R : mjR) (As : List Value) (hp : mjH) : mjU := match As with
  | [.ref a0, .int a1, .int a2] => f_186 R a0 a1 a2 hp
  | _ => none
theorem Fk_186 {R : mjR} {d : Nat} (hR : mjC R d) {As : List Value} {hp : mjH} {q : Option Value × mjH} (h : F_186 R As hp = some q) : mjM (d + 1) 0 0 186 As hp (mjEq q) := by
  unfold F_186 at h
  split at h
  · exact c_186 hR h
  · exact mj_no h
noncomputable def F_187 (R : mjR) (As : List Value) (hp : mjH) : mjU := match As with
  | [.ref a0, .int a1, .int a2] => f_187 R a0 a1 a2 hp
  | _ => none
theorem Fk_187 {R : mjR} {d : Nat} (hR : mjC R d) {As : List Value} {hp : mjH} {q : Option Value × mjH} (h : F_187 R As hp = some q) : mjM (d + 1) 0 0 187 As hp (mjEq q) := by
  unfold F_187 at h
  split at h
  · exact c_187 hR h
  · exact mj_no h
noncomputable def F_188 (R : mjR) (As : List Value) (hp : mjH) : mjU := match As with
  | [.ref a0, .int a1, .int a2] => f_188 R a0 a1 a2 hp
  | _ => none
theorem Fk_188 {R : mjR} {d : Nat} (hR : mjC R d) {As : List Value} {hp : mjH} {q : Option Value × mjH} (h : F_188 R As hp = some q) : mjM (d + 1) 0 0 188 As hp (mjEq q) := by
  unfold F_188 at h
  split at h
  · exact c_188 hR h
  · exact mj_no h
noncomputable def F_189 (R : mjR) (As : List Value) (hp : mjH) : mjU := match As with
  | [.ref a0, .int a1] => f_189 R a0 a1 hp
  | _ => none
theorem Fk_189 {R : mjR} {d : Nat} (hR : mjC R d) {As : List Value} {hp : mjH} {q : Option Value × mjH} (h : F_189 R As hp = some q) : mjM (d + 1) 0 0 189 As hp (mjEq q) := by
  unfold F_189 at h
  split at h
  · exact c_189 hR h
  · exact mj_no h
noncomputable def F_190 (R : mjR) (As : List Value) (hp : mjH) : mjU := match As with
  | [.ref a0, .int a1, .int a2] => f_190 R a0 a1 a2 hp
  | _ => none
theorem Fk_190 {R : mjR} {d : Nat} (hR : mjC R d) {As : List Value} {hp : mjH} {q : Option Value × mjH} (h : F_190 R As hp = some q) : mjM (d + 1) 0 0 190 As hp (mjEq q) := by
  unfold F_190 at h
  split at h
  · exact c_190 hR h
  · exact mj_no h
noncomputable def F_191 (R : mjR) (As : List Value) (hp : mjH) : mjU := match As with
  | [.ref a0, .int a1] => f_191 R a0 a1 hp
  | _ => none
theorem Fk_191 {R : mjR} {d : Nat} (hR : mjC R d) {As : List Value} {hp : mjH} {q : Option Value × mjH} (h : F_191 R As hp = some q) : mjM (d + 1) 0 0 191 As hp (mjEq q) := by
  unfold F_191 at h
  split at h
  · exact c_191 hR h
  · exact mj_no h
noncomputable def F_192 (R : mjR) (As : List Value) (hp : mjH) : mjU := match As with
  | [.ref a0, .int a1] => f_192 R a0 a1 hp
  | _ => none
theorem Fk_192 {R : mjR} {d : Nat} (hR : mjC R d) {As : List Value} {hp : mjH} {q : Option Value × mjH} (h : F_192 R As hp = some q) : mjM (d + 1) 0 0 192 As hp (mjEq q) := by
  unfold F_192 at h
  split at h
  · exact c_192 hR h
  · exact mj_no h
noncomputable def F_193 (R : mjR) (As : List Value) (hp : mjH) : mjU := match As with
  | [.ref a0] => f_193 R a0 hp
  | _ => none
theorem Fk_193 {R : mjR} {d : Nat} (hR : mjC R d) {As : List Value} {hp : mjH} {q : Option Value × mjH} (h : F_193 R As hp = some q) : mjM (d + 1) 0 0 193 As hp (mjEq q) := by
  unfold F_193 at h
  split at h
  · exact c_193 hR h
  · exact mj_no h
noncomputable def F_194 (R : mjR) (As : List Value) (hp : mjH) : mjU := match As with
  | [.ref a0] => f_194 R a0 hp
  | _ => none
theorem Fk_194 {R : mjR} {d : Nat} (hR : mjC R d) {As : List Value} {hp : mjH} {q : Option Value × mjH} (h : F_194 R As hp = some q) : mjM (d + 1) 0 0 194 As hp (mjEq q) := by
  unfold F_194 at h
  split at h
  · exact c_194 hR h
  · exact mj_no h
noncomputable def F_195 (R : mjR) (As : List Value) (hp : mjH) : mjU := match As with
  | [.ref a0, .int a1] => f_195 R a0 a1 hp
  | _ => none
theorem Fk_195 {R : mjR} {d : Nat} (hR : mjC R d) {As : List Value} {hp : mjH} {q : Option Value × mjH} (h : F_195 R As hp = some q) : mjM (d + 1) 0 0 195 As hp (mjEq q) := by
  unfold F_195 at h
  split at h
  · exact c_195 hR h
  · exact mj_no h
noncomputable def F_196 (R : mjR) (As : List Value) (hp : mjH) : mjU := match As with
  | [.ref a0, .int a1, .int a2] => f_196 R a0 a1 a2 hp
  | _ => none
theorem Fk_196 {R : mjR} {d : Nat} (hR : mjC R d) {As : List Value} {hp : mjH} {q : Option Value × mjH} (h : F_196 R As hp = some q) : mjM (d + 1) 0 0 196 As hp (mjEq q) := by
  unfold F_196 at h
  split at h
  · exact c_196 hR h
  · exact mj_no h
noncomputable def F_197 (R : mjR) (As : List Value) (hp : mjH) : mjU := match As with
  | [.ref a0, .int a1] => f_197 R a0 a1 hp
  | _ => none
theorem Fk_197 {R : mjR} {d : Nat} (hR : mjC R d) {As : List Value} {hp : mjH} {q : Option Value × mjH} (h : F_197 R As hp = some q) : mjM (d + 1) 0 0 197 As hp (mjEq q) := by
  unfold F_197 at h
  split at h
  · exact c_197 hR h
  · exact mj_no h
noncomputable def F_198 (R : mjR) (As : List Value) (hp : mjH) : mjU := match As with
  | [.ref a0] => f_198 R a0 hp
  | _ => none
theorem Fk_198 {R : mjR} {d : Nat} (hR : mjC R d) {As : List Value} {hp : mjH} {q : Option Value × mjH} (h : F_198 R As hp = some q) : mjM (d + 1) 0 0 198 As hp (mjEq q) := by
  unfold F_198 at h
  split at h
  · exact c_198 hR h
  · exact mj_no h
noncomputable def F_199 (R : mjR) (As : List Value) (hp : mjH) : mjU := match As with
  | [.ref a0, .int a1] => f_199 R a0 a1 hp
  | _ => none
theorem Fk_199 {R : mjR} {d : Nat} (hR : mjC R d) {As : List Value} {hp : mjH} {q : Option Value × mjH} (h : F_199 R As hp = some q) : mjM (d + 1) 0 0 199 As hp (mjEq q) := by
  unfold F_199 at h
  split at h
  · exact c_199 hR h
  · exact mj_no h
noncomputable def F_200 (R : mjR) (As : List Value) (hp : mjH) : mjU := match As with
  | [.ref a0, .int a1, .int a2] => f_200 R a0 a1 a2 hp
  | _ => none
theorem Fk_200 {R : mjR} {d : Nat} (hR : mjC R d) {As : List Value} {hp : mjH} {q : Option Value × mjH} (h : F_200 R As hp = some q) : mjM (d + 1) 0 0 200 As hp (mjEq q) := by
  unfold F_200 at h
  split at h
  · exact c_200 hR h
  · exact mj_no h
noncomputable def F_202 (R : mjR) (As : List Value) (hp : mjH) : mjU := match As with
  | [.ref a0, .int a1, .int a2, .int a3, .int a4, .int a5] => f_202 R a0 a1 a2 a3 a4 a5 hp
  | _ => none
theorem Fk_202 {R : mjR} {d : Nat} (hR : mjC R d) {As : List Value} {hp : mjH} {q : Option Value × mjH} (h : F_202 R As hp = some q) : mjM (d + 1) 0 0 202 As hp (mjEq q) := by
  unfold F_202 at h
  split at h
  · exact c_202 hR h
  · exact mj_no h
noncomputable def F_203 (R : mjR) (As : List Value) (hp : mjH) : mjU := match As with
  | [.ref a0, .int a1] => f_203 R a0 a1 hp
  | _ => none
theorem Fk_203 {R : mjR} {d : Nat} (hR : mjC R d) {As : List Value} {hp : mjH} {q : Option Value × mjH} (h : F_203 R As hp = some q) : mjM (d + 1) 0 0 203 As hp (mjEq q) := by
  unfold F_203 at h
  split at h
  · exact c_203 hR h
  · exact mj_no h
noncomputable def F_204 (R : mjR) (As : List Value) (hp : mjH) : mjU := match As with
  | [.ref a0, .int a1, .int a2] => f_204 R a0 a1 a2 hp
  | _ => none
theorem Fk_204 {R : mjR} {d : Nat} (hR : mjC R d) {As : List Value} {hp : mjH} {q : Option Value × mjH} (h : F_204 R As hp = some q) : mjM (d + 1) 0 0 204 As hp (mjEq q) := by
  unfold F_204 at h
  split at h
  · exact c_204 hR h
  · exact mj_no h
noncomputable def F_205 (R : mjR) (As : List Value) (hp : mjH) : mjU := match As with
  | [.ref a0] => f_205 R a0 hp
  | _ => none
theorem Fk_205 {R : mjR} {d : Nat} (hR : mjC R d) {As : List Value} {hp : mjH} {q : Option Value × mjH} (h : F_205 R As hp = some q) : mjM (d + 1) 0 0 205 As hp (mjEq q) := by
  unfold F_205 at h
  split at h
  · exact c_205 hR h
  · exact mj_no h
noncomputable def F_206 (R : mjR) (As : List Value) (hp : mjH) : mjU := match As with
  | [.ref a0, .int a1] => f_206 R a0 a1 hp
  | _ => none
theorem Fk_206 {R : mjR} {d : Nat} (hR : mjC R d) {As : List Value} {hp : mjH} {q : Option Value × mjH} (h : F_206 R As hp = some q) : mjM (d + 1) 0 0 206 As hp (mjEq q) := by
  unfold F_206 at h
  split at h
  · exact c_206 hR h
  · exact mj_no h
noncomputable def F_207 (R : mjR) (As : List Value) (hp : mjH) : mjU := match As with
  | [.ref a0, .int a1, .int a2] => f_207 R a0 a1 a2 hp
  | _ => none
theorem Fk_207 {R : mjR} {d : Nat} (hR : mjC R d) {As : List Value} {hp : mjH} {q : Option Value × mjH} (h : F_207 R As hp = some q) : mjM (d + 1) 0 0 207 As hp (mjEq q) := by
  unfold F_207 at h
  split at h
  · exact c_207 hR h
  · exact mj_no h
noncomputable def F_208 (R : mjR) (As : List Value) (hp : mjH) : mjU := match As with
  | [.ref a0, .int a1, .int a2, .int a3] => f_208 R a0 a1 a2 a3 hp
  | _ => none
theorem Fk_208 {R : mjR} {d : Nat} (hR : mjC R d) {As : List Value} {hp : mjH} {q : Option Value × mjH} (h : F_208 R As hp = some q) : mjM (d + 1) 0 0 208 As hp (mjEq q) := by
  unfold F_208 at h
  split at h
  · exact c_208 hR h
  · exact mj_no h
noncomputable def F_209 (R : mjR) (As : List Value) (hp : mjH) : mjU := match As with
  | [.ref a0, .int a1, .int a2] => f_209 R a0 a1 a2 hp
  | _ => none
theorem Fk_209 {R : mjR} {d : Nat} (hR : mjC R d) {As : List Value} {hp : mjH} {q : Option Value × mjH} (h : F_209 R As hp = some q) : mjM (d + 1) 0 0 209 As hp (mjEq q) := by
  unfold F_209 at h
  split at h
  · exact c_209 hR h
  · exact mj_no h
noncomputable def F_210 (R : mjR) (As : List Value) (hp : mjH) : mjU := match As with
  | [.ref a0, .int a1, .int a2] => f_210 R a0 a1 a2 hp
  | _ => none
theorem Fk_210 {R : mjR} {d : Nat} (hR : mjC R d) {As : List Value} {hp : mjH} {q : Option Value × mjH} (h : F_210 R As hp = some q) : mjM (d + 1) 0 0 210 As hp (mjEq q) := by
  unfold F_210 at h
  split at h
  · exact c_210 hR h
  · exact mj_no h
noncomputable def F_211 (R : mjR) (As : List Value) (hp : mjH) : mjU := match As with
  | [.ref a0, .int a1] => f_211 R a0 a1 hp
  | _ => none
theorem Fk_211 {R : mjR} {d : Nat} (hR : mjC R d) {As : List Value} {hp : mjH} {q : Option Value × mjH} (h : F_211 R As hp = some q) : mjM (d + 1) 0 0 211 As hp (mjEq q) := by
  unfold F_211 at h
  split at h
  · exact c_211 hR h
  · exact mj_no h
noncomputable def F_212 (R : mjR) (As : List Value) (hp : mjH) : mjU := match As with
  | [.ref a0, .int a1] => f_212 R a0 a1 hp
  | _ => none
theorem Fk_212 {R : mjR} {d : Nat} (hR : mjC R d) {As : List Value} {hp : mjH} {q : Option Value × mjH} (h : F_212 R As hp = some q) : mjM (d + 1) 0 0 212 As hp (mjEq q) := by
  unfold F_212 at h
  split at h
  · exact c_212 hR h
  · exact mj_no h
noncomputable def F_213 (R : mjR) (As : List Value) (hp : mjH) : mjU := match As with
  | [.ref a0, .int a1] => f_213 R a0 a1 hp
  | _ => none
theorem Fk_213 {R : mjR} {d : Nat} (hR : mjC R d) {As : List Value} {hp : mjH} {q : Option Value × mjH} (h : F_213 R As hp = some q) : mjM (d + 1) 0 0 213 As hp (mjEq q) := by
  unfold F_213 at h
  split at h
  · exact c_213 hR h
  · exact mj_no h
noncomputable def F_214 (R : mjR) (As : List Value) (hp : mjH) : mjU := match As with
  | [.ref a0, .int a1, .int a2] => f_214 R a0 a1 a2 hp
  | _ => none
theorem Fk_214 {R : mjR} {d : Nat} (hR : mjC R d) {As : List Value} {hp : mjH} {q : Option Value × mjH} (h : F_214 R As hp = some q) : mjM (d + 1) 0 0 214 As hp (mjEq q) := by
  unfold F_214 at h
  split at h
  · exact c_214 hR h
  · exact mj_no h
noncomputable def F_215 (R : mjR) (As : List Value) (hp : mjH) : mjU := match As with
  | [.ref a0, .int a1, .int a2] => f_215 R a0 a1 a2 hp
  | _ => none
theorem Fk_215 {R : mjR} {d : Nat} (hR : mjC R d) {As : List Value} {hp : mjH} {q : Option Value × mjH} (h : F_215 R As hp = some q) : mjM (d + 1) 0 0 215 As hp (mjEq q) := by
  unfold F_215 at h
  split at h
  · exact c_215 hR h
  · exact mj_no h
noncomputable def F_216 (R : mjR) (As : List Value) (hp : mjH) : mjU := match As with
  | [.ref a0, .int a1, .int a2] => f_216 R a0 a1 a2 hp
  | _ => none
theorem Fk_216 {R : mjR} {d : Nat} (hR : mjC R d) {As : List Value} {hp : mjH} {q : Option Value × mjH} (h : F_216 R As hp = some q) : mjM (d + 1) 0 0 216 As hp (mjEq q) := by
  unfold F_216 at h
  split at h
  · exact c_216 hR h
  · exact mj_no h
noncomputable def F_217 (R : mjR) (As : List Value) (hp : mjH) : mjU := match As with
  | [.ref a0, .int a1, .int a2] => f_217 R a0 a1 a2 hp
  | _ => none
theorem Fk_217 {R : mjR} {d : Nat} (hR : mjC R d) {As : List Value} {hp : mjH} {q : Option Value × mjH} (h : F_217 R As hp = some q) : mjM (d + 1) 0 0 217 As hp (mjEq q) := by
  unfold F_217 at h
  split at h
  · exact c_217 hR h
  · exact mj_no h
noncomputable def F_218 (R : mjR) (As : List Value) (hp : mjH) : mjU := match As with
  | [.ref a0, .int a1, .int a2] => f_218 R a0 a1 a2 hp
  | _ => none
theorem Fk_218 {R : mjR} {d : Nat} (hR : mjC R d) {As : List Value} {hp : mjH} {q : Option Value × mjH} (h : F_218 R As hp = some q) : mjM (d + 1) 0 0 218 As hp (mjEq q) := by
  unfold F_218 at h
  split at h
  · exact c_218 hR h
  · exact mj_no h
noncomputable def F_219 (R : mjR) (As : List Value) (hp : mjH) : mjU := match As with
  | [.ref a0, .int a1, .int a2] => f_219 R a0 a1 a2 hp
  | _ => none
theorem Fk_219 {R : mjR} {d : Nat} (hR : mjC R d) {As : List Value} {hp : mjH} {q : Option Value × mjH} (h : F_219 R As hp = some q) : mjM (d + 1) 0 0 219 As hp (mjEq q) := by
  unfold F_219 at h
  split at h
  · exact c_219 hR h
  · exact mj_no h
noncomputable def F_220 (R : mjR) (As : List Value) (hp : mjH) : mjU := match As with
  | [.ref a0, .int a1, .int a2] => f_220 R a0 a1 a2 hp
  | _ => none
theorem Fk_220 {R : mjR} {d : Nat} (hR : mjC R d) {As : List Value} {hp : mjH} {q : Option Value × mjH} (h : F_220 R As hp = some q) : mjM (d + 1) 0 0 220 As hp (mjEq q) := by
  unfold F_220 at h
  split at h
  · exact c_220 hR h
  · exact mj_no h
noncomputable def F_221 (R : mjR) (As : List Value) (hp : mjH) : mjU := match As with
  | [.ref a0, .int a1] => f_221 R a0 a1 hp
  | _ => none
theorem Fk_221 {R : mjR} {d : Nat} (hR : mjC R d) {As : List Value} {hp : mjH} {q : Option Value × mjH} (h : F_221 R As hp = some q) : mjM (d + 1) 0 0 221 As hp (mjEq q) := by
  unfold F_221 at h
  split at h
  · exact c_221 hR h
  · exact mj_no h
noncomputable def F_222 (R : mjR) (As : List Value) (hp : mjH) : mjU := match As with
  | [.ref a0] => f_222 R a0 hp
  | _ => none
theorem Fk_222 {R : mjR} {d : Nat} (hR : mjC R d) {As : List Value} {hp : mjH} {q : Option Value × mjH} (h : F_222 R As hp = some q) : mjM (d + 1) 0 0 222 As hp (mjEq q) := by
  unfold F_222 at h
  split at h
  · exact c_222 hR h
  · exact mj_no h
noncomputable def F_223 (R : mjR) (As : List Value) (hp : mjH) : mjU := match As with
  | [.ref a0, .int a1] => f_223 R a0 a1 hp
  | _ => none
theorem Fk_223 {R : mjR} {d : Nat} (hR : mjC R d) {As : List Value} {hp : mjH} {q : Option Value × mjH} (h : F_223 R As hp = some q) : mjM (d + 1) 0 0 223 As hp (mjEq q) := by
  unfold F_223 at h
  split at h
  · exact c_223 hR h
  · exact mj_no h
noncomputable def F_224 (R : mjR) (As : List Value) (hp : mjH) : mjU := match As with
  | [.ref a0, .int a1, .int a2] => f_224 R a0 a1 a2 hp
  | _ => none
theorem Fk_224 {R : mjR} {d : Nat} (hR : mjC R d) {As : List Value} {hp : mjH} {q : Option Value × mjH} (h : F_224 R As hp = some q) : mjM (d + 1) 0 0 224 As hp (mjEq q) := by
  unfold F_224 at h
  split at h
  · exact c_224 hR h
  · exact mj_no h
noncomputable def F_226 (R : mjR) (As : List Value) (hp : mjH) : mjU := match As with
  | [.ref a0, .int a1, .int a2, .int a3, .int a4, .int a5, .int a6, .int a7] => f_226 R a0 a1 a2 a3 a4 a5 a6 a7 hp
  | _ => none
theorem Fk_226 {R : mjR} {d : Nat} (hR : mjC R d) {As : List Value} {hp : mjH} {q : Option Value × mjH} (h : F_226 R As hp = some q) : mjM (d + 1) 0 0 226 As hp (mjEq q) := by
  unfold F_226 at h
  split at h
  · exact c_226 hR h
  · exact mj_no h
noncomputable def F_227 (R : mjR) (As : List Value) (hp : mjH) : mjU := match As with
  | [.long a0, .int a1] => f_227 R a0 a1 hp
  | _ => none
theorem Fk_227 {R : mjR} {d : Nat} (hR : mjC R d) {As : List Value} {hp : mjH} {q : Option Value × mjH} (h : F_227 R As hp = some q) : mjM (d + 1) 0 0 227 As hp (mjEq q) := by
  unfold F_227 at h
  split at h
  · exact c_227 hR h
  · exact mj_no h
noncomputable def F_228 (R : mjR) (As : List Value) (hp : mjH) : mjU := match As with
  | [.int a0] => f_228 R a0 hp
  | _ => none
theorem Fk_228 {R : mjR} {d : Nat} (hR : mjC R d) {As : List Value} {hp : mjH} {q : Option Value × mjH} (h : F_228 R As hp = some q) : mjM (d + 1) 0 0 228 As hp (mjEq q) := by
  unfold F_228 at h
  split at h
  · exact c_228 hR h
  · exact mj_no h
noncomputable def F_229 (R : mjR) (As : List Value) (hp : mjH) : mjU := match As with
  | [.ref a0, .int a1] => f_229 R a0 a1 hp
  | _ => none
theorem Fk_229 {R : mjR} {d : Nat} (hR : mjC R d) {As : List Value} {hp : mjH} {q : Option Value × mjH} (h : F_229 R As hp = some q) : mjM (d + 1) 0 0 229 As hp (mjEq q) := by
  unfold F_229 at h
  split at h
  · exact c_229 hR h
  · exact mj_no h
noncomputable def F_230 (R : mjR) (As : List Value) (hp : mjH) : mjU := match As with
  | [.int a0] => f_230 R a0 hp
  | _ => none
theorem Fk_230 {R : mjR} {d : Nat} (hR : mjC R d) {As : List Value} {hp : mjH} {q : Option Value × mjH} (h : F_230 R As hp = some q) : mjM (d + 1) 0 0 230 As hp (mjEq q) := by
  unfold F_230 at h
  split at h
  · exact c_230 hR h
  · exact mj_no h
noncomputable def F_231 (R : mjR) (As : List Value) (hp : mjH) : mjU := match As with
  | [.ref a0, .int a1] => f_231 R a0 a1 hp
  | _ => none
theorem Fk_231 {R : mjR} {d : Nat} (hR : mjC R d) {As : List Value} {hp : mjH} {q : Option Value × mjH} (h : F_231 R As hp = some q) : mjM (d + 1) 0 0 231 As hp (mjEq q) := by
  unfold F_231 at h
  split at h
  · exact c_231 hR h
  · exact mj_no h
noncomputable def F_232 (R : mjR) (As : List Value) (hp : mjH) : mjU := match As with
  | [.ref a0, .int a1] => f_232 R a0 a1 hp
  | _ => none
theorem Fk_232 {R : mjR} {d : Nat} (hR : mjC R d) {As : List Value} {hp : mjH} {q : Option Value × mjH} (h : F_232 R As hp = some q) : mjM (d + 1) 0 0 232 As hp (mjEq q) := by
  unfold F_232 at h
  split at h
  · exact c_232 hR h
  · exact mj_no h
noncomputable def F_233 (R : mjR) (As : List Value) (hp : mjH) : mjU := match As with
  | [.ref a0, .int a1] => f_233 R a0 a1 hp
  | _ => none
theorem Fk_233 {R : mjR} {d : Nat} (hR : mjC R d) {As : List Value} {hp : mjH} {q : Option Value × mjH} (h : F_233 R As hp = some q) : mjM (d + 1) 0 0 233 As hp (mjEq q) := by
  unfold F_233 at h
  split at h
  · exact c_233 hR h
  · exact mj_no h
noncomputable def F_234 (R : mjR) (As : List Value) (hp : mjH) : mjU := match As with
  | [.ref a0, .int a1, .int a2] => f_234 R a0 a1 a2 hp
  | _ => none
theorem Fk_234 {R : mjR} {d : Nat} (hR : mjC R d) {As : List Value} {hp : mjH} {q : Option Value × mjH} (h : F_234 R As hp = some q) : mjM (d + 1) 0 0 234 As hp (mjEq q) := by
  unfold F_234 at h
  split at h
  · exact c_234 hR h
  · exact mj_no h
noncomputable def F_235 (R : mjR) (As : List Value) (hp : mjH) : mjU := match As with
  | [.ref a0, .int a1] => f_235 R a0 a1 hp
  | _ => none
theorem Fk_235 {R : mjR} {d : Nat} (hR : mjC R d) {As : List Value} {hp : mjH} {q : Option Value × mjH} (h : F_235 R As hp = some q) : mjM (d + 1) 0 0 235 As hp (mjEq q) := by
  unfold F_235 at h
  split at h
  · exact c_235 hR h
  · exact mj_no h
noncomputable def F_236 (R : mjR) (As : List Value) (hp : mjH) : mjU := match As with
  | [.ref a0, .int a1, .int a2] => f_236 R a0 a1 a2 hp
  | _ => none
theorem Fk_236 {R : mjR} {d : Nat} (hR : mjC R d) {As : List Value} {hp : mjH} {q : Option Value × mjH} (h : F_236 R As hp = some q) : mjM (d + 1) 0 0 236 As hp (mjEq q) := by
  unfold F_236 at h
  split at h
  · exact c_236 hR h
  · exact mj_no h
noncomputable def F_237 (R : mjR) (As : List Value) (hp : mjH) : mjU := match As with
  | [.ref a0] => f_237 R a0 hp
  | _ => none
theorem Fk_237 {R : mjR} {d : Nat} (hR : mjC R d) {As : List Value} {hp : mjH} {q : Option Value × mjH} (h : F_237 R As hp = some q) : mjM (d + 1) 0 0 237 As hp (mjEq q) := by
  unfold F_237 at h
  split at h
  · exact c_237 hR h
  · exact mj_no h
noncomputable def F_238 (R : mjR) (As : List Value) (hp : mjH) : mjU := match As with
  | [.ref a0] => f_238 R a0 hp
  | _ => none
theorem Fk_238 {R : mjR} {d : Nat} (hR : mjC R d) {As : List Value} {hp : mjH} {q : Option Value × mjH} (h : F_238 R As hp = some q) : mjM (d + 1) 0 0 238 As hp (mjEq q) := by
  unfold F_238 at h
  split at h
  · exact c_238 hR h
  · exact mj_no h
noncomputable def F_239 (R : mjR) (As : List Value) (hp : mjH) : mjU := match As with
  | [.ref a0, .int a1] => f_239 R a0 a1 hp
  | _ => none
theorem Fk_239 {R : mjR} {d : Nat} (hR : mjC R d) {As : List Value} {hp : mjH} {q : Option Value × mjH} (h : F_239 R As hp = some q) : mjM (d + 1) 0 0 239 As hp (mjEq q) := by
  unfold F_239 at h
  split at h
  · exact c_239 hR h
  · exact mj_no h
noncomputable def F_240 (R : mjR) (As : List Value) (hp : mjH) : mjU := match As with
  | [.ref a0, .int a1] => f_240 R a0 a1 hp
  | _ => none
theorem Fk_240 {R : mjR} {d : Nat} (hR : mjC R d) {As : List Value} {hp : mjH} {q : Option Value × mjH} (h : F_240 R As hp = some q) : mjM (d + 1) 0 0 240 As hp (mjEq q) := by
  unfold F_240 at h
  split at h
  · exact c_240 hR h
  · exact mj_no h
noncomputable def F_241 (R : mjR) (As : List Value) (hp : mjH) : mjU := match As with
  | [.ref a0, .int a1, .long a2] => f_241 R a0 a1 a2 hp
  | _ => none
theorem Fk_241 {R : mjR} {d : Nat} (hR : mjC R d) {As : List Value} {hp : mjH} {q : Option Value × mjH} (h : F_241 R As hp = some q) : mjM (d + 1) 0 0 241 As hp (mjEq q) := by
  unfold F_241 at h
  split at h
  · exact c_241 hR h
  · exact mj_no h
noncomputable def F_242 (R : mjR) (As : List Value) (hp : mjH) : mjU := match As with
  | [.ref a0, .int a1] => f_242 R a0 a1 hp
  | _ => none
theorem Fk_242 {R : mjR} {d : Nat} (hR : mjC R d) {As : List Value} {hp : mjH} {q : Option Value × mjH} (h : F_242 R As hp = some q) : mjM (d + 1) 0 0 242 As hp (mjEq q) := by
  unfold F_242 at h
  split at h
  · exact c_242 hR h
  · exact mj_no h
noncomputable def F_243 (R : mjR) (As : List Value) (hp : mjH) : mjU := match As with
  | [.ref a0, .int a1, .int a2] => f_243 R a0 a1 a2 hp
  | _ => none
theorem Fk_243 {R : mjR} {d : Nat} (hR : mjC R d) {As : List Value} {hp : mjH} {q : Option Value × mjH} (h : F_243 R As hp = some q) : mjM (d + 1) 0 0 243 As hp (mjEq q) := by
  unfold F_243 at h
  split at h
  · exact c_243 hR h
  · exact mj_no h
noncomputable def F_244 (R : mjR) (As : List Value) (hp : mjH) : mjU := match As with
  | [.ref a0, .int a1] => f_244 R a0 a1 hp
  | _ => none
theorem Fk_244 {R : mjR} {d : Nat} (hR : mjC R d) {As : List Value} {hp : mjH} {q : Option Value × mjH} (h : F_244 R As hp = some q) : mjM (d + 1) 0 0 244 As hp (mjEq q) := by
  unfold F_244 at h
  split at h
  · exact c_244 hR h
  · exact mj_no h
noncomputable def F_245 (R : mjR) (As : List Value) (hp : mjH) : mjU := match As with
  | [.ref a0, .int a1, .int a2] => f_245 R a0 a1 a2 hp
  | _ => none
theorem Fk_245 {R : mjR} {d : Nat} (hR : mjC R d) {As : List Value} {hp : mjH} {q : Option Value × mjH} (h : F_245 R As hp = some q) : mjM (d + 1) 0 0 245 As hp (mjEq q) := by
  unfold F_245 at h
  split at h
  · exact c_245 hR h
  · exact mj_no h
noncomputable def F_246 (R : mjR) (As : List Value) (hp : mjH) : mjU := match As with
  | [.ref a0, .int a1] => f_246 R a0 a1 hp
  | _ => none
theorem Fk_246 {R : mjR} {d : Nat} (hR : mjC R d) {As : List Value} {hp : mjH} {q : Option Value × mjH} (h : F_246 R As hp = some q) : mjM (d + 1) 0 0 246 As hp (mjEq q) := by
  unfold F_246 at h
  split at h
  · exact c_246 hR h
  · exact mj_no h
noncomputable def F_247 (R : mjR) (As : List Value) (hp : mjH) : mjU := match As with
  | [.ref a0] => f_247 R a0 hp
  | _ => none
theorem Fk_247 {R : mjR} {d : Nat} (hR : mjC R d) {As : List Value} {hp : mjH} {q : Option Value × mjH} (h : F_247 R As hp = some q) : mjM (d + 1) 0 0 247 As hp (mjEq q) := by
  unfold F_247 at h
  split at h
  · exact c_247 hR h
  · exact mj_no h
noncomputable def F_248 (R : mjR) (As : List Value) (hp : mjH) : mjU := match As with
  | [.ref a0, .int a1, .int a2] => f_248 R a0 a1 a2 hp
  | _ => none
theorem Fk_248 {R : mjR} {d : Nat} (hR : mjC R d) {As : List Value} {hp : mjH} {q : Option Value × mjH} (h : F_248 R As hp = some q) : mjM (d + 1) 0 0 248 As hp (mjEq q) := by
  unfold F_248 at h
  split at h
  · exact c_248 hR h
  · exact mj_no h
noncomputable def F_249 (R : mjR) (As : List Value) (hp : mjH) : mjU := match As with
  | [.ref a0, .int a1] => f_249 R a0 a1 hp
  | _ => none
theorem Fk_249 {R : mjR} {d : Nat} (hR : mjC R d) {As : List Value} {hp : mjH} {q : Option Value × mjH} (h : F_249 R As hp = some q) : mjM (d + 1) 0 0 249 As hp (mjEq q) := by
  unfold F_249 at h
  split at h
  · exact c_249 hR h
  · exact mj_no h
noncomputable def F_250 (R : mjR) (As : List Value) (hp : mjH) : mjU := match As with
  | [.ref a0, .int a1] => f_250 R a0 a1 hp
  | _ => none
theorem Fk_250 {R : mjR} {d : Nat} (hR : mjC R d) {As : List Value} {hp : mjH} {q : Option Value × mjH} (h : F_250 R As hp = some q) : mjM (d + 1) 0 0 250 As hp (mjEq q) := by
  unfold F_250 at h
  split at h
  · exact c_250 hR h
  · exact mj_no h
noncomputable def F_251 (R : mjR) (As : List Value) (hp : mjH) : mjU := match As with
  | [.ref a0] => f_251 R a0 hp
  | _ => none
theorem Fk_251 {R : mjR} {d : Nat} (hR : mjC R d) {As : List Value} {hp : mjH} {q : Option Value × mjH} (h : F_251 R As hp = some q) : mjM (d + 1) 0 0 251 As hp (mjEq q) := by
  unfold F_251 at h
  split at h
  · exact c_251 hR h
  · exact mj_no h
noncomputable def F_252 (R : mjR) (As : List Value) (hp : mjH) : mjU := match As with
  | [.ref a0] => f_252 R a0 hp
  | _ => none
theorem Fk_252 {R : mjR} {d : Nat} (hR : mjC R d) {As : List Value} {hp : mjH} {q : Option Value × mjH} (h : F_252 R As hp = some q) : mjM (d + 1) 0 0 252 As hp (mjEq q) := by
  unfold F_252 at h
  split at h
  · exact c_252 hR h
  · exact mj_no h
noncomputable def F_253 (R : mjR) (As : List Value) (hp : mjH) : mjU := match As with
  | [.ref a0, .int a1] => f_253 R a0 a1 hp
  | _ => none
theorem Fk_253 {R : mjR} {d : Nat} (hR : mjC R d) {As : List Value} {hp : mjH} {q : Option Value × mjH} (h : F_253 R As hp = some q) : mjM (d + 1) 0 0 253 As hp (mjEq q) := by
  unfold F_253 at h
  split at h
  · exact c_253 hR h
  · exact mj_no h
noncomputable def F_254 (R : mjR) (As : List Value) (hp : mjH) : mjU := match As with
  | [.ref a0, .int a1] => f_254 R a0 a1 hp
  | _ => none
theorem Fk_254 {R : mjR} {d : Nat} (hR : mjC R d) {As : List Value} {hp : mjH} {q : Option Value × mjH} (h : F_254 R As hp = some q) : mjM (d + 1) 0 0 254 As hp (mjEq q) := by
  unfold F_254 at h
  split at h
  · exact c_254 hR h
  · exact mj_no h
noncomputable def F_255 (R : mjR) (As : List Value) (hp : mjH) : mjU := match As with
  | [.ref a0, .int a1] => f_255 R a0 a1 hp
  | _ => none
theorem Fk_255 {R : mjR} {d : Nat} (hR : mjC R d) {As : List Value} {hp : mjH} {q : Option Value × mjH} (h : F_255 R As hp = some q) : mjM (d + 1) 0 0 255 As hp (mjEq q) := by
  unfold F_255 at h
  split at h
  · exact c_255 hR h
  · exact mj_no h
noncomputable def F_256 (R : mjR) (As : List Value) (hp : mjH) : mjU := match As with
  | [.ref a0, .int a1, .int a2] => f_256 R a0 a1 a2 hp
  | _ => none
theorem Fk_256 {R : mjR} {d : Nat} (hR : mjC R d) {As : List Value} {hp : mjH} {q : Option Value × mjH} (h : F_256 R As hp = some q) : mjM (d + 1) 0 0 256 As hp (mjEq q) := by
  unfold F_256 at h
  split at h
  · exact c_256 hR h
  · exact mj_no h
noncomputable def F_257 (R : mjR) (As : List Value) (hp : mjH) : mjU := match As with
  | [.ref a0, .int a1] => f_257 R a0 a1 hp
  | _ => none
theorem Fk_257 {R : mjR} {d : Nat} (hR : mjC R d) {As : List Value} {hp : mjH} {q : Option Value × mjH} (h : F_257 R As hp = some q) : mjM (d + 1) 0 0 257 As hp (mjEq q) := by
  unfold F_257 at h
  split at h
  · exact c_257 hR h
  · exact mj_no h
noncomputable def F_258 (R : mjR) (As : List Value) (hp : mjH) : mjU := match As with
  | [.ref a0, .int a1, .int a2, .int a3, .int a4, .int a5] => f_258 R a0 a1 a2 a3 a4 a5 hp
  | _ => none
theorem Fk_258 {R : mjR} {d : Nat} (hR : mjC R d) {As : List Value} {hp : mjH} {q : Option Value × mjH} (h : F_258 R As hp = some q) : mjM (d + 1) 0 0 258 As hp (mjEq q) := by
  unfold F_258 at h
  split at h
  · exact c_258 hR h
  · exact mj_no h
noncomputable def F_259 (R : mjR) (As : List Value) (hp : mjH) : mjU := match As with
  | [.ref a0, .int a1] => f_259 R a0 a1 hp
  | _ => none
theorem Fk_259 {R : mjR} {d : Nat} (hR : mjC R d) {As : List Value} {hp : mjH} {q : Option Value × mjH} (h : F_259 R As hp = some q) : mjM (d + 1) 0 0 259 As hp (mjEq q) := by
  unfold F_259 at h
  split at h
  · exact c_259 hR h
  · exact mj_no h
noncomputable def F_260 (R : mjR) (As : List Value) (hp : mjH) : mjU := match As with
  | [.ref a0, .int a1, .int a2] => f_260 R a0 a1 a2 hp
  | _ => none
theorem Fk_260 {R : mjR} {d : Nat} (hR : mjC R d) {As : List Value} {hp : mjH} {q : Option Value × mjH} (h : F_260 R As hp = some q) : mjM (d + 1) 0 0 260 As hp (mjEq q) := by
  unfold F_260 at h
  split at h
  · exact c_260 hR h
  · exact mj_no h
noncomputable def F_261 (R : mjR) (As : List Value) (hp : mjH) : mjU := match As with
  | [.ref a0] => f_261 R a0 hp
  | _ => none
theorem Fk_261 {R : mjR} {d : Nat} (hR : mjC R d) {As : List Value} {hp : mjH} {q : Option Value × mjH} (h : F_261 R As hp = some q) : mjM (d + 1) 0 0 261 As hp (mjEq q) := by
  unfold F_261 at h
  split at h
  · exact c_261 hR h
  · exact mj_no h
noncomputable def F_262 (R : mjR) (As : List Value) (hp : mjH) : mjU := match As with
  | [.ref a0] => f_262 R a0 hp
  | _ => none
theorem Fk_262 {R : mjR} {d : Nat} (hR : mjC R d) {As : List Value} {hp : mjH} {q : Option Value × mjH} (h : F_262 R As hp = some q) : mjM (d + 1) 0 0 262 As hp (mjEq q) := by
  unfold F_262 at h
  split at h
  · exact c_262 hR h
  · exact mj_no h
noncomputable def F_263 (R : mjR) (As : List Value) (hp : mjH) : mjU := match As with
  | [.ref a0, .int a1] => f_263 R a0 a1 hp
  | _ => none
theorem Fk_263 {R : mjR} {d : Nat} (hR : mjC R d) {As : List Value} {hp : mjH} {q : Option Value × mjH} (h : F_263 R As hp = some q) : mjM (d + 1) 0 0 263 As hp (mjEq q) := by
  unfold F_263 at h
  split at h
  · exact c_263 hR h
  · exact mj_no h
noncomputable def F_264 (R : mjR) (As : List Value) (hp : mjH) : mjU := match As with
  | [.ref a0] => f_264 R a0 hp
  | _ => none
theorem Fk_264 {R : mjR} {d : Nat} (hR : mjC R d) {As : List Value} {hp : mjH} {q : Option Value × mjH} (h : F_264 R As hp = some q) : mjM (d + 1) 0 0 264 As hp (mjEq q) := by
  unfold F_264 at h
  split at h
  · exact c_264 hR h
  · exact mj_no h
noncomputable def F_265 (R : mjR) (As : List Value) (hp : mjH) : mjU := match As with
  | [.ref a0, .int a1] => f_265 R a0 a1 hp
  | _ => none
theorem Fk_265 {R : mjR} {d : Nat} (hR : mjC R d) {As : List Value} {hp : mjH} {q : Option Value × mjH} (h : F_265 R As hp = some q) : mjM (d + 1) 0 0 265 As hp (mjEq q) := by
  unfold F_265 at h
  split at h
  · exact c_265 hR h
  · exact mj_no h
noncomputable def F_266 (R : mjR) (As : List Value) (hp : mjH) : mjU := match As with
  | [.ref a0, .int a1] => f_266 R a0 a1 hp
  | _ => none
theorem Fk_266 {R : mjR} {d : Nat} (hR : mjC R d) {As : List Value} {hp : mjH} {q : Option Value × mjH} (h : F_266 R As hp = some q) : mjM (d + 1) 0 0 266 As hp (mjEq q) := by
  unfold F_266 at h
  split at h
  · exact c_266 hR h
  · exact mj_no h
noncomputable def F_267 (R : mjR) (As : List Value) (hp : mjH) : mjU := match As with
  | [.ref a0] => f_267 R a0 hp
  | _ => none
theorem Fk_267 {R : mjR} {d : Nat} (hR : mjC R d) {As : List Value} {hp : mjH} {q : Option Value × mjH} (h : F_267 R As hp = some q) : mjM (d + 1) 0 0 267 As hp (mjEq q) := by
  unfold F_267 at h
  split at h
  · exact c_267 hR h
  · exact mj_no h
noncomputable def F_268 (R : mjR) (As : List Value) (hp : mjH) : mjU := match As with
  | [.ref a0, .int a1, .int a2] => f_268 R a0 a1 a2 hp
  | _ => none
theorem Fk_268 {R : mjR} {d : Nat} (hR : mjC R d) {As : List Value} {hp : mjH} {q : Option Value × mjH} (h : F_268 R As hp = some q) : mjM (d + 1) 0 0 268 As hp (mjEq q) := by
  unfold F_268 at h
  split at h
  · exact c_268 hR h
  · exact mj_no h
noncomputable def F_269 (R : mjR) (As : List Value) (hp : mjH) : mjU := match As with
  | [.ref a0] => f_269 R a0 hp
  | _ => none
theorem Fk_269 {R : mjR} {d : Nat} (hR : mjC R d) {As : List Value} {hp : mjH} {q : Option Value × mjH} (h : F_269 R As hp = some q) : mjM (d + 1) 0 0 269 As hp (mjEq q) := by
  unfold F_269 at h
  split at h
  · exact c_269 hR h
  · exact mj_no h
noncomputable def F_270 (R : mjR) (As : List Value) (hp : mjH) : mjU := match As with
  | [.ref a0, .int a1] => f_270 R a0 a1 hp
  | _ => none
theorem Fk_270 {R : mjR} {d : Nat} (hR : mjC R d) {As : List Value} {hp : mjH} {q : Option Value × mjH} (h : F_270 R As hp = some q) : mjM (d + 1) 0 0 270 As hp (mjEq q) := by
  unfold F_270 at h
  split at h
  · exact c_270 hR h
  · exact mj_no h
noncomputable def F_271 (R : mjR) (As : List Value) (hp : mjH) : mjU := match As with
  | [.ref a0, .int a1] => f_271 R a0 a1 hp
  | _ => none
theorem Fk_271 {R : mjR} {d : Nat} (hR : mjC R d) {As : List Value} {hp : mjH} {q : Option Value × mjH} (h : F_271 R As hp = some q) : mjM (d + 1) 0 0 271 As hp (mjEq q) := by
  unfold F_271 at h
  split at h
  · exact c_271 hR h
  · exact mj_no h
noncomputable def F_272 (R : mjR) (As : List Value) (hp : mjH) : mjU := match As with
  | [.ref a0] => f_272 R a0 hp
  | _ => none
theorem Fk_272 {R : mjR} {d : Nat} (hR : mjC R d) {As : List Value} {hp : mjH} {q : Option Value × mjH} (h : F_272 R As hp = some q) : mjM (d + 1) 0 0 272 As hp (mjEq q) := by
  unfold F_272 at h
  split at h
  · exact c_272 hR h
  · exact mj_no h
noncomputable def F_273 (R : mjR) (As : List Value) (hp : mjH) : mjU := match As with
  | [.ref a0, .int a1] => f_273 R a0 a1 hp
  | _ => none
theorem Fk_273 {R : mjR} {d : Nat} (hR : mjC R d) {As : List Value} {hp : mjH} {q : Option Value × mjH} (h : F_273 R As hp = some q) : mjM (d + 1) 0 0 273 As hp (mjEq q) := by
  unfold F_273 at h
  split at h
  · exact c_273 hR h
  · exact mj_no h
noncomputable def F_274 (R : mjR) (As : List Value) (hp : mjH) : mjU := match As with
  | [.ref a0, .int a1] => f_274 R a0 a1 hp
  | _ => none
theorem Fk_274 {R : mjR} {d : Nat} (hR : mjC R d) {As : List Value} {hp : mjH} {q : Option Value × mjH} (h : F_274 R As hp = some q) : mjM (d + 1) 0 0 274 As hp (mjEq q) := by
  unfold F_274 at h
  split at h
  · exact c_274 hR h
  · exact mj_no h
noncomputable def F_275 (R : mjR) (As : List Value) (hp : mjH) : mjU := match As with
  | [.ref a0, .int a1] => f_275 R a0 a1 hp
  | _ => none
theorem Fk_275 {R : mjR} {d : Nat} (hR : mjC R d) {As : List Value} {hp : mjH} {q : Option Value × mjH} (h : F_275 R As hp = some q) : mjM (d + 1) 0 0 275 As hp (mjEq q) := by
  unfold F_275 at h
  split at h
  · exact c_275 hR h
  · exact mj_no h
noncomputable def F_276 (R : mjR) (As : List Value) (hp : mjH) : mjU := match As with
  | [.ref a0] => f_276 R a0 hp
  | _ => none
theorem Fk_276 {R : mjR} {d : Nat} (hR : mjC R d) {As : List Value} {hp : mjH} {q : Option Value × mjH} (h : F_276 R As hp = some q) : mjM (d + 1) 0 0 276 As hp (mjEq q) := by
  unfold F_276 at h
  split at h
  · exact c_276 hR h
  · exact mj_no h
noncomputable def F_277 (R : mjR) (As : List Value) (hp : mjH) : mjU := match As with
  | [.ref a0] => f_277 R a0 hp
  | _ => none
theorem Fk_277 {R : mjR} {d : Nat} (hR : mjC R d) {As : List Value} {hp : mjH} {q : Option Value × mjH} (h : F_277 R As hp = some q) : mjM (d + 1) 0 0 277 As hp (mjEq q) := by
  unfold F_277 at h
  split at h
  · exact c_277 hR h
  · exact mj_no h
noncomputable def F_278 (R : mjR) (As : List Value) (hp : mjH) : mjU := match As with
  | [.ref a0, .int a1] => f_278 R a0 a1 hp
  | _ => none
theorem Fk_278 {R : mjR} {d : Nat} (hR : mjC R d) {As : List Value} {hp : mjH} {q : Option Value × mjH} (h : F_278 R As hp = some q) : mjM (d + 1) 0 0 278 As hp (mjEq q) := by
  unfold F_278 at h
  split at h
  · exact c_278 hR h
  · exact mj_no h
noncomputable def F_279 (R : mjR) (As : List Value) (hp : mjH) : mjU := match As with
  | [.ref a0] => f_279 R a0 hp
  | _ => none
theorem Fk_279 {R : mjR} {d : Nat} (hR : mjC R d) {As : List Value} {hp : mjH} {q : Option Value × mjH} (h : F_279 R As hp = some q) : mjM (d + 1) 0 0 279 As hp (mjEq q) := by
  unfold F_279 at h
  split at h
  · exact c_279 hR h
  · exact mj_no h
noncomputable def F_280 (R : mjR) (As : List Value) (hp : mjH) : mjU := match As with
  | [.ref a0, .int a1, .int a2, .int a3] => f_280 R a0 a1 a2 a3 hp
  | _ => none
theorem Fk_280 {R : mjR} {d : Nat} (hR : mjC R d) {As : List Value} {hp : mjH} {q : Option Value × mjH} (h : F_280 R As hp = some q) : mjM (d + 1) 0 0 280 As hp (mjEq q) := by
  unfold F_280 at h
  split at h
  · exact c_280 hR h
  · exact mj_no h
noncomputable def F_281 (R : mjR) (As : List Value) (hp : mjH) : mjU := match As with
  | [.ref a0, .int a1, .int a2, .int a3, .int a4] => f_281 R a0 a1 a2 a3 a4 hp
  | _ => none
theorem Fk_281 {R : mjR} {d : Nat} (hR : mjC R d) {As : List Value} {hp : mjH} {q : Option Value × mjH} (h : F_281 R As hp = some q) : mjM (d + 1) 0 0 281 As hp (mjEq q) := by
  unfold F_281 at h
  split at h
  · exact c_281 hR h
  · exact mj_no h
noncomputable def F_282 (R : mjR) (As : List Value) (hp : mjH) : mjU := match As with
  | [.ref a0] => f_282 R a0 hp
  | _ => none
theorem Fk_282 {R : mjR} {d : Nat} (hR : mjC R d) {As : List Value} {hp : mjH} {q : Option Value × mjH} (h : F_282 R As hp = some q) : mjM (d + 1) 0 0 282 As hp (mjEq q) := by
  unfold F_282 at h
  split at h
  · exact c_282 hR h
  · exact mj_no h
noncomputable def F_283 (R : mjR) (As : List Value) (hp : mjH) : mjU := match As with
  | [.ref a0, .int a1] => f_283 R a0 a1 hp
  | _ => none
theorem Fk_283 {R : mjR} {d : Nat} (hR : mjC R d) {As : List Value} {hp : mjH} {q : Option Value × mjH} (h : F_283 R As hp = some q) : mjM (d + 1) 0 0 283 As hp (mjEq q) := by
  unfold F_283 at h
  split at h
  · exact c_283 hR h
  · exact mj_no h
noncomputable def F_284 (R : mjR) (As : List Value) (hp : mjH) : mjU := match As with
  | [.ref a0] => f_284 R a0 hp
  | _ => none
theorem Fk_284 {R : mjR} {d : Nat} (hR : mjC R d) {As : List Value} {hp : mjH} {q : Option Value × mjH} (h : F_284 R As hp = some q) : mjM (d + 1) 0 0 284 As hp (mjEq q) := by
  unfold F_284 at h
  split at h
  · exact c_284 hR h
  · exact mj_no h
noncomputable def F_285 (R : mjR) (As : List Value) (hp : mjH) : mjU := match As with
  | [.ref a0, .int a1] => f_285 R a0 a1 hp
  | _ => none
theorem Fk_285 {R : mjR} {d : Nat} (hR : mjC R d) {As : List Value} {hp : mjH} {q : Option Value × mjH} (h : F_285 R As hp = some q) : mjM (d + 1) 0 0 285 As hp (mjEq q) := by
  unfold F_285 at h
  split at h
  · exact c_285 hR h
  · exact mj_no h
noncomputable def F_286 (R : mjR) (As : List Value) (hp : mjH) : mjU := match As with
  | [.ref a0, .int a1, .int a2, .long a3, .int a4] => f_286 R a0 a1 a2 a3 a4 hp
  | _ => none
theorem Fk_286 {R : mjR} {d : Nat} (hR : mjC R d) {As : List Value} {hp : mjH} {q : Option Value × mjH} (h : F_286 R As hp = some q) : mjM (d + 1) 0 0 286 As hp (mjEq q) := by
  unfold F_286 at h
  split at h
  · exact c_286 hR h
  · exact mj_no h
noncomputable def F_287 (R : mjR) (As : List Value) (hp : mjH) : mjU := match As with
  | [.ref a0] => f_287 R a0 hp
  | _ => none
theorem Fk_287 {R : mjR} {d : Nat} (hR : mjC R d) {As : List Value} {hp : mjH} {q : Option Value × mjH} (h : F_287 R As hp = some q) : mjM (d + 1) 0 0 287 As hp (mjEq q) := by
  unfold F_287 at h
  split at h
  · exact c_287 hR h
  · exact mj_no h
noncomputable def F_288 (R : mjR) (As : List Value) (hp : mjH) : mjU := match As with
  | [.ref a0, .int a1, .int a2, .int a3, .int a4] => f_288 R a0 a1 a2 a3 a4 hp
  | _ => none
theorem Fk_288 {R : mjR} {d : Nat} (hR : mjC R d) {As : List Value} {hp : mjH} {q : Option Value × mjH} (h : F_288 R As hp = some q) : mjM (d + 1) 0 0 288 As hp (mjEq q) := by
  unfold F_288 at h
  split at h
  · exact c_288 hR h
  · exact mj_no h
noncomputable def F_289 (R : mjR) (As : List Value) (hp : mjH) : mjU := match As with
  | [.ref a0] => f_289 R a0 hp
  | _ => none
theorem Fk_289 {R : mjR} {d : Nat} (hR : mjC R d) {As : List Value} {hp : mjH} {q : Option Value × mjH} (h : F_289 R As hp = some q) : mjM (d + 1) 0 0 289 As hp (mjEq q) := by
  unfold F_289 at h
  split at h
  · exact c_289 hR h
  · exact mj_no h
noncomputable def F_290 (R : mjR) (As : List Value) (hp : mjH) : mjU := match As with
  | [.ref a0] => f_290 R a0 hp
  | _ => none
theorem Fk_290 {R : mjR} {d : Nat} (hR : mjC R d) {As : List Value} {hp : mjH} {q : Option Value × mjH} (h : F_290 R As hp = some q) : mjM (d + 1) 0 0 290 As hp (mjEq q) := by
  unfold F_290 at h
  split at h
  · exact c_290 hR h
  · exact mj_no h
noncomputable def F_291 (R : mjR) (As : List Value) (hp : mjH) : mjU := match As with
  | [.ref a0] => f_291 R a0 hp
  | _ => none
theorem Fk_291 {R : mjR} {d : Nat} (hR : mjC R d) {As : List Value} {hp : mjH} {q : Option Value × mjH} (h : F_291 R As hp = some q) : mjM (d + 1) 0 0 291 As hp (mjEq q) := by
  unfold F_291 at h
  split at h
  · exact c_291 hR h
  · exact mj_no h
noncomputable def F_292 (R : mjR) (As : List Value) (hp : mjH) : mjU := match As with
  | [.ref a0] => f_292 R a0 hp
  | _ => none
theorem Fk_292 {R : mjR} {d : Nat} (hR : mjC R d) {As : List Value} {hp : mjH} {q : Option Value × mjH} (h : F_292 R As hp = some q) : mjM (d + 1) 0 0 292 As hp (mjEq q) := by
  unfold F_292 at h
  split at h
  · exact c_292 hR h
  · exact mj_no h
noncomputable def F_293 (R : mjR) (As : List Value) (hp : mjH) : mjU := match As with
  | [.ref a0, .int a1] => f_293 R a0 a1 hp
  | _ => none
theorem Fk_293 {R : mjR} {d : Nat} (hR : mjC R d) {As : List Value} {hp : mjH} {q : Option Value × mjH} (h : F_293 R As hp = some q) : mjM (d + 1) 0 0 293 As hp (mjEq q) := by
  unfold F_293 at h
  split at h
  · exact c_293 hR h
  · exact mj_no h
noncomputable def F_294 (R : mjR) (As : List Value) (hp : mjH) : mjU := match As with
  | [.ref a0, .int a1] => f_294 R a0 a1 hp
  | _ => none
theorem Fk_294 {R : mjR} {d : Nat} (hR : mjC R d) {As : List Value} {hp : mjH} {q : Option Value × mjH} (h : F_294 R As hp = some q) : mjM (d + 1) 0 0 294 As hp (mjEq q) := by
  unfold F_294 at h
  split at h
  · exact c_294 hR h
  · exact mj_no h
noncomputable def F_295 (R : mjR) (As : List Value) (hp : mjH) : mjU := match As with
  | [.ref a0] => f_295 R a0 hp
  | _ => none
theorem Fk_295 {R : mjR} {d : Nat} (hR : mjC R d) {As : List Value} {hp : mjH} {q : Option Value × mjH} (h : F_295 R As hp = some q) : mjM (d + 1) 0 0 295 As hp (mjEq q) := by
  unfold F_295 at h
  split at h
  · exact c_295 hR h
  · exact mj_no h
noncomputable def F_296 (R : mjR) (As : List Value) (hp : mjH) : mjU := match As with
  | [.int a0] => f_296 R a0 hp
  | _ => none
theorem Fk_296 {R : mjR} {d : Nat} (hR : mjC R d) {As : List Value} {hp : mjH} {q : Option Value × mjH} (h : F_296 R As hp = some q) : mjM (d + 1) 0 0 296 As hp (mjEq q) := by
  unfold F_296 at h
  split at h
  · exact c_296 hR h
  · exact mj_no h
noncomputable def F_297 (R : mjR) (As : List Value) (hp : mjH) : mjU := match As with
  | [.ref a0] => f_297 R a0 hp
  | _ => none
theorem Fk_297 {R : mjR} {d : Nat} (hR : mjC R d) {As : List Value} {hp : mjH} {q : Option Value × mjH} (h : F_297 R As hp = some q) : mjM (d + 1) 0 0 297 As hp (mjEq q) := by
  unfold F_297 at h
  split at h
  · exact c_297 hR h
  · exact mj_no h
noncomputable def F_298 (R : mjR) (As : List Value) (hp : mjH) : mjU := match As with
  | [.ref a0, .int a1] => f_298 R a0 a1 hp
  | _ => none
theorem Fk_298 {R : mjR} {d : Nat} (hR : mjC R d) {As : List Value} {hp : mjH} {q : Option Value × mjH} (h : F_298 R As hp = some q) : mjM (d + 1) 0 0 298 As hp (mjEq q) := by
  unfold F_298 at h
  split at h
  · exact c_298 hR h
  · exact mj_no h
noncomputable def F_299 (R : mjR) (As : List Value) (hp : mjH) : mjU := match As with
  | [.ref a0] => f_299 R a0 hp
  | _ => none
theorem Fk_299 {R : mjR} {d : Nat} (hR : mjC R d) {As : List Value} {hp : mjH} {q : Option Value × mjH} (h : F_299 R As hp = some q) : mjM (d + 1) 0 0 299 As hp (mjEq q) := by
  unfold F_299 at h
  split at h
  · exact c_299 hR h
  · exact mj_no h
noncomputable def F_300 (R : mjR) (As : List Value) (hp : mjH) : mjU := match As with
  | [.ref a0, .int a1, .int a2] => f_300 R a0 a1 a2 hp
  | _ => none
theorem Fk_300 {R : mjR} {d : Nat} (hR : mjC R d) {As : List Value} {hp : mjH} {q : Option Value × mjH} (h : F_300 R As hp = some q) : mjM (d + 1) 0 0 300 As hp (mjEq q) := by
  unfold F_300 at h
  split at h
  · exact c_300 hR h
  · exact mj_no h
noncomputable def F_301 (R : mjR) (As : List Value) (hp : mjH) : mjU := match As with
  | [.ref a0, .int a1] => f_301 R a0 a1 hp
  | _ => none
theorem Fk_301 {R : mjR} {d : Nat} (hR : mjC R d) {As : List Value} {hp : mjH} {q : Option Value × mjH} (h : F_301 R As hp = some q) : mjM (d + 1) 0 0 301 As hp (mjEq q) := by
  unfold F_301 at h
  split at h
  · exact c_301 hR h
  · exact mj_no h
noncomputable def F_302 (R : mjR) (As : List Value) (hp : mjH) : mjU := match As with
  | [.ref a0, .int a1, .int a2, .int a3] => f_302 R a0 a1 a2 a3 hp
  | _ => none
theorem Fk_302 {R : mjR} {d : Nat} (hR : mjC R d) {As : List Value} {hp : mjH} {q : Option Value × mjH} (h : F_302 R As hp = some q) : mjM (d + 1) 0 0 302 As hp (mjEq q) := by
  unfold F_302 at h
  split at h
  · exact c_302 hR h
  · exact mj_no h
noncomputable def F_303 (R : mjR) (As : List Value) (hp : mjH) : mjU := match As with
  | [.ref a0, .long a1] => f_303 R a0 a1 hp
  | _ => none
theorem Fk_303 {R : mjR} {d : Nat} (hR : mjC R d) {As : List Value} {hp : mjH} {q : Option Value × mjH} (h : F_303 R As hp = some q) : mjM (d + 1) 0 0 303 As hp (mjEq q) := by
  unfold F_303 at h
  split at h
  · exact c_303 hR h
  · exact mj_no h
noncomputable def F_304 (R : mjR) (As : List Value) (hp : mjH) : mjU := match As with
  | [.ref a0, .int a1, .long a2, .int a3] => f_304 R a0 a1 a2 a3 hp
  | _ => none
theorem Fk_304 {R : mjR} {d : Nat} (hR : mjC R d) {As : List Value} {hp : mjH} {q : Option Value × mjH} (h : F_304 R As hp = some q) : mjM (d + 1) 0 0 304 As hp (mjEq q) := by
  unfold F_304 at h
  split at h
  · exact c_304 hR h
  · exact mj_no h
noncomputable def F_305 (R : mjR) (As : List Value) (hp : mjH) : mjU := match As with
  | [.ref a0, .int a1, .long a2] => f_305 R a0 a1 a2 hp
  | _ => none
theorem Fk_305 {R : mjR} {d : Nat} (hR : mjC R d) {As : List Value} {hp : mjH} {q : Option Value × mjH} (h : F_305 R As hp = some q) : mjM (d + 1) 0 0 305 As hp (mjEq q) := by
  unfold F_305 at h
  split at h
  · exact c_305 hR h
  · exact mj_no h
noncomputable def F_306 (R : mjR) (As : List Value) (hp : mjH) : mjU := match As with
  | [.ref a0, .int a1] => f_306 R a0 a1 hp
  | _ => none
theorem Fk_306 {R : mjR} {d : Nat} (hR : mjC R d) {As : List Value} {hp : mjH} {q : Option Value × mjH} (h : F_306 R As hp = some q) : mjM (d + 1) 0 0 306 As hp (mjEq q) := by
  unfold F_306 at h
  split at h
  · exact c_306 hR h
  · exact mj_no h
noncomputable def F_307 (R : mjR) (As : List Value) (hp : mjH) : mjU := match As with
  | [.ref a0, .int a1] => f_307 R a0 a1 hp
  | _ => none
theorem Fk_307 {R : mjR} {d : Nat} (hR : mjC R d) {As : List Value} {hp : mjH} {q : Option Value × mjH} (h : F_307 R As hp = some q) : mjM (d + 1) 0 0 307 As hp (mjEq q) := by
  unfold F_307 at h
  split at h
  · exact c_307 hR h
  · exact mj_no h
noncomputable def F_308 (R : mjR) (As : List Value) (hp : mjH) : mjU := match As with
  | [.ref a0, .int a1] => f_308 R a0 a1 hp
  | _ => none
theorem Fk_308 {R : mjR} {d : Nat} (hR : mjC R d) {As : List Value} {hp : mjH} {q : Option Value × mjH} (h : F_308 R As hp = some q) : mjM (d + 1) 0 0 308 As hp (mjEq q) := by
  unfold F_308 at h
  split at h
  · exact c_308 hR h
  · exact mj_no h
noncomputable def F_309 (R : mjR) (As : List Value) (hp : mjH) : mjU := match As with
  | [.ref a0, .int a1] => f_309 R a0 a1 hp
  | _ => none
theorem Fk_309 {R : mjR} {d : Nat} (hR : mjC R d) {As : List Value} {hp : mjH} {q : Option Value × mjH} (h : F_309 R As hp = some q) : mjM (d + 1) 0 0 309 As hp (mjEq q) := by
  unfold F_309 at h
  split at h
  · exact c_309 hR h
  · exact mj_no h
noncomputable def F_310 (R : mjR) (As : List Value) (hp : mjH) : mjU := match As with
  | [.ref a0, .int a1, .int a2] => f_310 R a0 a1 a2 hp
  | _ => none
theorem Fk_310 {R : mjR} {d : Nat} (hR : mjC R d) {As : List Value} {hp : mjH} {q : Option Value × mjH} (h : F_310 R As hp = some q) : mjM (d + 1) 0 0 310 As hp (mjEq q) := by
  unfold F_310 at h
  split at h
  · exact c_310 hR h
  · exact mj_no h
noncomputable def F_311 (R : mjR) (As : List Value) (hp : mjH) : mjU := match As with
  | [.ref a0, .int a1, .int a2, .int a3] => f_311 R a0 a1 a2 a3 hp
  | _ => none
theorem Fk_311 {R : mjR} {d : Nat} (hR : mjC R d) {As : List Value} {hp : mjH} {q : Option Value × mjH} (h : F_311 R As hp = some q) : mjM (d + 1) 0 0 311 As hp (mjEq q) := by
  unfold F_311 at h
  split at h
  · exact c_311 hR h
  · exact mj_no h
noncomputable def F_312 (R : mjR) (As : List Value) (hp : mjH) : mjU := match As with
  | [.int a0] => f_312 R a0 hp
  | _ => none
theorem Fk_312 {R : mjR} {d : Nat} (hR : mjC R d) {As : List Value} {hp : mjH} {q : Option Value × mjH} (h : F_312 R As hp = some q) : mjM (d + 1) 0 0 312 As hp (mjEq q) := by
  unfold F_312 at h
  split at h
  · exact c_312 hR h
  · exact mj_no h
noncomputable def F_313 (R : mjR) (As : List Value) (hp : mjH) : mjU := match As with
  | [.ref a0, .int a1, .int a2] => f_313 R a0 a1 a2 hp
  | _ => none
theorem Fk_313 {R : mjR} {d : Nat} (hR : mjC R d) {As : List Value} {hp : mjH} {q : Option Value × mjH} (h : F_313 R As hp = some q) : mjM (d + 1) 0 0 313 As hp (mjEq q) := by
  unfold F_313 at h
  split at h
  · exact c_313 hR h
  · exact mj_no h
noncomputable def F_314 (R : mjR) (As : List Value) (hp : mjH) : mjU := match As with
  | [.ref a0, .int a1] => f_314 R a0 a1 hp
  | _ => none
theorem Fk_314 {R : mjR} {d : Nat} (hR : mjC R d) {As : List Value} {hp : mjH} {q : Option Value × mjH} (h : F_314 R As hp = some q) : mjM (d + 1) 0 0 314 As hp (mjEq q) := by
  unfold F_314 at h
  split at h
  · exact c_314 hR h
  · exact mj_no h
noncomputable def F_315 (R : mjR) (As : List Value) (hp : mjH) : mjU := match As with
  | [.ref a0, .int a1] => f_315 R a0 a1 hp
  | _ => none
theorem Fk_315 {R : mjR} {d : Nat} (hR : mjC R d) {As : List Value} {hp : mjH} {q : Option Value × mjH} (h : F_315 R As hp = some q) : mjM (d + 1) 0 0 315 As hp (mjEq q) := by
  unfold F_315 at h
  split at h
  · exact c_315 hR h
  · exact mj_no h
noncomputable def F_316 (R : mjR) (As : List Value) (hp : mjH) : mjU := match As with
  | [.ref a0, .long a1, .int a2, .int a3] => f_316 R a0 a1 a2 a3 hp
  | _ => none
theorem Fk_316 {R : mjR} {d : Nat} (hR : mjC R d) {As : List Value} {hp : mjH} {q : Option Value × mjH} (h : F_316 R As hp = some q) : mjM (d + 1) 0 0 316 As hp (mjEq q) := by
  unfold F_316 at h
  split at h
  · exact c_316 hR h
  · exact mj_no h
noncomputable def F_317 (R : mjR) (As : List Value) (hp : mjH) : mjU := match As with
  | [.ref a0] => f_317 R a0 hp
  | _ => none
theorem Fk_317 {R : mjR} {d : Nat} (hR : mjC R d) {As : List Value} {hp : mjH} {q : Option Value × mjH} (h : F_317 R As hp = some q) : mjM (d + 1) 0 0 317 As hp (mjEq q) := by
  unfold F_317 at h
  split at h
  · exact c_317 hR h
  · exact mj_no h
noncomputable def F_318 (R : mjR) (As : List Value) (hp : mjH) : mjU := match As with
  | [.ref a0, .int a1] => f_318 R a0 a1 hp
  | _ => none
theorem Fk_318 {R : mjR} {d : Nat} (hR : mjC R d) {As : List Value} {hp : mjH} {q : Option Value × mjH} (h : F_318 R As hp = some q) : mjM (d + 1) 0 0 318 As hp (mjEq q) := by
  unfold F_318 at h
  split at h
  · exact c_318 hR h
  · exact mj_no h
noncomputable def F_319 (R : mjR) (As : List Value) (hp : mjH) : mjU := match As with
  | [.ref a0, .int a1, .int a2] => f_319 R a0 a1 a2 hp
  | _ => none
theorem Fk_319 {R : mjR} {d : Nat} (hR : mjC R d) {As : List Value} {hp : mjH} {q : Option Value × mjH} (h : F_319 R As hp = some q) : mjM (d + 1) 0 0 319 As hp (mjEq q) := by
  unfold F_319 at h
  split at h
  · exact c_319 hR h
  · exact mj_no h
noncomputable def F_320 (R : mjR) (As : List Value) (hp : mjH) : mjU := match As with
  | [.ref a0, .int a1, .int a2] => f_320 R a0 a1 a2 hp
  | _ => none
theorem Fk_320 {R : mjR} {d : Nat} (hR : mjC R d) {As : List Value} {hp : mjH} {q : Option Value × mjH} (h : F_320 R As hp = some q) : mjM (d + 1) 0 0 320 As hp (mjEq q) := by
  unfold F_320 at h
  split at h
  · exact c_320 hR h
  · exact mj_no h
noncomputable def F_321 (R : mjR) (As : List Value) (hp : mjH) : mjU := match As with
  | [.ref a0, .int a1] => f_321 R a0 a1 hp
  | _ => none
theorem Fk_321 {R : mjR} {d : Nat} (hR : mjC R d) {As : List Value} {hp : mjH} {q : Option Value × mjH} (h : F_321 R As hp = some q) : mjM (d + 1) 0 0 321 As hp (mjEq q) := by
  unfold F_321 at h
  split at h
  · exact c_321 hR h
  · exact mj_no h
noncomputable def F_322 (R : mjR) (As : List Value) (hp : mjH) : mjU := match As with
  | [.ref a0, .int a1] => f_322 R a0 a1 hp
  | _ => none
theorem Fk_322 {R : mjR} {d : Nat} (hR : mjC R d) {As : List Value} {hp : mjH} {q : Option Value × mjH} (h : F_322 R As hp = some q) : mjM (d + 1) 0 0 322 As hp (mjEq q) := by
  unfold F_322 at h
  split at h
  · exact c_322 hR h
  · exact mj_no h
noncomputable def F_323 (R : mjR) (As : List Value) (hp : mjH) : mjU := match As with
  | [.ref a0, .int a1] => f_323 R a0 a1 hp
  | _ => none
theorem Fk_323 {R : mjR} {d : Nat} (hR : mjC R d) {As : List Value} {hp : mjH} {q : Option Value × mjH} (h : F_323 R As hp = some q) : mjM (d + 1) 0 0 323 As hp (mjEq q) := by
  unfold F_323 at h
  split at h
  · exact c_323 hR h
  · exact mj_no h
noncomputable def F_324 (R : mjR) (As : List Value) (hp : mjH) : mjU := match As with
  | [.ref a0, .int a1] => f_324 R a0 a1 hp
  | _ => none
theorem Fk_324 {R : mjR} {d : Nat} (hR : mjC R d) {As : List Value} {hp : mjH} {q : Option Value × mjH} (h : F_324 R As hp = some q) : mjM (d + 1) 0 0 324 As hp (mjEq q) := by
  unfold F_324 at h
  split at h
  · exact c_324 hR h
  · exact mj_no h
noncomputable def F_325 (R : mjR) (As : List Value) (hp : mjH) : mjU := match As with
  | [.ref a0, .long a1] => f_325 R a0 a1 hp
  | _ => none
theorem Fk_325 {R : mjR} {d : Nat} (hR : mjC R d) {As : List Value} {hp : mjH} {q : Option Value × mjH} (h : F_325 R As hp = some q) : mjM (d + 1) 0 0 325 As hp (mjEq q) := by
  unfold F_325 at h
  split at h
  · exact c_325 hR h
  · exact mj_no h
noncomputable def F_326 (R : mjR) (As : List Value) (hp : mjH) : mjU := match As with
  | [.ref a0, .int a1] => f_326 R a0 a1 hp
  | _ => none
theorem Fk_326 {R : mjR} {d : Nat} (hR : mjC R d) {As : List Value} {hp : mjH} {q : Option Value × mjH} (h : F_326 R As hp = some q) : mjM (d + 1) 0 0 326 As hp (mjEq q) := by
  unfold F_326 at h
  split at h
  · exact c_326 hR h
  · exact mj_no h
noncomputable def F_327 (R : mjR) (As : List Value) (hp : mjH) : mjU := match As with
  | [.ref a0, .int a1] => f_327 R a0 a1 hp
  | _ => none
theorem Fk_327 {R : mjR} {d : Nat} (hR : mjC R d) {As : List Value} {hp : mjH} {q : Option Value × mjH} (h : F_327 R As hp = some q) : mjM (d + 1) 0 0 327 As hp (mjEq q) := by
  unfold F_327 at h
  split at h
  · exact c_327 hR h
  · exact mj_no h
noncomputable def F_328 (R : mjR) (As : List Value) (hp : mjH) : mjU := match As with
  | [.ref a0, .int a1] => f_328 R a0 a1 hp
  | _ => none
theorem Fk_328 {R : mjR} {d : Nat} (hR : mjC R d) {As : List Value} {hp : mjH} {q : Option Value × mjH} (h : F_328 R As hp = some q) : mjM (d + 1) 0 0 328 As hp (mjEq q) := by
  unfold F_328 at h
  split at h
  · exact c_328 hR h
  · exact mj_no h
noncomputable def F_329 (R : mjR) (As : List Value) (hp : mjH) : mjU := match As with
  | [.ref a0, .int a1] => f_329 R a0 a1 hp
  | _ => none
theorem Fk_329 {R : mjR} {d : Nat} (hR : mjC R d) {As : List Value} {hp : mjH} {q : Option Value × mjH} (h : F_329 R As hp = some q) : mjM (d + 1) 0 0 329 As hp (mjEq q) := by
  unfold F_329 at h
  split at h
  · exact c_329 hR h
  · exact mj_no h
noncomputable def F_330 (R : mjR) (As : List Value) (hp : mjH) : mjU := match As with
  | [.ref a0, .int a1] => f_330 R a0 a1 hp
  | _ => none
theorem Fk_330 {R : mjR} {d : Nat} (hR : mjC R d) {As : List Value} {hp : mjH} {q : Option Value × mjH} (h : F_330 R As hp = some q) : mjM (d + 1) 0 0 330 As hp (mjEq q) := by
  unfold F_330 at h
  split at h
  · exact c_330 hR h
  · exact mj_no h
noncomputable def F_331 (R : mjR) (As : List Value) (hp : mjH) : mjU := match As with
  | [.ref a0, .int a1] => f_331 R a0 a1 hp
  | _ => none
theorem Fk_331 {R : mjR} {d : Nat} (hR : mjC R d) {As : List Value} {hp : mjH} {q : Option Value × mjH} (h : F_331 R As hp = some q) : mjM (d + 1) 0 0 331 As hp (mjEq q) := by
  unfold F_331 at h
  split at h
  · exact c_331 hR h
  · exact mj_no h
noncomputable def F_332 (R : mjR) (As : List Value) (hp : mjH) : mjU := match As with
  | [.ref a0, .int a1] => f_332 R a0 a1 hp
  | _ => none
theorem Fk_332 {R : mjR} {d : Nat} (hR : mjC R d) {As : List Value} {hp : mjH} {q : Option Value × mjH} (h : F_332 R As hp = some q) : mjM (d + 1) 0 0 332 As hp (mjEq q) := by
  unfold F_332 at h
  split at h
  · exact c_332 hR h
  · exact mj_no h
noncomputable def F_333 (R : mjR) (As : List Value) (hp : mjH) : mjU := match As with
  | [.ref a0, .int a1] => f_333 R a0 a1 hp
  | _ => none
theorem Fk_333 {R : mjR} {d : Nat} (hR : mjC R d) {As : List Value} {hp : mjH} {q : Option Value × mjH} (h : F_333 R As hp = some q) : mjM (d + 1) 0 0 333 As hp (mjEq q) := by
  unfold F_333 at h
  split at h
  · exact c_333 hR h
  · exact mj_no h
noncomputable def F_334 (R : mjR) (As : List Value) (hp : mjH) : mjU := match As with
  | [.ref a0, .int a1, .int a2] => f_334 R a0 a1 a2 hp
  | _ => none
theorem Fk_334 {R : mjR} {d : Nat} (hR : mjC R d) {As : List Value} {hp : mjH} {q : Option Value × mjH} (h : F_334 R As hp = some q) : mjM (d + 1) 0 0 334 As hp (mjEq q) := by
  unfold F_334 at h
  split at h
  · exact c_334 hR h
  · exact mj_no h
noncomputable def F_335 (R : mjR) (As : List Value) (hp : mjH) : mjU := match As with
  | [.ref a0, .int a1] => f_335 R a0 a1 hp
  | _ => none
theorem Fk_335 {R : mjR} {d : Nat} (hR : mjC R d) {As : List Value} {hp : mjH} {q : Option Value × mjH} (h : F_335 R As hp = some q) : mjM (d + 1) 0 0 335 As hp (mjEq q) := by
  unfold F_335 at h
  split at h
  · exact c_335 hR h
  · exact mj_no h
noncomputable def F_336 (R : mjR) (As : List Value) (hp : mjH) : mjU := match As with
  | [.ref a0, .int a1] => f_336 R a0 a1 hp
  | _ => none
theorem Fk_336 {R : mjR} {d : Nat} (hR : mjC R d) {As : List Value} {hp : mjH} {q : Option Value × mjH} (h : F_336 R As hp = some q) : mjM (d + 1) 0 0 336 As hp (mjEq q) := by
  unfold F_336 at h
  split at h
  · exact c_336 hR h
  · exact mj_no h
noncomputable def F_337 (R : mjR) (As : List Value) (hp : mjH) : mjU := match As with
  | [.ref a0, .int a1, .int a2] => f_337 R a0 a1 a2 hp
  | _ => none
theorem Fk_337 {R : mjR} {d : Nat} (hR : mjC R d) {As : List Value} {hp : mjH} {q : Option Value × mjH} (h : F_337 R As hp = some q) : mjM (d + 1) 0 0 337 As hp (mjEq q) := by
  unfold F_337 at h
  split at h
  · exact c_337 hR h
  · exact mj_no h
noncomputable def F_338 (R : mjR) (As : List Value) (hp : mjH) : mjU := match As with
  | [.ref a0, .int a1] => f_338 R a0 a1 hp
  | _ => none
theorem Fk_338 {R : mjR} {d : Nat} (hR : mjC R d) {As : List Value} {hp : mjH} {q : Option Value × mjH} (h : F_338 R As hp = some q) : mjM (d + 1) 0 0 338 As hp (mjEq q) := by
  unfold F_338 at h
  split at h
  · exact c_338 hR h
  · exact mj_no h
noncomputable def F_339 (R : mjR) (As : List Value) (hp : mjH) : mjU := match As with
  | [.ref a0, .int a1, .int a2, .int a3] => f_339 R a0 a1 a2 a3 hp
  | _ => none
theorem Fk_339 {R : mjR} {d : Nat} (hR : mjC R d) {As : List Value} {hp : mjH} {q : Option Value × mjH} (h : F_339 R As hp = some q) : mjM (d + 1) 0 0 339 As hp (mjEq q) := by
  unfold F_339 at h
  split at h
  · exact c_339 hR h
  · exact mj_no h
noncomputable def F_340 (R : mjR) (As : List Value) (hp : mjH) : mjU := match As with
  | [.ref a0, .int a1, .int a2] => f_340 R a0 a1 a2 hp
  | _ => none
theorem Fk_340 {R : mjR} {d : Nat} (hR : mjC R d) {As : List Value} {hp : mjH} {q : Option Value × mjH} (h : F_340 R As hp = some q) : mjM (d + 1) 0 0 340 As hp (mjEq q) := by
  unfold F_340 at h
  split at h
  · exact c_340 hR h
  · exact mj_no h
noncomputable def F_341 (R : mjR) (As : List Value) (hp : mjH) : mjU := match As with
  | [.ref a0, .int a1] => f_341 R a0 a1 hp
  | _ => none
theorem Fk_341 {R : mjR} {d : Nat} (hR : mjC R d) {As : List Value} {hp : mjH} {q : Option Value × mjH} (h : F_341 R As hp = some q) : mjM (d + 1) 0 0 341 As hp (mjEq q) := by
  unfold F_341 at h
  split at h
  · exact c_341 hR h
  · exact mj_no h
noncomputable def F_342 (R : mjR) (As : List Value) (hp : mjH) : mjU := match As with
  | [.ref a0, .int a1] => f_342 R a0 a1 hp
  | _ => none
theorem Fk_342 {R : mjR} {d : Nat} (hR : mjC R d) {As : List Value} {hp : mjH} {q : Option Value × mjH} (h : F_342 R As hp = some q) : mjM (d + 1) 0 0 342 As hp (mjEq q) := by
  unfold F_342 at h
  split at h
  · exact c_342 hR h
  · exact mj_no h
noncomputable def F_343 (R : mjR) (As : List Value) (hp : mjH) : mjU := match As with
  | [.ref a0, .int a1, .int a2] => f_343 R a0 a1 a2 hp
  | _ => none
theorem Fk_343 {R : mjR} {d : Nat} (hR : mjC R d) {As : List Value} {hp : mjH} {q : Option Value × mjH} (h : F_343 R As hp = some q) : mjM (d + 1) 0 0 343 As hp (mjEq q) := by
  unfold F_343 at h
  split at h
  · exact c_343 hR h
  · exact mj_no h
noncomputable def F_344 (R : mjR) (As : List Value) (hp : mjH) : mjU := match As with
  | [.ref a0, .int a1] => f_344 R a0 a1 hp
  | _ => none
theorem Fk_344 {R : mjR} {d : Nat} (hR : mjC R d) {As : List Value} {hp : mjH} {q : Option Value × mjH} (h : F_344 R As hp = some q) : mjM (d + 1) 0 0 344 As hp (mjEq q) := by
  unfold F_344 at h
  split at h
  · exact c_344 hR h
  · exact mj_no h
noncomputable def F_345 (R : mjR) (As : List Value) (hp : mjH) : mjU := match As with
  | [.ref a0, .int a1, .int a2] => f_345 R a0 a1 a2 hp
  | _ => none
theorem Fk_345 {R : mjR} {d : Nat} (hR : mjC R d) {As : List Value} {hp : mjH} {q : Option Value × mjH} (h : F_345 R As hp = some q) : mjM (d + 1) 0 0 345 As hp (mjEq q) := by
  unfold F_345 at h
  split at h
  · exact c_345 hR h
  · exact mj_no h
noncomputable def F_346 (R : mjR) (As : List Value) (hp : mjH) : mjU := match As with
  | [.ref a0, .int a1, .int a2] => f_346 R a0 a1 a2 hp
  | _ => none
theorem Fk_346 {R : mjR} {d : Nat} (hR : mjC R d) {As : List Value} {hp : mjH} {q : Option Value × mjH} (h : F_346 R As hp = some q) : mjM (d + 1) 0 0 346 As hp (mjEq q) := by
  unfold F_346 at h
  split at h
  · exact c_346 hR h
  · exact mj_no h
noncomputable def F_347 (R : mjR) (As : List Value) (hp : mjH) : mjU := match As with
  | [.ref a0, .int a1] => f_347 R a0 a1 hp
  | _ => none
theorem Fk_347 {R : mjR} {d : Nat} (hR : mjC R d) {As : List Value} {hp : mjH} {q : Option Value × mjH} (h : F_347 R As hp = some q) : mjM (d + 1) 0 0 347 As hp (mjEq q) := by
  unfold F_347 at h
  split at h
  · exact c_347 hR h
  · exact mj_no h
noncomputable def F_348 (R : mjR) (As : List Value) (hp : mjH) : mjU := match As with
  | [.ref a0, .int a1, .int a2] => f_348 R a0 a1 a2 hp
  | _ => none
theorem Fk_348 {R : mjR} {d : Nat} (hR : mjC R d) {As : List Value} {hp : mjH} {q : Option Value × mjH} (h : F_348 R As hp = some q) : mjM (d + 1) 0 0 348 As hp (mjEq q) := by
  unfold F_348 at h
  split at h
  · exact c_348 hR h
  · exact mj_no h
noncomputable def F_349 (R : mjR) (As : List Value) (hp : mjH) : mjU := match As with
  | [.ref a0, .int a1, .int a2] => f_349 R a0 a1 a2 hp
  | _ => none
theorem Fk_349 {R : mjR} {d : Nat} (hR : mjC R d) {As : List Value} {hp : mjH} {q : Option Value × mjH} (h : F_349 R As hp = some q) : mjM (d + 1) 0 0 349 As hp (mjEq q) := by
  unfold F_349 at h
  split at h
  · exact c_349 hR h
  · exact mj_no h
noncomputable def F_350 (R : mjR) (As : List Value) (hp : mjH) : mjU := match As with
  | [.ref a0, .int a1, .int a2] => f_350 R a0 a1 a2 hp
  | _ => none
theorem Fk_350 {R : mjR} {d : Nat} (hR : mjC R d) {As : List Value} {hp : mjH} {q : Option Value × mjH} (h : F_350 R As hp = some q) : mjM (d + 1) 0 0 350 As hp (mjEq q) := by
  unfold F_350 at h
  split at h
  · exact c_350 hR h
  · exact mj_no h
noncomputable def F_351 (R : mjR) (As : List Value) (hp : mjH) : mjU := match As with
  | [.int a0] => f_351 R a0 hp
  | _ => none
theorem Fk_351 {R : mjR} {d : Nat} (hR : mjC R d) {As : List Value} {hp : mjH} {q : Option Value × mjH} (h : F_351 R As hp = some q) : mjM (d + 1) 0 0 351 As hp (mjEq q) := by
  unfold F_351 at h
  split at h
  · exact c_351 hR h
  · exact mj_no h
noncomputable def F_352 (R : mjR) (As : List Value) (hp : mjH) : mjU := match As with
  | [.int a0] => f_352 R a0 hp
  | _ => none
theorem Fk_352 {R : mjR} {d : Nat} (hR : mjC R d) {As : List Value} {hp : mjH} {q : Option Value × mjH} (h : F_352 R As hp = some q) : mjM (d + 1) 0 0 352 As hp (mjEq q) := by
  unfold F_352 at h
  split at h
  · exact c_352 hR h
  · exact mj_no h
noncomputable def F_353 (R : mjR) (As : List Value) (hp : mjH) : mjU := match As with
  | [.int a0] => f_353 R a0 hp
  | _ => none
theorem Fk_353 {R : mjR} {d : Nat} (hR : mjC R d) {As : List Value} {hp : mjH} {q : Option Value × mjH} (h : F_353 R As hp = some q) : mjM (d + 1) 0 0 353 As hp (mjEq q) := by
  unfold F_353 at h
  split at h
  · exact c_353 hR h
  · exact mj_no h
noncomputable def F_354 (R : mjR) (As : List Value) (hp : mjH) : mjU := match As with
  | [.int a0, .int a1] => f_354 R a0 a1 hp
  | _ => none
theorem Fk_354 {R : mjR} {d : Nat} (hR : mjC R d) {As : List Value} {hp : mjH} {q : Option Value × mjH} (h : F_354 R As hp = some q) : mjM (d + 1) 0 0 354 As hp (mjEq q) := by
  unfold F_354 at h
  split at h
  · exact c_354 hR h
  · exact mj_no h
noncomputable def F_355 (R : mjR) (As : List Value) (hp : mjH) : mjU := match As with
  | [.int a0, .int a1] => f_355 R a0 a1 hp
  | _ => none
theorem Fk_355 {R : mjR} {d : Nat} (hR : mjC R d) {As : List Value} {hp : mjH} {q : Option Value × mjH} (h : F_355 R As hp = some q) : mjM (d + 1) 0 0 355 As hp (mjEq q) := by
  unfold F_355 at h
  split at h
  · exact c_355 hR h
  · exact mj_no h
noncomputable def F_356 (R : mjR) (As : List Value) (hp : mjH) : mjU := match As with
  | [.ref a0] => f_356 R a0 hp
  | _ => none
theorem Fk_356 {R : mjR} {d : Nat} (hR : mjC R d) {As : List Value} {hp : mjH} {q : Option Value × mjH} (h : F_356 R As hp = some q) : mjM (d + 1) 0 0 356 As hp (mjEq q) := by
  unfold F_356 at h
  split at h
  · exact c_356 hR h
  · exact mj_no h
noncomputable def F_357 (R : mjR) (As : List Value) (hp : mjH) : mjU := match As with
  | [.ref a0] => f_357 R a0 hp
  | _ => none
theorem Fk_357 {R : mjR} {d : Nat} (hR : mjC R d) {As : List Value} {hp : mjH} {q : Option Value × mjH} (h : F_357 R As hp = some q) : mjM (d + 1) 0 0 357 As hp (mjEq q) := by
  unfold F_357 at h
  split at h
  · exact c_357 hR h
  · exact mj_no h
noncomputable def F_358 (R : mjR) (As : List Value) (hp : mjH) : mjU := match As with
  | [.ref a0, .int a1] => f_358 R a0 a1 hp
  | _ => none
theorem Fk_358 {R : mjR} {d : Nat} (hR : mjC R d) {As : List Value} {hp : mjH} {q : Option Value × mjH} (h : F_358 R As hp = some q) : mjM (d + 1) 0 0 358 As hp (mjEq q) := by
  unfold F_358 at h
  split at h
  · exact c_358 hR h
  · exact mj_no h
noncomputable def F_359 (R : mjR) (As : List Value) (hp : mjH) : mjU := match As with
  | [.ref a0] => f_359 R a0 hp
  | _ => none
theorem Fk_359 {R : mjR} {d : Nat} (hR : mjC R d) {As : List Value} {hp : mjH} {q : Option Value × mjH} (h : F_359 R As hp = some q) : mjM (d + 1) 0 0 359 As hp (mjEq q) := by
  unfold F_359 at h
  split at h
  · exact c_359 hR h
  · exact mj_no h
noncomputable def F_360 (R : mjR) (As : List Value) (hp : mjH) : mjU := match As with
  | [.int a0, .int a1] => f_360 R a0 a1 hp
  | _ => none
theorem Fk_360 {R : mjR} {d : Nat} (hR : mjC R d) {As : List Value} {hp : mjH} {q : Option Value × mjH} (h : F_360 R As hp = some q) : mjM (d + 1) 0 0 360 As hp (mjEq q) := by
  unfold F_360 at h
  split at h
  · exact c_360 hR h
  · exact mj_no h
noncomputable def F_361 (R : mjR) (As : List Value) (hp : mjH) : mjU := match As with
  | [.ref a0, .int a1] => f_361 R a0 a1 hp
  | _ => none
theorem Fk_361 {R : mjR} {d : Nat} (hR : mjC R d) {As : List Value} {hp : mjH} {q : Option Value × mjH} (h : F_361 R As hp = some q) : mjM (d + 1) 0 0 361 As hp (mjEq q) := by
  unfold F_361 at h
  split at h
  · exact c_361 hR h
  · exact mj_no h
noncomputable def F_362 (R : mjR) (As : List Value) (hp : mjH) : mjU := match As with
  | [.ref a0, .int a1, .int a2] => f_362 R a0 a1 a2 hp
  | _ => none
theorem Fk_362 {R : mjR} {d : Nat} (hR : mjC R d) {As : List Value} {hp : mjH} {q : Option Value × mjH} (h : F_362 R As hp = some q) : mjM (d + 1) 0 0 362 As hp (mjEq q) := by
  unfold F_362 at h
  split at h
  · exact c_362 hR h
  · exact mj_no h
noncomputable def F_363 (R : mjR) (As : List Value) (hp : mjH) : mjU := match As with
  | [.int a0, .int a1, .int a2] => f_363 R a0 a1 a2 hp
  | _ => none
theorem Fk_363 {R : mjR} {d : Nat} (hR : mjC R d) {As : List Value} {hp : mjH} {q : Option Value × mjH} (h : F_363 R As hp = some q) : mjM (d + 1) 0 0 363 As hp (mjEq q) := by
  unfold F_363 at h
  split at h
  · exact c_363 hR h
  · exact mj_no h
noncomputable def F_364 (R : mjR) (As : List Value) (hp : mjH) : mjU := match As with
  | [.ref a0, .int a1] => f_364 R a0 a1 hp
  | _ => none
theorem Fk_364 {R : mjR} {d : Nat} (hR : mjC R d) {As : List Value} {hp : mjH} {q : Option Value × mjH} (h : F_364 R As hp = some q) : mjM (d + 1) 0 0 364 As hp (mjEq q) := by
  unfold F_364 at h
  split at h
  · exact c_364 hR h
  · exact mj_no h
noncomputable def F_365 (R : mjR) (As : List Value) (hp : mjH) : mjU := match As with
  | [.ref a0, .int a1, .int a2, .int a3] => f_365 R a0 a1 a2 a3 hp
  | _ => none
theorem Fk_365 {R : mjR} {d : Nat} (hR : mjC R d) {As : List Value} {hp : mjH} {q : Option Value × mjH} (h : F_365 R As hp = some q) : mjM (d + 1) 0 0 365 As hp (mjEq q) := by
  unfold F_365 at h
  split at h
  · exact c_365 hR h
  · exact mj_no h
noncomputable def F_366 (R : mjR) (As : List Value) (hp : mjH) : mjU := match As with
  | [.int a0] => f_366 R a0 hp
  | _ => none
theorem Fk_366 {R : mjR} {d : Nat} (hR : mjC R d) {As : List Value} {hp : mjH} {q : Option Value × mjH} (h : F_366 R As hp = some q) : mjM (d + 1) 0 0 366 As hp (mjEq q) := by
  unfold F_366 at h
  split at h
  · exact c_366 hR h
  · exact mj_no h
noncomputable def F_367 (R : mjR) (As : List Value) (hp : mjH) : mjU := match As with
  | [.ref a0, .int a1, .int a2, .int a3] => f_367 R a0 a1 a2 a3 hp
  | _ => none
theorem Fk_367 {R : mjR} {d : Nat} (hR : mjC R d) {As : List Value} {hp : mjH} {q : Option Value × mjH} (h : F_367 R As hp = some q) : mjM (d + 1) 0 0 367 As hp (mjEq q) := by
  unfold F_367 at h
  split at h
  · exact c_367 hR h
  · exact mj_no h
noncomputable def F_368 (R : mjR) (As : List Value) (hp : mjH) : mjU := match As with
  | [.ref a0, .int a1] => f_368 R a0 a1 hp
  | _ => none
theorem Fk_368 {R : mjR} {d : Nat} (hR : mjC R d) {As : List Value} {hp : mjH} {q : Option Value × mjH} (h : F_368 R As hp = some q) : mjM (d + 1) 0 0 368 As hp (mjEq q) := by
  unfold F_368 at h
  split at h
  · exact c_368 hR h
  · exact mj_no h
noncomputable def F_369 (R : mjR) (As : List Value) (hp : mjH) : mjU := match As with
  | [.int a0, .ref a1] => f_369 R a0 a1 hp
  | _ => none
theorem Fk_369 {R : mjR} {d : Nat} (hR : mjC R d) {As : List Value} {hp : mjH} {q : Option Value × mjH} (h : F_369 R As hp = some q) : mjM (d + 1) 0 0 369 As hp (mjEq q) := by
  unfold F_369 at h
  split at h
  · exact c_369 hR h
  · exact mj_no h
noncomputable def F_370 (R : mjR) (As : List Value) (hp : mjH) : mjU := match As with
  | [.ref a0] => f_370 R a0 hp
  | _ => none
theorem Fk_370 {R : mjR} {d : Nat} (hR : mjC R d) {As : List Value} {hp : mjH} {q : Option Value × mjH} (h : F_370 R As hp = some q) : mjM (d + 1) 0 0 370 As hp (mjEq q) := by
  unfold F_370 at h
  split at h
  · exact c_370 hR h
  · exact mj_no h
noncomputable def F_371 (R : mjR) (As : List Value) (hp : mjH) : mjU := match As with
  | [.ref a0, .int a1] => f_371 R a0 a1 hp
  | _ => none
theorem Fk_371 {R : mjR} {d : Nat} (hR : mjC R d) {As : List Value} {hp : mjH} {q : Option Value × mjH} (h : F_371 R As hp = some q) : mjM (d + 1) 0 0 371 As hp (mjEq q) := by
  unfold F_371 at h
  split at h
  · exact c_371 hR h
  · exact mj_no h
noncomputable def F_372 (R : mjR) (As : List Value) (hp : mjH) : mjU := match As with
  | [.ref a0, .int a1, .int a2, .int a3] => f_372 R a0 a1 a2 a3 hp
  | _ => none
theorem Fk_372 {R : mjR} {d : Nat} (hR : mjC R d) {As : List Value} {hp : mjH} {q : Option Value × mjH} (h : F_372 R As hp = some q) : mjM (d + 1) 0 0 372 As hp (mjEq q) := by
  unfold F_372 at h
  split at h
  · exact c_372 hR h
  · exact mj_no h
noncomputable def F_373 (R : mjR) (As : List Value) (hp : mjH) : mjU := match As with
  | [.ref a0, .int a1, .int a2, .int a3] => f_373 R a0 a1 a2 a3 hp
  | _ => none
theorem Fk_373 {R : mjR} {d : Nat} (hR : mjC R d) {As : List Value} {hp : mjH} {q : Option Value × mjH} (h : F_373 R As hp = some q) : mjM (d + 1) 0 0 373 As hp (mjEq q) := by
  unfold F_373 at h
  split at h
  · exact c_373 hR h
  · exact mj_no h
noncomputable def F_374 (R : mjR) (As : List Value) (hp : mjH) : mjU := match As with
  | [.int a0, .int a1, .ref a2] => f_374 R a0 a1 a2 hp
  | _ => none
theorem Fk_374 {R : mjR} {d : Nat} (hR : mjC R d) {As : List Value} {hp : mjH} {q : Option Value × mjH} (h : F_374 R As hp = some q) : mjM (d + 1) 0 0 374 As hp (mjEq q) := by
  unfold F_374 at h
  split at h
  · exact c_374 hR h
  · exact mj_no h
noncomputable def F_375 (R : mjR) (As : List Value) (hp : mjH) : mjU := match As with
  | [.ref a0, .int a1, .int a2, .int a3] => f_375 R a0 a1 a2 a3 hp
  | _ => none
theorem Fk_375 {R : mjR} {d : Nat} (hR : mjC R d) {As : List Value} {hp : mjH} {q : Option Value × mjH} (h : F_375 R As hp = some q) : mjM (d + 1) 0 0 375 As hp (mjEq q) := by
  unfold F_375 at h
  split at h
  · exact c_375 hR h
  · exact mj_no h
noncomputable def F_376 (R : mjR) (As : List Value) (hp : mjH) : mjU := match As with
  | [.ref a0, .int a1, .int a2, .int a3] => f_376 R a0 a1 a2 a3 hp
  | _ => none
theorem Fk_376 {R : mjR} {d : Nat} (hR : mjC R d) {As : List Value} {hp : mjH} {q : Option Value × mjH} (h : F_376 R As hp = some q) : mjM (d + 1) 0 0 376 As hp (mjEq q) := by
  unfold F_376 at h
  split at h
  · exact c_376 hR h
  · exact mj_no h
noncomputable def F_377 (R : mjR) (As : List Value) (hp : mjH) : mjU := match As with
  | [.ref a0, .int a1] => f_377 R a0 a1 hp
  | _ => none
theorem Fk_377 {R : mjR} {d : Nat} (hR : mjC R d) {As : List Value} {hp : mjH} {q : Option Value × mjH} (h : F_377 R As hp = some q) : mjM (d + 1) 0 0 377 As hp (mjEq q) := by
  unfold F_377 at h
  split at h
  · exact c_377 hR h
  · exact mj_no h
noncomputable def F_378 (R : mjR) (As : List Value) (hp : mjH) : mjU := match As with
  | [.ref a0, .long a1] => f_378 R a0 a1 hp
  | _ => none
theorem Fk_378 {R : mjR} {d : Nat} (hR : mjC R d) {As : List Value} {hp : mjH} {q : Option Value × mjH} (h : F_378 R As hp = some q) : mjM (d + 1) 0 0 378 As hp (mjEq q) := by
  unfold F_378 at h
  split at h
  · exact c_378 hR h
  · exact mj_no h
noncomputable def F_379 (R : mjR) (As : List Value) (hp : mjH) : mjU := match As with
  | [.ref a0, .int a1, .int a2, .int a3] => f_379 R a0 a1 a2 a3 hp
  | _ => none
theorem Fk_379 {R : mjR} {d : Nat} (hR : mjC R d) {As : List Value} {hp : mjH} {q : Option Value × mjH} (h : F_379 R As hp = some q) : mjM (d + 1) 0 0 379 As hp (mjEq q) := by
  unfold F_379 at h
  split at h
  · exact c_379 hR h
  · exact mj_no h
noncomputable def F_380 (R : mjR) (As : List Value) (hp : mjH) : mjU := match As with
  | [.int a0, .int a1, .int a2] => f_380 R a0 a1 a2 hp
  | _ => none
theorem Fk_380 {R : mjR} {d : Nat} (hR : mjC R d) {As : List Value} {hp : mjH} {q : Option Value × mjH} (h : F_380 R As hp = some q) : mjM (d + 1) 0 0 380 As hp (mjEq q) := by
  unfold F_380 at h
  split at h
  · exact c_380 hR h
  · exact mj_no h
noncomputable def F_381 (R : mjR) (As : List Value) (hp : mjH) : mjU := match As with
  | [.int a0, .int a1, .retAddr 0] => f_381 R a0 a1 hp
  | _ => none
theorem Fk_381 {R : mjR} {d : Nat} (hR : mjC R d) {As : List Value} {hp : mjH} {q : Option Value × mjH} (h : F_381 R As hp = some q) : mjM (d + 1) 0 0 381 As hp (mjEq q) := by
  unfold F_381 at h
  split at h
  · exact c_381 hR h
  · exact mj_no h
noncomputable def F_382 (R : mjR) (As : List Value) (hp : mjH) : mjU := match As with
  | [.int a0, .int a1, .int a2, .retAddr 0] => f_382 R a0 a1 a2 hp
  | _ => none
theorem Fk_382 {R : mjR} {d : Nat} (hR : mjC R d) {As : List Value} {hp : mjH} {q : Option Value × mjH} (h : F_382 R As hp = some q) : mjM (d + 1) 0 0 382 As hp (mjEq q) := by
  unfold F_382 at h
  split at h
  · exact c_382 hR h
  · exact mj_no h
abbrev mjFT : Type := List Value → mjH → mjU
def F_no : mjFT := fun _ _ => none
def mjAF (d : Nat) : Nat → List mjFT → Prop
  | _, [] => True
  | j, f :: l => (∀ As hp q, f As hp = some q → mjM d 0 0 j As hp (mjEq q)) ∧ mjAF d (j + 1) l
theorem mjAF_at {d : Nat} : ∀ (l : List mjFT) (j r : Nat) (f : mjFT), mjAF d j l → l[r]? = some f → ∀ As hp q, f As hp = some q → mjM d 0 0 (j + r) As hp (mjEq q)
  | [], _, _, _, _, hf => by simp at hf
  | g :: l, j, 0, f, h, hf => by
    simp only [List.getElem?_cons_zero, Option.some.injEq] at hf
    subst hf
    exact h.1
  | g :: l, j, r + 1, f, h, hf => by
    rw [show j + (r + 1) = j + 1 + r by omega]
    exact mjAF_at l (j + 1) r f h.2 (by simpa using hf)
noncomputable def mjFb_0 (R : mjR) : List mjFT := [F_no, F_1 R, F_2 R, F_no, F_4 R, F_5 R, F_6 R, F_7 R, F_8 R, F_9 R, F_10 R, F_11 R, F_12 R, F_13 R, F_14 R, F_15 R]
theorem mjFk_0 {R : mjR} {d : Nat} (hR : mjC R d) : mjAF (d + 1) 0 (mjFb_0 R) :=
  And.intro (fun _ _ _ h => mj_no h) (And.intro (fun _ _ _ h => Fk_1 hR h) (And.intro (fun _ _ _ h => Fk_2 hR h) (And.intro (fun _ _ _ h => mj_no h) (And.intro (fun _ _ _ h => Fk_4 hR h) (And.intro (fun _ _ _ h => Fk_5 hR h) (And.intro (fun _ _ _ h => Fk_6 hR h) (And.intro (fun _ _ _ h => Fk_7 hR h) (And.intro (fun _ _ _ h => Fk_8 hR h) (And.intro (fun _ _ _ h => Fk_9 hR h) (And.intro (fun _ _ _ h => Fk_10 hR h) (And.intro (fun _ _ _ h => Fk_11 hR h) (And.intro (fun _ _ _ h => Fk_12 hR h) (And.intro (fun _ _ _ h => Fk_13 hR h) (And.intro (fun _ _ _ h => Fk_14 hR h) (And.intro (fun _ _ _ h => Fk_15 hR h) (True.intro))))))))))))))))
noncomputable def mjFb_1 (R : mjR) : List mjFT := [F_16 R, F_17 R, F_18 R, F_19 R, F_20 R, F_21 R, F_22 R, F_23 R, F_24 R, F_25 R, F_26 R, F_27 R, F_28 R, F_29 R, F_30 R, F_31 R]
theorem mjFk_1 {R : mjR} {d : Nat} (hR : mjC R d) : mjAF (d + 1) 16 (mjFb_1 R) :=
  And.intro (fun _ _ _ h => Fk_16 hR h) (And.intro (fun _ _ _ h => Fk_17 hR h) (And.intro (fun _ _ _ h => Fk_18 hR h) (And.intro (fun _ _ _ h => Fk_19 hR h) (And.intro (fun _ _ _ h => Fk_20 hR h) (And.intro (fun _ _ _ h => Fk_21 hR h) (And.intro (fun _ _ _ h => Fk_22 hR h) (And.intro (fun _ _ _ h => Fk_23 hR h) (And.intro (fun _ _ _ h => Fk_24 hR h) (And.intro (fun _ _ _ h => Fk_25 hR h) (And.intro (fun _ _ _ h => Fk_26 hR h) (And.intro (fun _ _ _ h => Fk_27 hR h) (And.intro (fun _ _ _ h => Fk_28 hR h) (And.intro (fun _ _ _ h => Fk_29 hR h) (And.intro (fun _ _ _ h => Fk_30 hR h) (And.intro (fun _ _ _ h => Fk_31 hR h) (True.intro))))))))))))))))
noncomputable def mjFb_2 (R : mjR) : List mjFT := [F_32 R, F_33 R, F_34 R, F_no, F_36 R, F_37 R, F_38 R, F_39 R, F_40 R, F_no, F_42 R, F_43 R, F_44 R, F_45 R, F_46 R, F_47 R]
theorem mjFk_2 {R : mjR} {d : Nat} (hR : mjC R d) : mjAF (d + 1) 32 (mjFb_2 R) :=
  And.intro (fun _ _ _ h => Fk_32 hR h) (And.intro (fun _ _ _ h => Fk_33 hR h) (And.intro (fun _ _ _ h => Fk_34 hR h) (And.intro (fun _ _ _ h => mj_no h) (And.intro (fun _ _ _ h => Fk_36 hR h) (And.intro (fun _ _ _ h => Fk_37 hR h) (And.intro (fun _ _ _ h => Fk_38 hR h) (And.intro (fun _ _ _ h => Fk_39 hR h) (And.intro (fun _ _ _ h => Fk_40 hR h) (And.intro (fun _ _ _ h => mj_no h) (And.intro (fun _ _ _ h => Fk_42 hR h) (And.intro (fun _ _ _ h => Fk_43 hR h) (And.intro (fun _ _ _ h => Fk_44 hR h) (And.intro (fun _ _ _ h => Fk_45 hR h) (And.intro (fun _ _ _ h => Fk_46 hR h) (And.intro (fun _ _ _ h => Fk_47 hR h) (True.intro))))))))))))))))
noncomputable def mjFb_3 (R : mjR) : List mjFT := [F_48 R, F_49 R, F_50 R, F_51 R, F_52 R, F_no, F_54 R, F_55 R, F_56 R, F_57 R, F_58 R, F_59 R, F_60 R, F_61 R, F_62 R, F_63 R]
theorem mjFk_3 {R : mjR} {d : Nat} (hR : mjC R d) : mjAF (d + 1) 48 (mjFb_3 R) :=
  And.intro (fun _ _ _ h => Fk_48 hR h) (And.intro (fun _ _ _ h => Fk_49 hR h) (And.intro (fun _ _ _ h => Fk_50 hR h) (And.intro (fun _ _ _ h => Fk_51 hR h) (And.intro (fun _ _ _ h => Fk_52 hR h) (And.intro (fun _ _ _ h => mj_no h) (And.intro (fun _ _ _ h => Fk_54 hR h) (And.intro (fun _ _ _ h => Fk_55 hR h) (And.intro (fun _ _ _ h => Fk_56 hR h) (And.intro (fun _ _ _ h => Fk_57 hR h) (And.intro (fun _ _ _ h => Fk_58 hR h) (And.intro (fun _ _ _ h => Fk_59 hR h) (And.intro (fun _ _ _ h => Fk_60 hR h) (And.intro (fun _ _ _ h => Fk_61 hR h) (And.intro (fun _ _ _ h => Fk_62 hR h) (And.intro (fun _ _ _ h => Fk_63 hR h) (True.intro))))))))))))))))
noncomputable def mjFb_4 (R : mjR) : List mjFT := [F_64 R, F_65 R, F_66 R, F_67 R, F_68 R, F_69 R, F_70 R, F_71 R, F_no, F_73 R, F_74 R, F_75 R, F_76 R, F_77 R, F_78 R, F_79 R]
theorem mjFk_4 {R : mjR} {d : Nat} (hR : mjC R d) : mjAF (d + 1) 64 (mjFb_4 R) :=
  And.intro (fun _ _ _ h => Fk_64 hR h) (And.intro (fun _ _ _ h => Fk_65 hR h) (And.intro (fun _ _ _ h => Fk_66 hR h) (And.intro (fun _ _ _ h => Fk_67 hR h) (And.intro (fun _ _ _ h => Fk_68 hR h) (And.intro (fun _ _ _ h => Fk_69 hR h) (And.intro (fun _ _ _ h => Fk_70 hR h) (And.intro (fun _ _ _ h => Fk_71 hR h) (And.intro (fun _ _ _ h => mj_no h) (And.intro (fun _ _ _ h => Fk_73 hR h) (And.intro (fun _ _ _ h => Fk_74 hR h) (And.intro (fun _ _ _ h => Fk_75 hR h) (And.intro (fun _ _ _ h => Fk_76 hR h) (And.intro (fun _ _ _ h => Fk_77 hR h) (And.intro (fun _ _ _ h => Fk_78 hR h) (And.intro (fun _ _ _ h => Fk_79 hR h) (True.intro))))))))))))))))
noncomputable def mjFb_5 (R : mjR) : List mjFT := [F_80 R, F_81 R, F_82 R, F_83 R, F_84 R, F_85 R, F_86 R, F_87 R, F_88 R, F_89 R, F_90 R, F_91 R, F_92 R, F_93 R, F_94 R, F_no]
theorem mjFk_5 {R : mjR} {d : Nat} (hR : mjC R d) : mjAF (d + 1) 80 (mjFb_5 R) :=
  And.intro (fun _ _ _ h => Fk_80 hR h) (And.intro (fun _ _ _ h => Fk_81 hR h) (And.intro (fun _ _ _ h => Fk_82 hR h) (And.intro (fun _ _ _ h => Fk_83 hR h) (And.intro (fun _ _ _ h => Fk_84 hR h) (And.intro (fun _ _ _ h => Fk_85 hR h) (And.intro (fun _ _ _ h => Fk_86 hR h) (And.intro (fun _ _ _ h => Fk_87 hR h) (And.intro (fun _ _ _ h => Fk_88 hR h) (And.intro (fun _ _ _ h => Fk_89 hR h) (And.intro (fun _ _ _ h => Fk_90 hR h) (And.intro (fun _ _ _ h => Fk_91 hR h) (And.intro (fun _ _ _ h => Fk_92 hR h) (And.intro (fun _ _ _ h => Fk_93 hR h) (And.intro (fun _ _ _ h => Fk_94 hR h) (And.intro (fun _ _ _ h => mj_no h) (True.intro))))))))))))))))
noncomputable def mjFb_6 (R : mjR) : List mjFT := [F_96 R, F_97 R, F_98 R, F_99 R, F_no, F_101 R, F_102 R, F_103 R, F_104 R, F_105 R, F_106 R, F_107 R, F_108 R, F_109 R, F_110 R, F_111 R]
theorem mjFk_6 {R : mjR} {d : Nat} (hR : mjC R d) : mjAF (d + 1) 96 (mjFb_6 R) :=
  And.intro (fun _ _ _ h => Fk_96 hR h) (And.intro (fun _ _ _ h => Fk_97 hR h) (And.intro (fun _ _ _ h => Fk_98 hR h) (And.intro (fun _ _ _ h => Fk_99 hR h) (And.intro (fun _ _ _ h => mj_no h) (And.intro (fun _ _ _ h => Fk_101 hR h) (And.intro (fun _ _ _ h => Fk_102 hR h) (And.intro (fun _ _ _ h => Fk_103 hR h) (And.intro (fun _ _ _ h => Fk_104 hR h) (And.intro (fun _ _ _ h => Fk_105 hR h) (And.intro (fun _ _ _ h => Fk_106 hR h) (And.intro (fun _ _ _ h => Fk_107 hR h) (And.intro (fun _ _ _ h => Fk_108 hR h) (And.intro (fun _ _ _ h => Fk_109 hR h) (And.intro (fun _ _ _ h => Fk_110 hR h) (And.intro (fun _ _ _ h => Fk_111 hR h) (True.intro))))))))))))))))
noncomputable def mjFb_7 (R : mjR) : List mjFT := [F_112 R, F_113 R, F_114 R, F_115 R, F_116 R, F_117 R, F_118 R, F_119 R, F_120 R, F_121 R, F_122 R, F_123 R, F_124 R, F_no, F_126 R, F_127 R]
theorem mjFk_7 {R : mjR} {d : Nat} (hR : mjC R d) : mjAF (d + 1) 112 (mjFb_7 R) :=
  And.intro (fun _ _ _ h => Fk_112 hR h) (And.intro (fun _ _ _ h => Fk_113 hR h) (And.intro (fun _ _ _ h => Fk_114 hR h) (And.intro (fun _ _ _ h => Fk_115 hR h) (And.intro (fun _ _ _ h => Fk_116 hR h) (And.intro (fun _ _ _ h => Fk_117 hR h) (And.intro (fun _ _ _ h => Fk_118 hR h) (And.intro (fun _ _ _ h => Fk_119 hR h) (And.intro (fun _ _ _ h => Fk_120 hR h) (And.intro (fun _ _ _ h => Fk_121 hR h) (And.intro (fun _ _ _ h => Fk_122 hR h) (And.intro (fun _ _ _ h => Fk_123 hR h) (And.intro (fun _ _ _ h => Fk_124 hR h) (And.intro (fun _ _ _ h => mj_no h) (And.intro (fun _ _ _ h => Fk_126 hR h) (And.intro (fun _ _ _ h => Fk_127 hR h) (True.intro))))))))))))))))
noncomputable def mjFb_8 (R : mjR) : List mjFT := [F_128 R, F_129 R, F_130 R, F_131 R, F_132 R, F_133 R, F_134 R, F_135 R, F_136 R, F_137 R, F_138 R, F_139 R, F_140 R, F_141 R, F_142 R, F_143 R]
theorem mjFk_8 {R : mjR} {d : Nat} (hR : mjC R d) : mjAF (d + 1) 128 (mjFb_8 R) :=
  And.intro (fun _ _ _ h => Fk_128 hR h) (And.intro (fun _ _ _ h => Fk_129 hR h) (And.intro (fun _ _ _ h => Fk_130 hR h) (And.intro (fun _ _ _ h => Fk_131 hR h) (And.intro (fun _ _ _ h => Fk_132 hR h) (And.intro (fun _ _ _ h => Fk_133 hR h) (And.intro (fun _ _ _ h => Fk_134 hR h) (And.intro (fun _ _ _ h => Fk_135 hR h) (And.intro (fun _ _ _ h => Fk_136 hR h) (And.intro (fun _ _ _ h => Fk_137 hR h) (And.intro (fun _ _ _ h => Fk_138 hR h) (And.intro (fun _ _ _ h => Fk_139 hR h) (And.intro (fun _ _ _ h => Fk_140 hR h) (And.intro (fun _ _ _ h => Fk_141 hR h) (And.intro (fun _ _ _ h => Fk_142 hR h) (And.intro (fun _ _ _ h => Fk_143 hR h) (True.intro))))))))))))))))
noncomputable def mjFb_9 (R : mjR) : List mjFT := [F_144 R, F_145 R, F_146 R, F_147 R, F_148 R, F_149 R, F_150 R, F_151 R, F_no, F_153 R, F_154 R, F_155 R, F_156 R, F_157 R, F_158 R, F_159 R]
theorem mjFk_9 {R : mjR} {d : Nat} (hR : mjC R d) : mjAF (d + 1) 144 (mjFb_9 R) :=
  And.intro (fun _ _ _ h => Fk_144 hR h) (And.intro (fun _ _ _ h => Fk_145 hR h) (And.intro (fun _ _ _ h => Fk_146 hR h) (And.intro (fun _ _ _ h => Fk_147 hR h) (And.intro (fun _ _ _ h => Fk_148 hR h) (And.intro (fun _ _ _ h => Fk_149 hR h) (And.intro (fun _ _ _ h => Fk_150 hR h) (And.intro (fun _ _ _ h => Fk_151 hR h) (And.intro (fun _ _ _ h => mj_no h) (And.intro (fun _ _ _ h => Fk_153 hR h) (And.intro (fun _ _ _ h => Fk_154 hR h) (And.intro (fun _ _ _ h => Fk_155 hR h) (And.intro (fun _ _ _ h => Fk_156 hR h) (And.intro (fun _ _ _ h => Fk_157 hR h) (And.intro (fun _ _ _ h => Fk_158 hR h) (And.intro (fun _ _ _ h => Fk_159 hR h) (True.intro))))))))))))))))
noncomputable def mjFb_10 (R : mjR) : List mjFT := [F_160 R, F_161 R, F_162 R, F_163 R, F_164 R, F_165 R, F_166 R, F_167 R, F_168 R, F_169 R, F_170 R, F_171 R, F_172 R, F_173 R, F_174 R, F_175 R]
theorem mjFk_10 {R : mjR} {d : Nat} (hR : mjC R d) : mjAF (d + 1) 160 (mjFb_10 R) :=
  And.intro (fun _ _ _ h => Fk_160 hR h) (And.intro (fun _ _ _ h => Fk_161 hR h) (And.intro (fun _ _ _ h => Fk_162 hR h) (And.intro (fun _ _ _ h => Fk_163 hR h) (And.intro (fun _ _ _ h => Fk_164 hR h) (And.intro (fun _ _ _ h => Fk_165 hR h) (And.intro (fun _ _ _ h => Fk_166 hR h) (And.intro (fun _ _ _ h => Fk_167 hR h) (And.intro (fun _ _ _ h => Fk_168 hR h) (And.intro (fun _ _ _ h => Fk_169 hR h) (And.intro (fun _ _ _ h => Fk_170 hR h) (And.intro (fun _ _ _ h => Fk_171 hR h) (And.intro (fun _ _ _ h => Fk_172 hR h) (And.intro (fun _ _ _ h => Fk_173 hR h) (And.intro (fun _ _ _ h => Fk_174 hR h) (And.intro (fun _ _ _ h => Fk_175 hR h) (True.intro))))))))))))))))
noncomputable def mjFb_11 (R : mjR) : List mjFT := [F_176 R, F_177 R, F_178 R, F_179 R, F_180 R, F_181 R, F_no, F_183 R, F_184 R, F_185 R, F_186 R, F_187 R, F_188 R, F_189 R, F_190 R, F_191 R]
theorem mjFk_11 {R : mjR} {d : Nat} (hR : mjC R d) : mjAF (d + 1) 176 (mjFb_11 R) :=
  And.intro (fun _ _ _ h => Fk_176 hR h) (And.intro (fun _ _ _ h => Fk_177 hR h) (And.intro (fun _ _ _ h => Fk_178 hR h) (And.intro (fun _ _ _ h => Fk_179 hR h) (And.intro (fun _ _ _ h => Fk_180 hR h) (And.intro (fun _ _ _ h => Fk_181 hR h) (And.intro (fun _ _ _ h => mj_no h) (And.intro (fun _ _ _ h => Fk_183 hR h) (And.intro (fun _ _ _ h => Fk_184 hR h) (And.intro (fun _ _ _ h => Fk_185 hR h) (And.intro (fun _ _ _ h => Fk_186 hR h) (And.intro (fun _ _ _ h => Fk_187 hR h) (And.intro (fun _ _ _ h => Fk_188 hR h) (And.intro (fun _ _ _ h => Fk_189 hR h) (And.intro (fun _ _ _ h => Fk_190 hR h) (And.intro (fun _ _ _ h => Fk_191 hR h) (True.intro))))))))))))))))
noncomputable def mjFb_12 (R : mjR) : List mjFT := [F_192 R, F_193 R, F_194 R, F_195 R, F_196 R, F_197 R, F_198 R, F_199 R, F_200 R, F_no, F_202 R, F_203 R, F_204 R, F_205 R, F_206 R, F_207 R]
theorem mjFk_12 {R : mjR} {d : Nat} (hR : mjC R d) : mjAF (d + 1) 192 (mjFb_12 R) :=
  And.intro (fun _ _ _ h => Fk_192 hR h) (And.intro (fun _ _ _ h => Fk_193 hR h) (And.intro (fun _ _ _ h => Fk_194 hR h) (And.intro (fun _ _ _ h => Fk_195 hR h) (And.intro (fun _ _ _ h => Fk_196 hR h) (And.intro (fun _ _ _ h => Fk_197 hR h) (And.intro (fun _ _ _ h => Fk_198 hR h) (And.intro (fun _ _ _ h => Fk_199 hR h) (And.intro (fun _ _ _ h => Fk_200 hR h) (And.intro (fun _ _ _ h => mj_no h) (And.intro (fun _ _ _ h => Fk_202 hR h) (And.intro (fun _ _ _ h => Fk_203 hR h) (And.intro (fun _ _ _ h => Fk_204 hR h) (And.intro (fun _ _ _ h => Fk_205 hR h) (And.intro (fun _ _ _ h => Fk_206 hR h) (And.intro (fun _ _ _ h => Fk_207 hR h) (True.intro))))))))))))))))
noncomputable def mjFb_13 (R : mjR) : List mjFT := [F_208 R, F_209 R, F_210 R, F_211 R, F_212 R, F_213 R, F_214 R, F_215 R, F_216 R, F_217 R, F_218 R, F_219 R, F_220 R, F_221 R, F_222 R, F_223 R]
theorem mjFk_13 {R : mjR} {d : Nat} (hR : mjC R d) : mjAF (d + 1) 208 (mjFb_13 R) :=
  And.intro (fun _ _ _ h => Fk_208 hR h) (And.intro (fun _ _ _ h => Fk_209 hR h) (And.intro (fun _ _ _ h => Fk_210 hR h) (And.intro (fun _ _ _ h => Fk_211 hR h) (And.intro (fun _ _ _ h => Fk_212 hR h) (And.intro (fun _ _ _ h => Fk_213 hR h) (And.intro (fun _ _ _ h => Fk_214 hR h) (And.intro (fun _ _ _ h => Fk_215 hR h) (And.intro (fun _ _ _ h => Fk_216 hR h) (And.intro (fun _ _ _ h => Fk_217 hR h) (And.intro (fun _ _ _ h => Fk_218 hR h) (And.intro (fun _ _ _ h => Fk_219 hR h) (And.intro (fun _ _ _ h => Fk_220 hR h) (And.intro (fun _ _ _ h => Fk_221 hR h) (And.intro (fun _ _ _ h => Fk_222 hR h) (And.intro (fun _ _ _ h => Fk_223 hR h) (True.intro))))))))))))))))
noncomputable def mjFb_14 (R : mjR) : List mjFT := [F_224 R, F_no, F_226 R, F_227 R, F_228 R, F_229 R, F_230 R, F_231 R, F_232 R, F_233 R, F_234 R, F_235 R, F_236 R, F_237 R, F_238 R, F_239 R]
theorem mjFk_14 {R : mjR} {d : Nat} (hR : mjC R d) : mjAF (d + 1) 224 (mjFb_14 R) :=
  And.intro (fun _ _ _ h => Fk_224 hR h) (And.intro (fun _ _ _ h => mj_no h) (And.intro (fun _ _ _ h => Fk_226 hR h) (And.intro (fun _ _ _ h => Fk_227 hR h) (And.intro (fun _ _ _ h => Fk_228 hR h) (And.intro (fun _ _ _ h => Fk_229 hR h) (And.intro (fun _ _ _ h => Fk_230 hR h) (And.intro (fun _ _ _ h => Fk_231 hR h) (And.intro (fun _ _ _ h => Fk_232 hR h) (And.intro (fun _ _ _ h => Fk_233 hR h) (And.intro (fun _ _ _ h => Fk_234 hR h) (And.intro (fun _ _ _ h => Fk_235 hR h) (And.intro (fun _ _ _ h => Fk_236 hR h) (And.intro (fun _ _ _ h => Fk_237 hR h) (And.intro (fun _ _ _ h => Fk_238 hR h) (And.intro (fun _ _ _ h => Fk_239 hR h) (True.intro))))))))))))))))
noncomputable def mjFb_15 (R : mjR) : List mjFT := [F_240 R, F_241 R, F_242 R, F_243 R, F_244 R, F_245 R, F_246 R, F_247 R, F_248 R, F_249 R, F_250 R, F_251 R, F_252 R, F_253 R, F_254 R, F_255 R]
theorem mjFk_15 {R : mjR} {d : Nat} (hR : mjC R d) : mjAF (d + 1) 240 (mjFb_15 R) :=
  And.intro (fun _ _ _ h => Fk_240 hR h) (And.intro (fun _ _ _ h => Fk_241 hR h) (And.intro (fun _ _ _ h => Fk_242 hR h) (And.intro (fun _ _ _ h => Fk_243 hR h) (And.intro (fun _ _ _ h => Fk_244 hR h) (And.intro (fun _ _ _ h => Fk_245 hR h) (And.intro (fun _ _ _ h => Fk_246 hR h) (And.intro (fun _ _ _ h => Fk_247 hR h) (And.intro (fun _ _ _ h => Fk_248 hR h) (And.intro (fun _ _ _ h => Fk_249 hR h) (And.intro (fun _ _ _ h => Fk_250 hR h) (And.intro (fun _ _ _ h => Fk_251 hR h) (And.intro (fun _ _ _ h => Fk_252 hR h) (And.intro (fun _ _ _ h => Fk_253 hR h) (And.intro (fun _ _ _ h => Fk_254 hR h) (And.intro (fun _ _ _ h => Fk_255 hR h) (True.intro))))))))))))))))
noncomputable def mjFb_16 (R : mjR) : List mjFT := [F_256 R, F_257 R, F_258 R, F_259 R, F_260 R, F_261 R, F_262 R, F_263 R, F_264 R, F_265 R, F_266 R, F_267 R, F_268 R, F_269 R, F_270 R, F_271 R]
theorem mjFk_16 {R : mjR} {d : Nat} (hR : mjC R d) : mjAF (d + 1) 256 (mjFb_16 R) :=
  And.intro (fun _ _ _ h => Fk_256 hR h) (And.intro (fun _ _ _ h => Fk_257 hR h) (And.intro (fun _ _ _ h => Fk_258 hR h) (And.intro (fun _ _ _ h => Fk_259 hR h) (And.intro (fun _ _ _ h => Fk_260 hR h) (And.intro (fun _ _ _ h => Fk_261 hR h) (And.intro (fun _ _ _ h => Fk_262 hR h) (And.intro (fun _ _ _ h => Fk_263 hR h) (And.intro (fun _ _ _ h => Fk_264 hR h) (And.intro (fun _ _ _ h => Fk_265 hR h) (And.intro (fun _ _ _ h => Fk_266 hR h) (And.intro (fun _ _ _ h => Fk_267 hR h) (And.intro (fun _ _ _ h => Fk_268 hR h) (And.intro (fun _ _ _ h => Fk_269 hR h) (And.intro (fun _ _ _ h => Fk_270 hR h) (And.intro (fun _ _ _ h => Fk_271 hR h) (True.intro))))))))))))))))
noncomputable def mjFb_17 (R : mjR) : List mjFT := [F_272 R, F_273 R, F_274 R, F_275 R, F_276 R, F_277 R, F_278 R, F_279 R, F_280 R, F_281 R, F_282 R, F_283 R, F_284 R, F_285 R, F_286 R, F_287 R]
theorem mjFk_17 {R : mjR} {d : Nat} (hR : mjC R d) : mjAF (d + 1) 272 (mjFb_17 R) :=
  And.intro (fun _ _ _ h => Fk_272 hR h) (And.intro (fun _ _ _ h => Fk_273 hR h) (And.intro (fun _ _ _ h => Fk_274 hR h) (And.intro (fun _ _ _ h => Fk_275 hR h) (And.intro (fun _ _ _ h => Fk_276 hR h) (And.intro (fun _ _ _ h => Fk_277 hR h) (And.intro (fun _ _ _ h => Fk_278 hR h) (And.intro (fun _ _ _ h => Fk_279 hR h) (And.intro (fun _ _ _ h => Fk_280 hR h) (And.intro (fun _ _ _ h => Fk_281 hR h) (And.intro (fun _ _ _ h => Fk_282 hR h) (And.intro (fun _ _ _ h => Fk_283 hR h) (And.intro (fun _ _ _ h => Fk_284 hR h) (And.intro (fun _ _ _ h => Fk_285 hR h) (And.intro (fun _ _ _ h => Fk_286 hR h) (And.intro (fun _ _ _ h => Fk_287 hR h) (True.intro))))))))))))))))
noncomputable def mjFb_18 (R : mjR) : List mjFT := [F_288 R, F_289 R, F_290 R, F_291 R, F_292 R, F_293 R, F_294 R, F_295 R, F_296 R, F_297 R, F_298 R, F_299 R, F_300 R, F_301 R, F_302 R, F_303 R]
theorem mjFk_18 {R : mjR} {d : Nat} (hR : mjC R d) : mjAF (d + 1) 288 (mjFb_18 R) :=
  And.intro (fun _ _ _ h => Fk_288 hR h) (And.intro (fun _ _ _ h => Fk_289 hR h) (And.intro (fun _ _ _ h => Fk_290 hR h) (And.intro (fun _ _ _ h => Fk_291 hR h) (And.intro (fun _ _ _ h => Fk_292 hR h) (And.intro (fun _ _ _ h => Fk_293 hR h) (And.intro (fun _ _ _ h => Fk_294 hR h) (And.intro (fun _ _ _ h => Fk_295 hR h) (And.intro (fun _ _ _ h => Fk_296 hR h) (And.intro (fun _ _ _ h => Fk_297 hR h) (And.intro (fun _ _ _ h => Fk_298 hR h) (And.intro (fun _ _ _ h => Fk_299 hR h) (And.intro (fun _ _ _ h => Fk_300 hR h) (And.intro (fun _ _ _ h => Fk_301 hR h) (And.intro (fun _ _ _ h => Fk_302 hR h) (And.intro (fun _ _ _ h => Fk_303 hR h) (True.intro))))))))))))))))
noncomputable def mjFb_19 (R : mjR) : List mjFT := [F_304 R, F_305 R, F_306 R, F_307 R, F_308 R, F_309 R, F_310 R, F_311 R, F_312 R, F_313 R, F_314 R, F_315 R, F_316 R, F_317 R, F_318 R, F_319 R]
theorem mjFk_19 {R : mjR} {d : Nat} (hR : mjC R d) : mjAF (d + 1) 304 (mjFb_19 R) :=
  And.intro (fun _ _ _ h => Fk_304 hR h) (And.intro (fun _ _ _ h => Fk_305 hR h) (And.intro (fun _ _ _ h => Fk_306 hR h) (And.intro (fun _ _ _ h => Fk_307 hR h) (And.intro (fun _ _ _ h => Fk_308 hR h) (And.intro (fun _ _ _ h => Fk_309 hR h) (And.intro (fun _ _ _ h => Fk_310 hR h) (And.intro (fun _ _ _ h => Fk_311 hR h) (And.intro (fun _ _ _ h => Fk_312 hR h) (And.intro (fun _ _ _ h => Fk_313 hR h) (And.intro (fun _ _ _ h => Fk_314 hR h) (And.intro (fun _ _ _ h => Fk_315 hR h) (And.intro (fun _ _ _ h => Fk_316 hR h) (And.intro (fun _ _ _ h => Fk_317 hR h) (And.intro (fun _ _ _ h => Fk_318 hR h) (And.intro (fun _ _ _ h => Fk_319 hR h) (True.intro))))))))))))))))
noncomputable def mjFb_20 (R : mjR) : List mjFT := [F_320 R, F_321 R, F_322 R, F_323 R, F_324 R, F_325 R, F_326 R, F_327 R, F_328 R, F_329 R, F_330 R, F_331 R, F_332 R, F_333 R, F_334 R, F_335 R]
theorem mjFk_20 {R : mjR} {d : Nat} (hR : mjC R d) : mjAF (d + 1) 320 (mjFb_20 R) :=
  And.intro (fun _ _ _ h => Fk_320 hR h) (And.intro (fun _ _ _ h => Fk_321 hR h) (And.intro (fun _ _ _ h => Fk_322 hR h) (And.intro (fun _ _ _ h => Fk_323 hR h) (And.intro (fun _ _ _ h => Fk_324 hR h) (And.intro (fun _ _ _ h => Fk_325 hR h) (And.intro (fun _ _ _ h => Fk_326 hR h) (And.intro (fun _ _ _ h => Fk_327 hR h) (And.intro (fun _ _ _ h => Fk_328 hR h) (And.intro (fun _ _ _ h => Fk_329 hR h) (And.intro (fun _ _ _ h => Fk_330 hR h) (And.intro (fun _ _ _ h => Fk_331 hR h) (And.intro (fun _ _ _ h => Fk_332 hR h) (And.intro (fun _ _ _ h => Fk_333 hR h) (And.intro (fun _ _ _ h => Fk_334 hR h) (And.intro (fun _ _ _ h => Fk_335 hR h) (True.intro))))))))))))))))
noncomputable def mjFb_21 (R : mjR) : List mjFT := [F_336 R, F_337 R, F_338 R, F_339 R, F_340 R, F_341 R, F_342 R, F_343 R, F_344 R, F_345 R, F_346 R, F_347 R, F_348 R, F_349 R, F_350 R, F_351 R]
theorem mjFk_21 {R : mjR} {d : Nat} (hR : mjC R d) : mjAF (d + 1) 336 (mjFb_21 R) :=
  And.intro (fun _ _ _ h => Fk_336 hR h) (And.intro (fun _ _ _ h => Fk_337 hR h) (And.intro (fun _ _ _ h => Fk_338 hR h) (And.intro (fun _ _ _ h => Fk_339 hR h) (And.intro (fun _ _ _ h => Fk_340 hR h) (And.intro (fun _ _ _ h => Fk_341 hR h) (And.intro (fun _ _ _ h => Fk_342 hR h) (And.intro (fun _ _ _ h => Fk_343 hR h) (And.intro (fun _ _ _ h => Fk_344 hR h) (And.intro (fun _ _ _ h => Fk_345 hR h) (And.intro (fun _ _ _ h => Fk_346 hR h) (And.intro (fun _ _ _ h => Fk_347 hR h) (And.intro (fun _ _ _ h => Fk_348 hR h) (And.intro (fun _ _ _ h => Fk_349 hR h) (And.intro (fun _ _ _ h => Fk_350 hR h) (And.intro (fun _ _ _ h => Fk_351 hR h) (True.intro))))))))))))))))
noncomputable def mjFb_22 (R : mjR) : List mjFT := [F_352 R, F_353 R, F_354 R, F_355 R, F_356 R, F_357 R, F_358 R, F_359 R, F_360 R, F_361 R, F_362 R, F_363 R, F_364 R, F_365 R, F_366 R, F_367 R]
theorem mjFk_22 {R : mjR} {d : Nat} (hR : mjC R d) : mjAF (d + 1) 352 (mjFb_22 R) :=
  And.intro (fun _ _ _ h => Fk_352 hR h) (And.intro (fun _ _ _ h => Fk_353 hR h) (And.intro (fun _ _ _ h => Fk_354 hR h) (And.intro (fun _ _ _ h => Fk_355 hR h) (And.intro (fun _ _ _ h => Fk_356 hR h) (And.intro (fun _ _ _ h => Fk_357 hR h) (And.intro (fun _ _ _ h => Fk_358 hR h) (And.intro (fun _ _ _ h => Fk_359 hR h) (And.intro (fun _ _ _ h => Fk_360 hR h) (And.intro (fun _ _ _ h => Fk_361 hR h) (And.intro (fun _ _ _ h => Fk_362 hR h) (And.intro (fun _ _ _ h => Fk_363 hR h) (And.intro (fun _ _ _ h => Fk_364 hR h) (And.intro (fun _ _ _ h => Fk_365 hR h) (And.intro (fun _ _ _ h => Fk_366 hR h) (And.intro (fun _ _ _ h => Fk_367 hR h) (True.intro))))))))))))))))
noncomputable def mjFb_23 (R : mjR) : List mjFT := [F_368 R, F_369 R, F_370 R, F_371 R, F_372 R, F_373 R, F_374 R, F_375 R, F_376 R, F_377 R, F_378 R, F_379 R, F_380 R, F_381 R, F_382 R]
theorem mjFk_23 {R : mjR} {d : Nat} (hR : mjC R d) : mjAF (d + 1) 368 (mjFb_23 R) :=
  And.intro (fun _ _ _ h => Fk_368 hR h) (And.intro (fun _ _ _ h => Fk_369 hR h) (And.intro (fun _ _ _ h => Fk_370 hR h) (And.intro (fun _ _ _ h => Fk_371 hR h) (And.intro (fun _ _ _ h => Fk_372 hR h) (And.intro (fun _ _ _ h => Fk_373 hR h) (And.intro (fun _ _ _ h => Fk_374 hR h) (And.intro (fun _ _ _ h => Fk_375 hR h) (And.intro (fun _ _ _ h => Fk_376 hR h) (And.intro (fun _ _ _ h => Fk_377 hR h) (And.intro (fun _ _ _ h => Fk_378 hR h) (And.intro (fun _ _ _ h => Fk_379 hR h) (And.intro (fun _ _ _ h => Fk_380 hR h) (And.intro (fun _ _ _ h => Fk_381 hR h) (And.intro (fun _ _ _ h => Fk_382 hR h) (True.intro)))))))))))))))
noncomputable def mjFt (R : mjR) : List (List mjFT) := [mjFb_0 R, mjFb_1 R, mjFb_2 R, mjFb_3 R, mjFb_4 R, mjFb_5 R, mjFb_6 R, mjFb_7 R, mjFb_8 R, mjFb_9 R, mjFb_10 R, mjFb_11 R, mjFb_12 R, mjFb_13 R, mjFb_14 R, mjFb_15 R, mjFb_16 R, mjFb_17 R, mjFb_18 R, mjFb_19 R, mjFb_20 R, mjFb_21 R, mjFb_22 R, mjFb_23 R]
noncomputable def mjFn (R : mjR) (j : Nat) (As : List Value) (hp : mjH) : mjU := match (mjFt R)[j / 16]? with
  | some b => match b[j % 16]? with
    | some f => f As hp
    | none => none
  | none => none
set_option maxRecDepth 20000 in
theorem mjFn_ok {R : mjR} {d : Nat} (hR : mjC R d) : mjC (mjFn R) (d + 1) := by
  intro j As hp q h
  unfold mjFn at h
  split at h
  · next b hb =>
    split at h
    · next f hf =>
      have hr : j % 16 < 16 := Nat.mod_lt _ (by decide)
      have hj : j = 16 * (j / 16) + j % 16 := (Nat.div_add_mod j 16).symm
      have hq : j / 16 < 24 := (List.getElem?_eq_some_iff.mp hb).1
      rw [hj]
      generalize j / 16 = z at hb hq
      generalize j % 16 = r at hf hr
      match z, hq with
      | 0, _ => cases hb; exact mjAF_at _ _ r f (mjFk_0 hR) hf As hp q h
      | 1, _ => cases hb; exact mjAF_at _ _ r f (mjFk_1 hR) hf As hp q h
      | 2, _ => cases hb; exact mjAF_at _ _ r f (mjFk_2 hR) hf As hp q h
      | 3, _ => cases hb; exact mjAF_at _ _ r f (mjFk_3 hR) hf As hp q h
      | 4, _ => cases hb; exact mjAF_at _ _ r f (mjFk_4 hR) hf As hp q h
      | 5, _ => cases hb; exact mjAF_at _ _ r f (mjFk_5 hR) hf As hp q h
      | 6, _ => cases hb; exact mjAF_at _ _ r f (mjFk_6 hR) hf As hp q h
      | 7, _ => cases hb; exact mjAF_at _ _ r f (mjFk_7 hR) hf As hp q h
      | 8, _ => cases hb; exact mjAF_at _ _ r f (mjFk_8 hR) hf As hp q h
      | 9, _ => cases hb; exact mjAF_at _ _ r f (mjFk_9 hR) hf As hp q h
      | 10, _ => cases hb; exact mjAF_at _ _ r f (mjFk_10 hR) hf As hp q h
      | 11, _ => cases hb; exact mjAF_at _ _ r f (mjFk_11 hR) hf As hp q h
      | 12, _ => cases hb; exact mjAF_at _ _ r f (mjFk_12 hR) hf As hp q h
      | 13, _ => cases hb; exact mjAF_at _ _ r f (mjFk_13 hR) hf As hp q h
      | 14, _ => cases hb; exact mjAF_at _ _ r f (mjFk_14 hR) hf As hp q h
      | 15, _ => cases hb; exact mjAF_at _ _ r f (mjFk_15 hR) hf As hp q h
      | 16, _ => cases hb; exact mjAF_at _ _ r f (mjFk_16 hR) hf As hp q h
      | 17, _ => cases hb; exact mjAF_at _ _ r f (mjFk_17 hR) hf As hp q h
      | 18, _ => cases hb; exact mjAF_at _ _ r f (mjFk_18 hR) hf As hp q h
      | 19, _ => cases hb; exact mjAF_at _ _ r f (mjFk_19 hR) hf As hp q h
      | 20, _ => cases hb; exact mjAF_at _ _ r f (mjFk_20 hR) hf As hp q h
      | 21, _ => cases hb; exact mjAF_at _ _ r f (mjFk_21 hR) hf As hp q h
      | 22, _ => cases hb; exact mjAF_at _ _ r f (mjFk_22 hR) hf As hp q h
      | 23, _ => cases hb; exact mjAF_at _ _ r f (mjFk_23 hR) hf As hp q h
    · exact mj_no h
  · exact mj_no h
noncomputable def mjF (d : Nat) : mjR := Nat.rec (motive := fun _ => mjR) (fun _ _ _ => none) (fun _ R => mjFn R) d
theorem mjF_ok (d : Nat) : mjC (mjF d) d := by
  induction d with
  | zero => intro j As hp q h; exact mj_no h
  | succ d ih => exact mjFn_ok ih
theorem e_1 {d : Nat} {a0 : Nat} {a1 : Int32} {a2 : Int32} {a3 : Int32} {hp : mjH} : mjF (d + 1) 1 [.ref a0, .int a1, .int a2, .int a3] hp = f_1 (mjF d) a0 a1 a2 a3 hp := rfl
theorem e_2 {d : Nat} {a0 : Nat} {a1 : Int32} {hp : mjH} : mjF (d + 1) 2 [.ref a0, .int a1] hp = f_2 (mjF d) a0 a1 hp := rfl
theorem e_4 {d : Nat} {a0 : Nat} {a1 : Nat} {hp : mjH} : mjF (d + 1) 4 [.ref a0, .ref a1] hp = f_4 (mjF d) a0 a1 hp := rfl
theorem e_5 {d : Nat} {a0 : Nat} {a1 : Int32} {hp : mjH} : mjF (d + 1) 5 [.ref a0, .int a1] hp = f_5 (mjF d) a0 a1 hp := rfl
theorem e_6 {d : Nat} {a0 : Nat} {a1 : Int64} {a2 : Int32} {hp : mjH} : mjF (d + 1) 6 [.ref a0, .long a1, .int a2] hp = f_6 (mjF d) a0 a1 a2 hp := rfl
theorem e_7 {d : Nat} {a0 : Nat} {hp : mjH} : mjF (d + 1) 7 [.ref a0] hp = f_7 (mjF d) a0 hp := rfl
theorem e_8 {d : Nat} {a0 : Nat} {hp : mjH} : mjF (d + 1) 8 [.ref a0] hp = f_8 (mjF d) a0 hp := rfl
theorem e_9 {d : Nat} {a0 : Nat} {hp : mjH} : mjF (d + 1) 9 [.ref a0] hp = f_9 (mjF d) a0 hp := rfl
theorem e_10 {d : Nat} {a0 : Nat} {hp : mjH} : mjF (d + 1) 10 [.ref a0] hp = f_10 (mjF d) a0 hp := rfl
theorem e_11 {d : Nat} {a0 : Nat} {hp : mjH} : mjF (d + 1) 11 [.ref a0] hp = f_11 (mjF d) a0 hp := rfl
theorem e_12 {d : Nat} {a0 : Nat} {hp : mjH} : mjF (d + 1) 12 [.ref a0] hp = f_12 (mjF d) a0 hp := rfl
theorem e_13 {d : Nat} {a0 : Nat} {hp : mjH} : mjF (d + 1) 13 [.ref a0] hp = f_13 (mjF d) a0 hp := rfl
theorem e_14 {d : Nat} {a0 : Nat} {hp : mjH} : mjF (d + 1) 14 [.ref a0] hp = f_14 (mjF d) a0 hp := rfl
theorem e_15 {d : Nat} {a0 : Nat} {hp : mjH} : mjF (d + 1) 15 [.ref a0] hp = f_15 (mjF d) a0 hp := rfl
theorem e_16 {d : Nat} {a0 : Nat} {hp : mjH} : mjF (d + 1) 16 [.ref a0] hp = f_16 (mjF d) a0 hp := rfl
theorem e_17 {d : Nat} {a0 : Nat} {hp : mjH} : mjF (d + 1) 17 [.ref a0] hp = f_17 (mjF d) a0 hp := rfl
theorem e_18 {d : Nat} {a0 : Nat} {a1 : Int64} {hp : mjH} : mjF (d + 1) 18 [.ref a0, .long a1] hp = f_18 (mjF d) a0 a1 hp := rfl
theorem e_19 {d : Nat} {a0 : Nat} {a1 : Int32} {hp : mjH} : mjF (d + 1) 19 [.ref a0, .int a1] hp = f_19 (mjF d) a0 a1 hp := rfl
theorem e_20 {d : Nat} {a0 : Nat} {a1 : Int32} {hp : mjH} : mjF (d + 1) 20 [.ref a0, .int a1] hp = f_20 (mjF d) a0 a1 hp := rfl
theorem e_21 {d : Nat} {a0 : Nat} {hp : mjH} : mjF (d + 1) 21 [.ref a0] hp = f_21 (mjF d) a0 hp := rfl
theorem e_22 {d : Nat} {a0 : Nat} {a1 : Int32} {a2 : Int32} {hp : mjH} : mjF (d + 1) 22 [.ref a0, .int a1, .int a2] hp = f_22 (mjF d) a0 a1 a2 hp := rfl
theorem e_23 {d : Nat} {a0 : Nat} {a1 : Int32} {a2 : Int32} {a3 : Int32} {hp : mjH} : mjF (d + 1) 23 [.ref a0, .int a1, .int a2, .int a3] hp = f_23 (mjF d) a0 a1 a2 a3 hp := rfl
theorem e_24 {d : Nat} {a0 : Nat} {a1 : Int32} {a2 : Int32} {hp : mjH} : mjF (d + 1) 24 [.ref a0, .int a1, .int a2] hp = f_24 (mjF d) a0 a1 a2 hp := rfl
theorem e_25 {d : Nat} {a0 : Nat} {a1 : Int32} {a2 : Int32} {a3 : Int32} {hp : mjH} : mjF (d + 1) 25 [.ref a0, .int a1, .int a2, .int a3] hp = f_25 (mjF d) a0 a1 a2 a3 hp := rfl
theorem e_26 {d : Nat} {a0 : Nat} {a1 : Int32} {a2 : Int32} {hp : mjH} : mjF (d + 1) 26 [.ref a0, .int a1, .int a2] hp = f_26 (mjF d) a0 a1 a2 hp := rfl
theorem e_27 {d : Nat} {a0 : Nat} {a1 : Int32} {a2 : Int32} {hp : mjH} : mjF (d + 1) 27 [.ref a0, .int a1, .int a2] hp = f_27 (mjF d) a0 a1 a2 hp := rfl
theorem e_28 {d : Nat} {a0 : Nat} {a1 : Int32} {a2 : Int32} {a3 : Int32} {hp : mjH} : mjF (d + 1) 28 [.ref a0, .int a1, .int a2, .int a3] hp = f_28 (mjF d) a0 a1 a2 a3 hp := rfl
theorem e_29 {d : Nat} {a0 : Nat} {a1 : Int32} {hp : mjH} : mjF (d + 1) 29 [.ref a0, .int a1] hp = f_29 (mjF d) a0 a1 hp := rfl
theorem e_30 {d : Nat} {a0 : Int32} {hp : mjH} : mjF (d + 1) 30 [.int a0] hp = f_30 (mjF d) a0 hp := rfl
theorem e_31 {d : Nat} {a0 : Nat} {hp : mjH} : mjF (d + 1) 31 [.ref a0] hp = f_31 (mjF d) a0 hp := rfl
theorem e_32 {d : Nat} {a0 : Nat} {a1 : Int32} {hp : mjH} : mjF (d + 1) 32 [.ref a0, .int a1] hp = f_32 (mjF d) a0 a1 hp := rfl
theorem e_33 {d : Nat} {a0 : Nat} {hp : mjH} : mjF (d + 1) 33 [.ref a0] hp = f_33 (mjF d) a0 hp := rfl
theorem e_34 {d : Nat} {a0 : Nat} {hp : mjH} : mjF (d + 1) 34 [.ref a0] hp = f_34 (mjF d) a0 hp := rfl
theorem e_36 {d : Nat} {a0 : Nat} {hp : mjH} : mjF (d + 1) 36 [.ref a0] hp = f_36 (mjF d) a0 hp := rfl
theorem e_37 {d : Nat} {a0 : Nat} {a1 : Int32} {a2 : Int32} {a3 : Int32} {hp : mjH} : mjF (d + 1) 37 [.ref a0, .int a1, .int a2, .int a3] hp = f_37 (mjF d) a0 a1 a2 a3 hp := rfl
theorem e_38 {d : Nat} {a0 : Nat} {hp : mjH} : mjF (d + 1) 38 [.ref a0] hp = f_38 (mjF d) a0 hp := rfl
theorem e_39 {d : Nat} {a0 : Nat} {a1 : Int32} {a2 : Int32} {hp : mjH} : mjF (d + 1) 39 [.ref a0, .int a1, .int a2] hp = f_39 (mjF d) a0 a1 a2 hp := rfl
theorem e_40 {d : Nat} {a0 : Nat} {a1 : Int32} {a2 : Int32} {hp : mjH} : mjF (d + 1) 40 [.ref a0, .int a1, .int a2] hp = f_40 (mjF d) a0 a1 a2 hp := rfl
theorem e_42 {d : Nat} {a0 : Nat} {a1 : Int32} {hp : mjH} : mjF (d + 1) 42 [.ref a0, .int a1] hp = f_42 (mjF d) a0 a1 hp := rfl
theorem e_43 {d : Nat} {a0 : Nat} {a1 : Int32} {hp : mjH} : mjF (d + 1) 43 [.ref a0, .int a1] hp = f_43 (mjF d) a0 a1 hp := rfl
theorem e_44 {d : Nat} {a0 : Nat} {a1 : Int32} {a2 : Int32} {a3 : Int32} {hp : mjH} : mjF (d + 1) 44 [.ref a0, .int a1, .int a2, .int a3] hp = f_44 (mjF d) a0 a1 a2 a3 hp := rfl
theorem e_45 {d : Nat} {a0 : Nat} {a1 : Int32} {a2 : Int32} {hp : mjH} : mjF (d + 1) 45 [.ref a0, .int a1, .int a2] hp = f_45 (mjF d) a0 a1 a2 hp := rfl
theorem e_46 {d : Nat} {a0 : Nat} {a1 : Int32} {hp : mjH} : mjF (d + 1) 46 [.ref a0, .int a1] hp = f_46 (mjF d) a0 a1 hp := rfl
theorem e_47 {d : Nat} {a0 : Nat} {a1 : Int32} {a2 : Int32} {a3 : Int32} {hp : mjH} : mjF (d + 1) 47 [.ref a0, .int a1, .int a2, .int a3] hp = f_47 (mjF d) a0 a1 a2 a3 hp := rfl
theorem e_48 {d : Nat} {a0 : Nat} {a1 : Int32} {hp : mjH} : mjF (d + 1) 48 [.ref a0, .int a1] hp = f_48 (mjF d) a0 a1 hp := rfl
theorem e_49 {d : Nat} {a0 : Nat} {a1 : Int32} {a2 : Int32} {hp : mjH} : mjF (d + 1) 49 [.ref a0, .int a1, .int a2] hp = f_49 (mjF d) a0 a1 a2 hp := rfl
theorem e_50 {d : Nat} {a0 : Nat} {a1 : Int32} {a2 : Int32} {a3 : Int32} {hp : mjH} : mjF (d + 1) 50 [.ref a0, .int a1, .int a2, .int a3] hp = f_50 (mjF d) a0 a1 a2 a3 hp := rfl
theorem e_51 {d : Nat} {a0 : Nat} {a1 : Int32} {hp : mjH} : mjF (d + 1) 51 [.ref a0, .int a1] hp = f_51 (mjF d) a0 a1 hp := rfl
theorem e_52 {d : Nat} {a0 : Nat} {a1 : Int32} {a2 : Int32} {hp : mjH} : mjF (d + 1) 52 [.ref a0, .int a1, .int a2] hp = f_52 (mjF d) a0 a1 a2 hp := rfl
theorem e_54 {d : Nat} {a0 : Nat} {a1 : Nat} {a2 : Int32} {hp : mjH} : mjF (d + 1) 54 [.ref a0, .ref a1, .int a2] hp = f_54 (mjF d) a0 a1 a2 hp := rfl
theorem e_55 {d : Nat} {a0 : Nat} {hp : mjH} : mjF (d + 1) 55 [.ref a0] hp = f_55 (mjF d) a0 hp := rfl
theorem e_56 {d : Nat} {a0 : Nat} {a1 : Int64} {hp : mjH} : mjF (d + 1) 56 [.ref a0, .long a1] hp = f_56 (mjF d) a0 a1 hp := rfl
theorem e_57 {d : Nat} {a0 : Nat} {a1 : Int32} {a2 : Int32} {hp : mjH} : mjF (d + 1) 57 [.ref a0, .int a1, .int a2] hp = f_57 (mjF d) a0 a1 a2 hp := rfl
theorem e_58 {d : Nat} {a0 : Nat} {a1 : Int32} {a2 : Int64} {hp : mjH} : mjF (d + 1) 58 [.ref a0, .int a1, .long a2] hp = f_58 (mjF d) a0 a1 a2 hp := rfl
theorem e_59 {d : Nat} {a0 : Nat} {hp : mjH} : mjF (d + 1) 59 [.ref a0] hp = f_59 (mjF d) a0 hp := rfl
theorem e_60 {d : Nat} {a0 : Nat} {a1 : Int32} {a2 : Int32} {hp : mjH} : mjF (d + 1) 60 [.ref a0, .int a1, .int a2] hp = f_60 (mjF d) a0 a1 a2 hp := rfl
theorem e_61 {d : Nat} {a0 : Nat} {a1 : Int32} {hp : mjH} : mjF (d + 1) 61 [.ref a0, .int a1] hp = f_61 (mjF d) a0 a1 hp := rfl
theorem e_62 {d : Nat} {a0 : Nat} {a1 : Int32} {a2 : Int32} {a3 : Int32} {hp : mjH} : mjF (d + 1) 62 [.ref a0, .int a1, .int a2, .int a3] hp = f_62 (mjF d) a0 a1 a2 a3 hp := rfl
theorem e_63 {d : Nat} {a0 : Nat} {hp : mjH} : mjF (d + 1) 63 [.ref a0] hp = f_63 (mjF d) a0 hp := rfl
theorem e_64 {d : Nat} {a0 : Nat} {hp : mjH} : mjF (d + 1) 64 [.ref a0] hp = f_64 (mjF d) a0 hp := rfl
theorem e_65 {d : Nat} {a0 : Nat} {a1 : Int32} {a2 : Int32} {hp : mjH} : mjF (d + 1) 65 [.ref a0, .int a1, .int a2] hp = f_65 (mjF d) a0 a1 a2 hp := rfl
theorem e_66 {d : Nat} {a0 : Nat} {hp : mjH} : mjF (d + 1) 66 [.ref a0] hp = f_66 (mjF d) a0 hp := rfl
theorem e_67 {d : Nat} {a0 : Nat} {a1 : Int32} {a2 : Int32} {hp : mjH} : mjF (d + 1) 67 [.ref a0, .int a1, .int a2] hp = f_67 (mjF d) a0 a1 a2 hp := rfl
theorem e_68 {d : Nat} {a0 : Nat} {a1 : Int32} {hp : mjH} : mjF (d + 1) 68 [.ref a0, .int a1] hp = f_68 (mjF d) a0 a1 hp := rfl
theorem e_69 {d : Nat} {a0 : Nat} {a1 : Int32} {hp : mjH} : mjF (d + 1) 69 [.ref a0, .int a1] hp = f_69 (mjF d) a0 a1 hp := rfl
theorem e_70 {d : Nat} {a0 : Nat} {hp : mjH} : mjF (d + 1) 70 [.ref a0] hp = f_70 (mjF d) a0 hp := rfl
theorem e_71 {d : Nat} {a0 : Nat} {a1 : Int32} {a2 : Int32} {hp : mjH} : mjF (d + 1) 71 [.ref a0, .int a1, .int a2] hp = f_71 (mjF d) a0 a1 a2 hp := rfl
theorem e_73 {d : Nat} {a0 : Nat} {hp : mjH} : mjF (d + 1) 73 [.ref a0] hp = f_73 (mjF d) a0 hp := rfl
theorem e_74 {d : Nat} {a0 : Nat} {a1 : Nat} {a2 : Int32} {a3 : Int32} {hp : mjH} : mjF (d + 1) 74 [.ref a0, .ref a1, .int a2, .int a3] hp = f_74 (mjF d) a0 a1 a2 a3 hp := rfl
theorem e_75 {d : Nat} {a0 : Nat} {a1 : Int32} {hp : mjH} : mjF (d + 1) 75 [.ref a0, .int a1] hp = f_75 (mjF d) a0 a1 hp := rfl
theorem e_76 {d : Nat} {a0 : Nat} {hp : mjH} : mjF (d + 1) 76 [.ref a0] hp = f_76 (mjF d) a0 hp := rfl
theorem e_77 {d : Nat} {a0 : Nat} {hp : mjH} : mjF (d + 1) 77 [.ref a0] hp = f_77 (mjF d) a0 hp := rfl
theorem e_78 {d : Nat} {a0 : Nat} {a1 : Int32} {a2 : Int32} {a3 : Int32} {hp : mjH} : mjF (d + 1) 78 [.ref a0, .int a1, .int a2, .int a3] hp = f_78 (mjF d) a0 a1 a2 a3 hp := rfl
theorem e_79 {d : Nat} {a0 : Nat} {a1 : Int32} {hp : mjH} : mjF (d + 1) 79 [.ref a0, .int a1] hp = f_79 (mjF d) a0 a1 hp := rfl
theorem e_80 {d : Nat} {a0 : Nat} {hp : mjH} : mjF (d + 1) 80 [.ref a0] hp = f_80 (mjF d) a0 hp := rfl
theorem e_81 {d : Nat} {a0 : Nat} {a1 : Int32} {a2 : Int32} {hp : mjH} : mjF (d + 1) 81 [.ref a0, .int a1, .int a2] hp = f_81 (mjF d) a0 a1 a2 hp := rfl
theorem e_82 {d : Nat} {a0 : Nat} {a1 : Int32} {a2 : Int32} {hp : mjH} : mjF (d + 1) 82 [.ref a0, .int a1, .int a2] hp = f_82 (mjF d) a0 a1 a2 hp := rfl
theorem e_83 {d : Nat} {a0 : Nat} {a1 : Int32} {hp : mjH} : mjF (d + 1) 83 [.ref a0, .int a1] hp = f_83 (mjF d) a0 a1 hp := rfl
theorem e_84 {d : Nat} {a0 : Nat} {a1 : Int32} {hp : mjH} : mjF (d + 1) 84 [.ref a0, .int a1] hp = f_84 (mjF d) a0 a1 hp := rfl
theorem e_85 {d : Nat} {a0 : Nat} {a1 : Int32} {a2 : Int32} {hp : mjH} : mjF (d + 1) 85 [.ref a0, .int a1, .int a2] hp = f_85 (mjF d) a0 a1 a2 hp := rfl
theorem e_86 {d : Nat} {a0 : Nat} {a1 : Int32} {a2 : Int32} {a3 : Int32} {a4 : Int32} {hp : mjH} : mjF (d + 1) 86 [.ref a0, .int a1, .int a2, .int a3, .int a4] hp = f_86 (mjF d) a0 a1 a2 a3 a4 hp := rfl
theorem e_87 {d : Nat} {a0 : Nat} {a1 : Int32} {a2 : Int32} {a3 : Int32} {hp : mjH} : mjF (d + 1) 87 [.ref a0, .int a1, .int a2, .int a3] hp = f_87 (mjF d) a0 a1 a2 a3 hp := rfl
theorem e_88 {d : Nat} {a0 : Nat} {a1 : Int32} {a2 : Int32} {hp : mjH} : mjF (d + 1) 88 [.ref a0, .int a1, .int a2] hp = f_88 (mjF d) a0 a1 a2 hp := rfl
theorem e_89 {d : Nat} {a0 : Nat} {a1 : Int32} {a2 : Int32} {hp : mjH} : mjF (d + 1) 89 [.ref a0, .int a1, .int a2] hp = f_89 (mjF d) a0 a1 a2 hp := rfl
theorem e_90 {d : Nat} {a0 : Nat} {a1 : Int32} {hp : mjH} : mjF (d + 1) 90 [.ref a0, .int a1] hp = f_90 (mjF d) a0 a1 hp := rfl
theorem e_91 {d : Nat} {a0 : Nat} {a1 : Int32} {a2 : Int32} {hp : mjH} : mjF (d + 1) 91 [.ref a0, .int a1, .int a2] hp = f_91 (mjF d) a0 a1 a2 hp := rfl
theorem e_92 {d : Nat} {a0 : Nat} {a1 : Int32} {hp : mjH} : mjF (d + 1) 92 [.ref a0, .int a1] hp = f_92 (mjF d) a0 a1 hp := rfl
theorem e_93 {d : Nat} {a0 : Nat} {a1 : Int32} {a2 : Int32} {a3 : Int32} {hp : mjH} : mjF (d + 1) 93 [.ref a0, .int a1, .int a2, .int a3] hp = f_93 (mjF d) a0 a1 a2 a3 hp := rfl
theorem e_94 {d : Nat} {a0 : Nat} {a1 : Int32} {a2 : Int32} {hp : mjH} : mjF (d + 1) 94 [.ref a0, .int a1, .int a2] hp = f_94 (mjF d) a0 a1 a2 hp := rfl
theorem e_96 {d : Nat} {a0 : Nat} {hp : mjH} : mjF (d + 1) 96 [.ref a0] hp = f_96 (mjF d) a0 hp := rfl
theorem e_97 {d : Nat} {a0 : Nat} {a1 : Int32} {a2 : Int32} {a3 : Int32} {hp : mjH} : mjF (d + 1) 97 [.ref a0, .int a1, .int a2, .int a3] hp = f_97 (mjF d) a0 a1 a2 a3 hp := rfl
theorem e_98 {d : Nat} {a0 : Nat} {a1 : Int32} {a2 : Int32} {hp : mjH} : mjF (d + 1) 98 [.ref a0, .int a1, .int a2] hp = f_98 (mjF d) a0 a1 a2 hp := rfl
theorem e_99 {d : Nat} {a0 : Nat} {a1 : Int32} {hp : mjH} : mjF (d + 1) 99 [.ref a0, .int a1] hp = f_99 (mjF d) a0 a1 hp := rfl
theorem e_101 {d : Nat} {a0 : Nat} {hp : mjH} : mjF (d + 1) 101 [.ref a0] hp = f_101 (mjF d) a0 hp := rfl
theorem e_102 {d : Nat} {a0 : Int32} {hp : mjH} : mjF (d + 1) 102 [.int a0] hp = f_102 (mjF d) a0 hp := rfl
theorem e_103 {d : Nat} {a0 : Int32} {a1 : Int32} {a2 : Int32} {hp : mjH} : mjF (d + 1) 103 [.int a0, .int a1, .int a2] hp = f_103 (mjF d) a0 a1 a2 hp := rfl
theorem e_104 {d : Nat} {a0 : Nat} {a1 : Int32} {a2 : Int32} {hp : mjH} : mjF (d + 1) 104 [.ref a0, .int a1, .int a2] hp = f_104 (mjF d) a0 a1 a2 hp := rfl
theorem e_105 {d : Nat} {a0 : Int32} {hp : mjH} : mjF (d + 1) 105 [.int a0] hp = f_105 (mjF d) a0 hp := rfl
theorem e_106 {d : Nat} {a0 : Int32} {a1 : Int32} {hp : mjH} : mjF (d + 1) 106 [.int a0, .int a1] hp = f_106 (mjF d) a0 a1 hp := rfl
theorem e_107 {d : Nat} {a0 : Nat} {a1 : Int32} {a2 : Int32} {a3 : Int32} {hp : mjH} : mjF (d + 1) 107 [.ref a0, .int a1, .int a2, .int a3] hp = f_107 (mjF d) a0 a1 a2 a3 hp := rfl
theorem e_108 {d : Nat} {a0 : Nat} {a1 : Int32} {hp : mjH} : mjF (d + 1) 108 [.ref a0, .int a1] hp = f_108 (mjF d) a0 a1 hp := rfl
theorem e_109 {d : Nat} {a0 : Nat} {a1 : Int32} {a2 : Int32} {a3 : Int32} {a4 : Int32} {hp : mjH} : mjF (d + 1) 109 [.ref a0, .int a1, .int a2, .int a3, .int a4] hp = f_109 (mjF d) a0 a1 a2 a3 a4 hp := rfl
theorem e_110 {d : Nat} {a0 : Nat} {hp : mjH} : mjF (d + 1) 110 [.ref a0] hp = f_110 (mjF d) a0 hp := rfl
theorem e_111 {d : Nat} {a0 : Nat} {a1 : Int32} {hp : mjH} : mjF (d + 1) 111 [.ref a0, .int a1] hp = f_111 (mjF d) a0 a1 hp := rfl
theorem e_112 {d : Nat} {a0 : Nat} {a1 : Int32} {a2 : Int32} {hp : mjH} : mjF (d + 1) 112 [.ref a0, .int a1, .int a2] hp = f_112 (mjF d) a0 a1 a2 hp := rfl
theorem e_113 {d : Nat} {a0 : Nat} {hp : mjH} : mjF (d + 1) 113 [.ref a0] hp = f_113 (mjF d) a0 hp := rfl
theorem e_114 {d : Nat} {a0 : Nat} {a1 : Int32} {a2 : Int32} {hp : mjH} : mjF (d + 1) 114 [.ref a0, .int a1, .int a2] hp = f_114 (mjF d) a0 a1 a2 hp := rfl
theorem e_115 {d : Nat} {a0 : Nat} {hp : mjH} : mjF (d + 1) 115 [.ref a0] hp = f_115 (mjF d) a0 hp := rfl
theorem e_116 {d : Nat} {a0 : Nat} {a1 : Int32} {hp : mjH} : mjF (d + 1) 116 [.ref a0, .int a1] hp = f_116 (mjF d) a0 a1 hp := rfl
theorem e_117 {d : Nat} {a0 : Nat} {a1 : Int32} {a2 : Int32} {a3 : Int32} {hp : mjH} : mjF (d + 1) 117 [.ref a0, .int a1, .int a2, .int a3] hp = f_117 (mjF d) a0 a1 a2 a3 hp := rfl
theorem e_118 {d : Nat} {a0 : Nat} {a1 : Int32} {hp : mjH} : mjF (d + 1) 118 [.ref a0, .int a1] hp = f_118 (mjF d) a0 a1 hp := rfl
theorem e_119 {d : Nat} {a0 : Nat} {a1 : Int32} {a2 : Int64} {hp : mjH} : mjF (d + 1) 119 [.ref a0, .int a1, .long a2] hp = f_119 (mjF d) a0 a1 a2 hp := rfl
theorem e_120 {d : Nat} {a0 : Nat} {hp : mjH} : mjF (d + 1) 120 [.ref a0] hp = f_120 (mjF d) a0 hp := rfl
theorem e_121 {d : Nat} {a0 : Nat} {a1 : Int32} {a2 : Int64} {a3 : Int32} {hp : mjH} : mjF (d + 1) 121 [.ref a0, .int a1, .long a2, .int a3] hp = f_121 (mjF d) a0 a1 a2 a3 hp := rfl
theorem e_122 {d : Nat} {a0 : Int32} {hp : mjH} : mjF (d + 1) 122 [.int a0] hp = f_122 (mjF d) a0 hp := rfl
theorem e_123 {d : Nat} {a0 : Nat} {a1 : Int32} {a2 : Int32} {hp : mjH} : mjF (d + 1) 123 [.ref a0, .int a1, .int a2] hp = f_123 (mjF d) a0 a1 a2 hp := rfl
theorem e_124 {d : Nat} {a0 : Nat} {a1 : Int32} {a2 : Int32} {hp : mjH} : mjF (d + 1) 124 [.ref a0, .int a1, .int a2] hp = f_124 (mjF d) a0 a1 a2 hp := rfl
theorem e_126 {d : Nat} {a0 : Nat} {a1 : Nat} {hp : mjH} : mjF (d + 1) 126 [.ref a0, .ref a1] hp = f_126 (mjF d) a0 a1 hp := rfl
theorem e_127 {d : Nat} {a0 : Nat} {a1 : Int32} {hp : mjH} : mjF (d + 1) 127 [.ref a0, .int a1] hp = f_127 (mjF d) a0 a1 hp := rfl
theorem e_128 {d : Nat} {a0 : Nat} {a1 : Int32} {hp : mjH} : mjF (d + 1) 128 [.ref a0, .int a1] hp = f_128 (mjF d) a0 a1 hp := rfl
theorem e_129 {d : Nat} {a0 : Nat} {a1 : Int32} {hp : mjH} : mjF (d + 1) 129 [.ref a0, .int a1] hp = f_129 (mjF d) a0 a1 hp := rfl
theorem e_130 {d : Nat} {a0 : Nat} {a1 : Int32} {hp : mjH} : mjF (d + 1) 130 [.ref a0, .int a1] hp = f_130 (mjF d) a0 a1 hp := rfl
theorem e_131 {d : Nat} {a0 : Nat} {a1 : Int32} {hp : mjH} : mjF (d + 1) 131 [.ref a0, .int a1] hp = f_131 (mjF d) a0 a1 hp := rfl
theorem e_132 {d : Nat} {a0 : Nat} {a1 : Int32} {hp : mjH} : mjF (d + 1) 132 [.ref a0, .int a1] hp = f_132 (mjF d) a0 a1 hp := rfl
theorem e_133 {d : Nat} {a0 : Nat} {a1 : Int32} {hp : mjH} : mjF (d + 1) 133 [.ref a0, .int a1] hp = f_133 (mjF d) a0 a1 hp := rfl
theorem e_134 {d : Nat} {a0 : Nat} {a1 : Int32} {hp : mjH} : mjF (d + 1) 134 [.ref a0, .int a1] hp = f_134 (mjF d) a0 a1 hp := rfl
theorem e_135 {d : Nat} {a0 : Nat} {hp : mjH} : mjF (d + 1) 135 [.ref a0] hp = f_135 (mjF d) a0 hp := rfl
theorem e_136 {d : Nat} {a0 : Nat} {a1 : Int32} {a2 : Int32} {hp : mjH} : mjF (d + 1) 136 [.ref a0, .int a1, .int a2] hp = f_136 (mjF d) a0 a1 a2 hp := rfl
theorem e_137 {d : Nat} {a0 : Nat} {a1 : Int32} {hp : mjH} : mjF (d + 1) 137 [.ref a0, .int a1] hp = f_137 (mjF d) a0 a1 hp := rfl
theorem e_138 {d : Nat} {a0 : Nat} {a1 : Int32} {hp : mjH} : mjF (d + 1) 138 [.ref a0, .int a1] hp = f_138 (mjF d) a0 a1 hp := rfl
theorem e_139 {d : Nat} {a0 : Nat} {hp : mjH} : mjF (d + 1) 139 [.ref a0] hp = f_139 (mjF d) a0 hp := rfl
theorem e_140 {d : Nat} {a0 : Nat} {hp : mjH} : mjF (d + 1) 140 [.ref a0] hp = f_140 (mjF d) a0 hp := rfl
theorem e_141 {d : Nat} {a0 : Nat} {hp : mjH} : mjF (d + 1) 141 [.ref a0] hp = f_141 (mjF d) a0 hp := rfl
theorem e_142 {d : Nat} {a0 : Nat} {hp : mjH} : mjF (d + 1) 142 [.ref a0] hp = f_142 (mjF d) a0 hp := rfl
theorem e_143 {d : Nat} {a0 : Nat} {hp : mjH} : mjF (d + 1) 143 [.ref a0] hp = f_143 (mjF d) a0 hp := rfl
theorem e_144 {d : Nat} {a0 : Nat} {hp : mjH} : mjF (d + 1) 144 [.ref a0] hp = f_144 (mjF d) a0 hp := rfl
theorem e_145 {d : Nat} {a0 : Nat} {hp : mjH} : mjF (d + 1) 145 [.ref a0] hp = f_145 (mjF d) a0 hp := rfl
theorem e_146 {d : Nat} {a0 : Nat} {hp : mjH} : mjF (d + 1) 146 [.ref a0] hp = f_146 (mjF d) a0 hp := rfl
theorem e_147 {d : Nat} {a0 : Nat} {hp : mjH} : mjF (d + 1) 147 [.ref a0] hp = f_147 (mjF d) a0 hp := rfl
theorem e_148 {d : Nat} {a0 : Nat} {hp : mjH} : mjF (d + 1) 148 [.ref a0] hp = f_148 (mjF d) a0 hp := rfl
theorem e_149 {d : Nat} {a0 : Nat} {hp : mjH} : mjF (d + 1) 149 [.ref a0] hp = f_149 (mjF d) a0 hp := rfl
theorem e_150 {d : Nat} {a0 : Nat} {hp : mjH} : mjF (d + 1) 150 [.ref a0] hp = f_150 (mjF d) a0 hp := rfl
theorem e_151 {d : Nat} {a0 : Nat} {a1 : Int32} {hp : mjH} : mjF (d + 1) 151 [.ref a0, .int a1] hp = f_151 (mjF d) a0 a1 hp := rfl
theorem e_153 {d : Nat} {a0 : Int64} {a1 : Int32} {hp : mjH} : mjF (d + 1) 153 [.long a0, .int a1] hp = f_153 (mjF d) a0 a1 hp := rfl
theorem e_154 {d : Nat} {a0 : Nat} {a1 : Nat} {a2 : Int32} {hp : mjH} : mjF (d + 1) 154 [.ref a0, .ref a1, .int a2] hp = f_154 (mjF d) a0 a1 a2 hp := rfl
theorem e_155 {d : Nat} {a0 : Nat} {a1 : Int32} {a2 : Int32} {hp : mjH} : mjF (d + 1) 155 [.ref a0, .int a1, .int a2] hp = f_155 (mjF d) a0 a1 a2 hp := rfl
theorem e_156 {d : Nat} {a0 : Nat} {a1 : Nat} {a2 : Int32} {a3 : Int32} {hp : mjH} : mjF (d + 1) 156 [.ref a0, .ref a1, .int a2, .int a3] hp = f_156 (mjF d) a0 a1 a2 a3 hp := rfl
theorem e_157 {d : Nat} {a0 : Int32} {hp : mjH} : mjF (d + 1) 157 [.int a0] hp = f_157 (mjF d) a0 hp := rfl
theorem e_158 {d : Nat} {a0 : Nat} {a1 : Nat} {a2 : Int32} {a3 : Int32} {hp : mjH} : mjF (d + 1) 158 [.ref a0, .ref a1, .int a2, .int a3] hp = f_158 (mjF d) a0 a1 a2 a3 hp := rfl
theorem e_159 {d : Nat} {a0 : Int32} {hp : mjH} : mjF (d + 1) 159 [.int a0] hp = f_159 (mjF d) a0 hp := rfl
theorem e_160 {d : Nat} {a0 : Nat} {a1 : Int64} {hp : mjH} : mjF (d + 1) 160 [.ref a0, .long a1] hp = f_160 (mjF d) a0 a1 hp := rfl
theorem e_161 {d : Nat} {a0 : Nat} {a1 : Int32} {a2 : Int32} {a3 : Int64} {hp : mjH} : mjF (d + 1) 161 [.ref a0, .int a1, .int a2, .long a3] hp = f_161 (mjF d) a0 a1 a2 a3 hp := rfl
theorem e_162 {d : Nat} {a0 : Nat} {a1 : Nat} {a2 : Int32} {a3 : Int32} {hp : mjH} : mjF (d + 1) 162 [.ref a0, .ref a1, .int a2, .int a3] hp = f_162 (mjF d) a0 a1 a2 a3 hp := rfl
theorem e_163 {d : Nat} {a0 : Nat} {a1 : Nat} {a2 : Int32} {a3 : Int32} {hp : mjH} : mjF (d + 1) 163 [.ref a0, .ref a1, .int a2, .int a3] hp = f_163 (mjF d) a0 a1 a2 a3 hp := rfl
theorem e_164 {d : Nat} {a0 : Nat} {a1 : Int32} {hp : mjH} : mjF (d + 1) 164 [.ref a0, .int a1] hp = f_164 (mjF d) a0 a1 hp := rfl
theorem e_165 {d : Nat} {a0 : Nat} {a1 : Int32} {hp : mjH} : mjF (d + 1) 165 [.ref a0, .int a1] hp = f_165 (mjF d) a0 a1 hp := rfl
theorem e_166 {d : Nat} {a0 : Nat} {hp : mjH} : mjF (d + 1) 166 [.ref a0] hp = f_166 (mjF d) a0 hp := rfl
theorem e_167 {d : Nat} {a0 : Nat} {hp : mjH} : mjF (d + 1) 167 [.ref a0] hp = f_167 (mjF d) a0 hp := rfl
theorem e_168 {d : Nat} {a0 : Nat} {a1 : Int32} {hp : mjH} : mjF (d + 1) 168 [.ref a0, .int a1] hp = f_168 (mjF d) a0 a1 hp := rfl
theorem e_169 {d : Nat} {a0 : Nat} {a1 : Int32} {hp : mjH} : mjF (d + 1) 169 [.ref a0, .int a1] hp = f_169 (mjF d) a0 a1 hp := rfl
theorem e_170 {d : Nat} {a0 : Nat} {a1 : Int32} {hp : mjH} : mjF (d + 1) 170 [.ref a0, .int a1] hp = f_170 (mjF d) a0 a1 hp := rfl
theorem e_171 {d : Nat} {a0 : Nat} {hp : mjH} : mjF (d + 1) 171 [.ref a0] hp = f_171 (mjF d) a0 hp := rfl
theorem e_172 {d : Nat} {a0 : Nat} {hp : mjH} : mjF (d + 1) 172 [.ref a0] hp = f_172 (mjF d) a0 hp := rfl
theorem e_173 {d : Nat} {a0 : Nat} {hp : mjH} : mjF (d + 1) 173 [.ref a0] hp = f_173 (mjF d) a0 hp := rfl
theorem e_174 {d : Nat} {a0 : Nat} {a1 : Int32} {a2 : Int32} {hp : mjH} : mjF (d + 1) 174 [.ref a0, .int a1, .int a2] hp = f_174 (mjF d) a0 a1 a2 hp := rfl
theorem e_175 {d : Nat} {a0 : Nat} {hp : mjH} : mjF (d + 1) 175 [.ref a0] hp = f_175 (mjF d) a0 hp := rfl
theorem e_176 {d : Nat} {a0 : Nat} {hp : mjH} : mjF (d + 1) 176 [.ref a0] hp = f_176 (mjF d) a0 hp := rfl
theorem e_177 {d : Nat} {a0 : Nat} {hp : mjH} : mjF (d + 1) 177 [.ref a0] hp = f_177 (mjF d) a0 hp := rfl
theorem e_178 {d : Nat} {a0 : Nat} {a1 : Int32} {a2 : Int32} {hp : mjH} : mjF (d + 1) 178 [.ref a0, .int a1, .int a2] hp = f_178 (mjF d) a0 a1 a2 hp := rfl
theorem e_179 {d : Nat} {a0 : Nat} {a1 : Int32} {hp : mjH} : mjF (d + 1) 179 [.ref a0, .int a1] hp = f_179 (mjF d) a0 a1 hp := rfl
theorem e_180 {d : Nat} {a0 : Nat} {a1 : Int32} {hp : mjH} : mjF (d + 1) 180 [.ref a0, .int a1] hp = f_180 (mjF d) a0 a1 hp := rfl
theorem e_181 {d : Nat} {a0 : Nat} {a1 : Int32} {hp : mjH} : mjF (d + 1) 181 [.ref a0, .int a1] hp = f_181 (mjF d) a0 a1 hp := rfl
theorem e_183 {d : Nat} {a0 : Nat} {hp : mjH} : mjF (d + 1) 183 [.ref a0] hp = f_183 (mjF d) a0 hp := rfl
theorem e_184 {d : Nat} {a0 : Nat} {a1 : Nat} {hp : mjH} : mjF (d + 1) 184 [.ref a0, .ref a1] hp = f_184 (mjF d) a0 a1 hp := rfl
theorem e_185 {d : Nat} {a0 : Nat} {a1 : Int32} {a2 : Int32} {hp : mjH} : mjF (d + 1) 185 [.ref a0, .int a1, .int a2] hp = f_185 (mjF d) a0 a1 a2 hp := rfl
theorem e_186 {d : Nat} {a0 : Nat} {a1 : Int32} {a2 : Int32} {hp : mjH} : mjF (d + 1) 186 [.ref a0, .int a1, .int a2] hp = f_186 (mjF d) a0 a1 a2 hp := rfl
theorem e_187 {d : Nat} {a0 : Nat} {a1 : Int32} {a2 : Int32} {hp : mjH} : mjF (d + 1) 187 [.ref a0, .int a1, .int a2] hp = f_187 (mjF d) a0 a1 a2 hp := rfl
theorem e_188 {d : Nat} {a0 : Nat} {a1 : Int32} {a2 : Int32} {hp : mjH} : mjF (d + 1) 188 [.ref a0, .int a1, .int a2] hp = f_188 (mjF d) a0 a1 a2 hp := rfl
theorem e_189 {d : Nat} {a0 : Nat} {a1 : Int32} {hp : mjH} : mjF (d + 1) 189 [.ref a0, .int a1] hp = f_189 (mjF d) a0 a1 hp := rfl
theorem e_190 {d : Nat} {a0 : Nat} {a1 : Int32} {a2 : Int32} {hp : mjH} : mjF (d + 1) 190 [.ref a0, .int a1, .int a2] hp = f_190 (mjF d) a0 a1 a2 hp := rfl
theorem e_191 {d : Nat} {a0 : Nat} {a1 : Int32} {hp : mjH} : mjF (d + 1) 191 [.ref a0, .int a1] hp = f_191 (mjF d) a0 a1 hp := rfl
theorem e_192 {d : Nat} {a0 : Nat} {a1 : Int32} {hp : mjH} : mjF (d + 1) 192 [.ref a0, .int a1] hp = f_192 (mjF d) a0 a1 hp := rfl
theorem e_193 {d : Nat} {a0 : Nat} {hp : mjH} : mjF (d + 1) 193 [.ref a0] hp = f_193 (mjF d) a0 hp := rfl
theorem e_194 {d : Nat} {a0 : Nat} {hp : mjH} : mjF (d + 1) 194 [.ref a0] hp = f_194 (mjF d) a0 hp := rfl
theorem e_195 {d : Nat} {a0 : Nat} {a1 : Int32} {hp : mjH} : mjF (d + 1) 195 [.ref a0, .int a1] hp = f_195 (mjF d) a0 a1 hp := rfl
theorem e_196 {d : Nat} {a0 : Nat} {a1 : Int32} {a2 : Int32} {hp : mjH} : mjF (d + 1) 196 [.ref a0, .int a1, .int a2] hp = f_196 (mjF d) a0 a1 a2 hp := rfl
theorem e_197 {d : Nat} {a0 : Nat} {a1 : Int32} {hp : mjH} : mjF (d + 1) 197 [.ref a0, .int a1] hp = f_197 (mjF d) a0 a1 hp := rfl
theorem e_198 {d : Nat} {a0 : Nat} {hp : mjH} : mjF (d + 1) 198 [.ref a0] hp = f_198 (mjF d) a0 hp := rfl
theorem e_199 {d : Nat} {a0 : Nat} {a1 : Int32} {hp : mjH} : mjF (d + 1) 199 [.ref a0, .int a1] hp = f_199 (mjF d) a0 a1 hp := rfl
theorem e_200 {d : Nat} {a0 : Nat} {a1 : Int32} {a2 : Int32} {hp : mjH} : mjF (d + 1) 200 [.ref a0, .int a1, .int a2] hp = f_200 (mjF d) a0 a1 a2 hp := rfl
theorem e_202 {d : Nat} {a0 : Nat} {a1 : Int32} {a2 : Int32} {a3 : Int32} {a4 : Int32} {a5 : Int32} {hp : mjH} : mjF (d + 1) 202 [.ref a0, .int a1, .int a2, .int a3, .int a4, .int a5] hp = f_202 (mjF d) a0 a1 a2 a3 a4 a5 hp := rfl
theorem e_203 {d : Nat} {a0 : Nat} {a1 : Int32} {hp : mjH} : mjF (d + 1) 203 [.ref a0, .int a1] hp = f_203 (mjF d) a0 a1 hp := rfl
theorem e_204 {d : Nat} {a0 : Nat} {a1 : Int32} {a2 : Int32} {hp : mjH} : mjF (d + 1) 204 [.ref a0, .int a1, .int a2] hp = f_204 (mjF d) a0 a1 a2 hp := rfl
theorem e_205 {d : Nat} {a0 : Nat} {hp : mjH} : mjF (d + 1) 205 [.ref a0] hp = f_205 (mjF d) a0 hp := rfl
theorem e_206 {d : Nat} {a0 : Nat} {a1 : Int32} {hp : mjH} : mjF (d + 1) 206 [.ref a0, .int a1] hp = f_206 (mjF d) a0 a1 hp := rfl
theorem e_207 {d : Nat} {a0 : Nat} {a1 : Int32} {a2 : Int32} {hp : mjH} : mjF (d + 1) 207 [.ref a0, .int a1, .int a2] hp = f_207 (mjF d) a0 a1 a2 hp := rfl
theorem e_208 {d : Nat} {a0 : Nat} {a1 : Int32} {a2 : Int32} {a3 : Int32} {hp : mjH} : mjF (d + 1) 208 [.ref a0, .int a1, .int a2, .int a3] hp = f_208 (mjF d) a0 a1 a2 a3 hp := rfl
theorem e_209 {d : Nat} {a0 : Nat} {a1 : Int32} {a2 : Int32} {hp : mjH} : mjF (d + 1) 209 [.ref a0, .int a1, .int a2] hp = f_209 (mjF d) a0 a1 a2 hp := rfl
theorem e_210 {d : Nat} {a0 : Nat} {a1 : Int32} {a2 : Int32} {hp : mjH} : mjF (d + 1) 210 [.ref a0, .int a1, .int a2] hp = f_210 (mjF d) a0 a1 a2 hp := rfl
theorem e_211 {d : Nat} {a0 : Nat} {a1 : Int32} {hp : mjH} : mjF (d + 1) 211 [.ref a0, .int a1] hp = f_211 (mjF d) a0 a1 hp := rfl
theorem e_212 {d : Nat} {a0 : Nat} {a1 : Int32} {hp : mjH} : mjF (d + 1) 212 [.ref a0, .int a1] hp = f_212 (mjF d) a0 a1 hp := rfl
theorem e_213 {d : Nat} {a0 : Nat} {a1 : Int32} {hp : mjH} : mjF (d + 1) 213 [.ref a0, .int a1] hp = f_213 (mjF d) a0 a1 hp := rfl
theorem e_214 {d : Nat} {a0 : Nat} {a1 : Int32} {a2 : Int32} {hp : mjH} : mjF (d + 1) 214 [.ref a0, .int a1, .int a2] hp = f_214 (mjF d) a0 a1 a2 hp := rfl
theorem e_215 {d : Nat} {a0 : Nat} {a1 : Int32} {a2 : Int32} {hp : mjH} : mjF (d + 1) 215 [.ref a0, .int a1, .int a2] hp = f_215 (mjF d) a0 a1 a2 hp := rfl
theorem e_216 {d : Nat} {a0 : Nat} {a1 : Int32} {a2 : Int32} {hp : mjH} : mjF (d + 1) 216 [.ref a0, .int a1, .int a2] hp = f_216 (mjF d) a0 a1 a2 hp := rfl
theorem e_217 {d : Nat} {a0 : Nat} {a1 : Int32} {a2 : Int32} {hp : mjH} : mjF (d + 1) 217 [.ref a0, .int a1, .int a2] hp = f_217 (mjF d) a0 a1 a2 hp := rfl
theorem e_218 {d : Nat} {a0 : Nat} {a1 : Int32} {a2 : Int32} {hp : mjH} : mjF (d + 1) 218 [.ref a0, .int a1, .int a2] hp = f_218 (mjF d) a0 a1 a2 hp := rfl
theorem e_219 {d : Nat} {a0 : Nat} {a1 : Int32} {a2 : Int32} {hp : mjH} : mjF (d + 1) 219 [.ref a0, .int a1, .int a2] hp = f_219 (mjF d) a0 a1 a2 hp := rfl
theorem e_220 {d : Nat} {a0 : Nat} {a1 : Int32} {a2 : Int32} {hp : mjH} : mjF (d + 1) 220 [.ref a0, .int a1, .int a2] hp = f_220 (mjF d) a0 a1 a2 hp := rfl
theorem e_221 {d : Nat} {a0 : Nat} {a1 : Int32} {hp : mjH} : mjF (d + 1) 221 [.ref a0, .int a1] hp = f_221 (mjF d) a0 a1 hp := rfl
theorem e_222 {d : Nat} {a0 : Nat} {hp : mjH} : mjF (d + 1) 222 [.ref a0] hp = f_222 (mjF d) a0 hp := rfl
theorem e_223 {d : Nat} {a0 : Nat} {a1 : Int32} {hp : mjH} : mjF (d + 1) 223 [.ref a0, .int a1] hp = f_223 (mjF d) a0 a1 hp := rfl
theorem e_224 {d : Nat} {a0 : Nat} {a1 : Int32} {a2 : Int32} {hp : mjH} : mjF (d + 1) 224 [.ref a0, .int a1, .int a2] hp = f_224 (mjF d) a0 a1 a2 hp := rfl
theorem e_226 {d : Nat} {a0 : Nat} {a1 : Int32} {a2 : Int32} {a3 : Int32} {a4 : Int32} {a5 : Int32} {a6 : Int32} {a7 : Int32} {hp : mjH} : mjF (d + 1) 226 [.ref a0, .int a1, .int a2, .int a3, .int a4, .int a5, .int a6, .int a7] hp = f_226 (mjF d) a0 a1 a2 a3 a4 a5 a6 a7 hp := rfl
theorem e_227 {d : Nat} {a0 : Int64} {a1 : Int32} {hp : mjH} : mjF (d + 1) 227 [.long a0, .int a1] hp = f_227 (mjF d) a0 a1 hp := rfl
theorem e_228 {d : Nat} {a0 : Int32} {hp : mjH} : mjF (d + 1) 228 [.int a0] hp = f_228 (mjF d) a0 hp := rfl
theorem e_229 {d : Nat} {a0 : Nat} {a1 : Int32} {hp : mjH} : mjF (d + 1) 229 [.ref a0, .int a1] hp = f_229 (mjF d) a0 a1 hp := rfl
theorem e_230 {d : Nat} {a0 : Int32} {hp : mjH} : mjF (d + 1) 230 [.int a0] hp = f_230 (mjF d) a0 hp := rfl
theorem e_231 {d : Nat} {a0 : Nat} {a1 : Int32} {hp : mjH} : mjF (d + 1) 231 [.ref a0, .int a1] hp = f_231 (mjF d) a0 a1 hp := rfl
theorem e_232 {d : Nat} {a0 : Nat} {a1 : Int32} {hp : mjH} : mjF (d + 1) 232 [.ref a0, .int a1] hp = f_232 (mjF d) a0 a1 hp := rfl
theorem e_233 {d : Nat} {a0 : Nat} {a1 : Int32} {hp : mjH} : mjF (d + 1) 233 [.ref a0, .int a1] hp = f_233 (mjF d) a0 a1 hp := rfl
theorem e_234 {d : Nat} {a0 : Nat} {a1 : Int32} {a2 : Int32} {hp : mjH} : mjF (d + 1) 234 [.ref a0, .int a1, .int a2] hp = f_234 (mjF d) a0 a1 a2 hp := rfl
theorem e_235 {d : Nat} {a0 : Nat} {a1 : Int32} {hp : mjH} : mjF (d + 1) 235 [.ref a0, .int a1] hp = f_235 (mjF d) a0 a1 hp := rfl
theorem e_236 {d : Nat} {a0 : Nat} {a1 : Int32} {a2 : Int32} {hp : mjH} : mjF (d + 1) 236 [.ref a0, .int a1, .int a2] hp = f_236 (mjF d) a0 a1 a2 hp := rfl
theorem e_237 {d : Nat} {a0 : Nat} {hp : mjH} : mjF (d + 1) 237 [.ref a0] hp = f_237 (mjF d) a0 hp := rfl
theorem e_238 {d : Nat} {a0 : Nat} {hp : mjH} : mjF (d + 1) 238 [.ref a0] hp = f_238 (mjF d) a0 hp := rfl
theorem e_239 {d : Nat} {a0 : Nat} {a1 : Int32} {hp : mjH} : mjF (d + 1) 239 [.ref a0, .int a1] hp = f_239 (mjF d) a0 a1 hp := rfl
theorem e_240 {d : Nat} {a0 : Nat} {a1 : Int32} {hp : mjH} : mjF (d + 1) 240 [.ref a0, .int a1] hp = f_240 (mjF d) a0 a1 hp := rfl
theorem e_241 {d : Nat} {a0 : Nat} {a1 : Int32} {a2 : Int64} {hp : mjH} : mjF (d + 1) 241 [.ref a0, .int a1, .long a2] hp = f_241 (mjF d) a0 a1 a2 hp := rfl
theorem e_242 {d : Nat} {a0 : Nat} {a1 : Int32} {hp : mjH} : mjF (d + 1) 242 [.ref a0, .int a1] hp = f_242 (mjF d) a0 a1 hp := rfl
theorem e_243 {d : Nat} {a0 : Nat} {a1 : Int32} {a2 : Int32} {hp : mjH} : mjF (d + 1) 243 [.ref a0, .int a1, .int a2] hp = f_243 (mjF d) a0 a1 a2 hp := rfl
theorem e_244 {d : Nat} {a0 : Nat} {a1 : Int32} {hp : mjH} : mjF (d + 1) 244 [.ref a0, .int a1] hp = f_244 (mjF d) a0 a1 hp := rfl
theorem e_245 {d : Nat} {a0 : Nat} {a1 : Int32} {a2 : Int32} {hp : mjH} : mjF (d + 1) 245 [.ref a0, .int a1, .int a2] hp = f_245 (mjF d) a0 a1 a2 hp := rfl
theorem e_246 {d : Nat} {a0 : Nat} {a1 : Int32} {hp : mjH} : mjF (d + 1) 246 [.ref a0, .int a1] hp = f_246 (mjF d) a0 a1 hp := rfl
theorem e_247 {d : Nat} {a0 : Nat} {hp : mjH} : mjF (d + 1) 247 [.ref a0] hp = f_247 (mjF d) a0 hp := rfl
theorem e_248 {d : Nat} {a0 : Nat} {a1 : Int32} {a2 : Int32} {hp : mjH} : mjF (d + 1) 248 [.ref a0, .int a1, .int a2] hp = f_248 (mjF d) a0 a1 a2 hp := rfl
theorem e_249 {d : Nat} {a0 : Nat} {a1 : Int32} {hp : mjH} : mjF (d + 1) 249 [.ref a0, .int a1] hp = f_249 (mjF d) a0 a1 hp := rfl
theorem e_250 {d : Nat} {a0 : Nat} {a1 : Int32} {hp : mjH} : mjF (d + 1) 250 [.ref a0, .int a1] hp = f_250 (mjF d) a0 a1 hp := rfl
theorem e_251 {d : Nat} {a0 : Nat} {hp : mjH} : mjF (d + 1) 251 [.ref a0] hp = f_251 (mjF d) a0 hp := rfl
theorem e_252 {d : Nat} {a0 : Nat} {hp : mjH} : mjF (d + 1) 252 [.ref a0] hp = f_252 (mjF d) a0 hp := rfl
theorem e_253 {d : Nat} {a0 : Nat} {a1 : Int32} {hp : mjH} : mjF (d + 1) 253 [.ref a0, .int a1] hp = f_253 (mjF d) a0 a1 hp := rfl
theorem e_254 {d : Nat} {a0 : Nat} {a1 : Int32} {hp : mjH} : mjF (d + 1) 254 [.ref a0, .int a1] hp = f_254 (mjF d) a0 a1 hp := rfl
theorem e_255 {d : Nat} {a0 : Nat} {a1 : Int32} {hp : mjH} : mjF (d + 1) 255 [.ref a0, .int a1] hp = f_255 (mjF d) a0 a1 hp := rfl
theorem e_256 {d : Nat} {a0 : Nat} {a1 : Int32} {a2 : Int32} {hp : mjH} : mjF (d + 1) 256 [.ref a0, .int a1, .int a2] hp = f_256 (mjF d) a0 a1 a2 hp := rfl
theorem e_257 {d : Nat} {a0 : Nat} {a1 : Int32} {hp : mjH} : mjF (d + 1) 257 [.ref a0, .int a1] hp = f_257 (mjF d) a0 a1 hp := rfl
theorem e_258 {d : Nat} {a0 : Nat} {a1 : Int32} {a2 : Int32} {a3 : Int32} {a4 : Int32} {a5 : Int32} {hp : mjH} : mjF (d + 1) 258 [.ref a0, .int a1, .int a2, .int a3, .int a4, .int a5] hp = f_258 (mjF d) a0 a1 a2 a3 a4 a5 hp := rfl
theorem e_259 {d : Nat} {a0 : Nat} {a1 : Int32} {hp : mjH} : mjF (d + 1) 259 [.ref a0, .int a1] hp = f_259 (mjF d) a0 a1 hp := rfl
theorem e_260 {d : Nat} {a0 : Nat} {a1 : Int32} {a2 : Int32} {hp : mjH} : mjF (d + 1) 260 [.ref a0, .int a1, .int a2] hp = f_260 (mjF d) a0 a1 a2 hp := rfl
theorem e_261 {d : Nat} {a0 : Nat} {hp : mjH} : mjF (d + 1) 261 [.ref a0] hp = f_261 (mjF d) a0 hp := rfl
theorem e_262 {d : Nat} {a0 : Nat} {hp : mjH} : mjF (d + 1) 262 [.ref a0] hp = f_262 (mjF d) a0 hp := rfl
theorem e_263 {d : Nat} {a0 : Nat} {a1 : Int32} {hp : mjH} : mjF (d + 1) 263 [.ref a0, .int a1] hp = f_263 (mjF d) a0 a1 hp := rfl
theorem e_264 {d : Nat} {a0 : Nat} {hp : mjH} : mjF (d + 1) 264 [.ref a0] hp = f_264 (mjF d) a0 hp := rfl
theorem e_265 {d : Nat} {a0 : Nat} {a1 : Int32} {hp : mjH} : mjF (d + 1) 265 [.ref a0, .int a1] hp = f_265 (mjF d) a0 a1 hp := rfl
theorem e_266 {d : Nat} {a0 : Nat} {a1 : Int32} {hp : mjH} : mjF (d + 1) 266 [.ref a0, .int a1] hp = f_266 (mjF d) a0 a1 hp := rfl
theorem e_267 {d : Nat} {a0 : Nat} {hp : mjH} : mjF (d + 1) 267 [.ref a0] hp = f_267 (mjF d) a0 hp := rfl
theorem e_268 {d : Nat} {a0 : Nat} {a1 : Int32} {a2 : Int32} {hp : mjH} : mjF (d + 1) 268 [.ref a0, .int a1, .int a2] hp = f_268 (mjF d) a0 a1 a2 hp := rfl
theorem e_269 {d : Nat} {a0 : Nat} {hp : mjH} : mjF (d + 1) 269 [.ref a0] hp = f_269 (mjF d) a0 hp := rfl
theorem e_270 {d : Nat} {a0 : Nat} {a1 : Int32} {hp : mjH} : mjF (d + 1) 270 [.ref a0, .int a1] hp = f_270 (mjF d) a0 a1 hp := rfl
theorem e_271 {d : Nat} {a0 : Nat} {a1 : Int32} {hp : mjH} : mjF (d + 1) 271 [.ref a0, .int a1] hp = f_271 (mjF d) a0 a1 hp := rfl
theorem e_272 {d : Nat} {a0 : Nat} {hp : mjH} : mjF (d + 1) 272 [.ref a0] hp = f_272 (mjF d) a0 hp := rfl
theorem e_273 {d : Nat} {a0 : Nat} {a1 : Int32} {hp : mjH} : mjF (d + 1) 273 [.ref a0, .int a1] hp = f_273 (mjF d) a0 a1 hp := rfl
theorem e_274 {d : Nat} {a0 : Nat} {a1 : Int32} {hp : mjH} : mjF (d + 1) 274 [.ref a0, .int a1] hp = f_274 (mjF d) a0 a1 hp := rfl
theorem e_275 {d : Nat} {a0 : Nat} {a1 : Int32} {hp : mjH} : mjF (d + 1) 275 [.ref a0, .int a1] hp = f_275 (mjF d) a0 a1 hp := rfl
theorem e_276 {d : Nat} {a0 : Nat} {hp : mjH} : mjF (d + 1) 276 [.ref a0] hp = f_276 (mjF d) a0 hp := rfl
theorem e_277 {d : Nat} {a0 : Nat} {hp : mjH} : mjF (d + 1) 277 [.ref a0] hp = f_277 (mjF d) a0 hp := rfl
theorem e_278 {d : Nat} {a0 : Nat} {a1 : Int32} {hp : mjH} : mjF (d + 1) 278 [.ref a0, .int a1] hp = f_278 (mjF d) a0 a1 hp := rfl
theorem e_279 {d : Nat} {a0 : Nat} {hp : mjH} : mjF (d + 1) 279 [.ref a0] hp = f_279 (mjF d) a0 hp := rfl
theorem e_280 {d : Nat} {a0 : Nat} {a1 : Int32} {a2 : Int32} {a3 : Int32} {hp : mjH} : mjF (d + 1) 280 [.ref a0, .int a1, .int a2, .int a3] hp = f_280 (mjF d) a0 a1 a2 a3 hp := rfl
theorem e_281 {d : Nat} {a0 : Nat} {a1 : Int32} {a2 : Int32} {a3 : Int32} {a4 : Int32} {hp : mjH} : mjF (d + 1) 281 [.ref a0, .int a1, .int a2, .int a3, .int a4] hp = f_281 (mjF d) a0 a1 a2 a3 a4 hp := rfl
theorem e_282 {d : Nat} {a0 : Nat} {hp : mjH} : mjF (d + 1) 282 [.ref a0] hp = f_282 (mjF d) a0 hp := rfl
theorem e_283 {d : Nat} {a0 : Nat} {a1 : Int32} {hp : mjH} : mjF (d + 1) 283 [.ref a0, .int a1] hp = f_283 (mjF d) a0 a1 hp := rfl
theorem e_284 {d : Nat} {a0 : Nat} {hp : mjH} : mjF (d + 1) 284 [.ref a0] hp = f_284 (mjF d) a0 hp := rfl
theorem e_285 {d : Nat} {a0 : Nat} {a1 : Int32} {hp : mjH} : mjF (d + 1) 285 [.ref a0, .int a1] hp = f_285 (mjF d) a0 a1 hp := rfl
theorem e_286 {d : Nat} {a0 : Nat} {a1 : Int32} {a2 : Int32} {a3 : Int64} {a4 : Int32} {hp : mjH} : mjF (d + 1) 286 [.ref a0, .int a1, .int a2, .long a3, .int a4] hp = f_286 (mjF d) a0 a1 a2 a3 a4 hp := rfl
theorem e_287 {d : Nat} {a0 : Nat} {hp : mjH} : mjF (d + 1) 287 [.ref a0] hp = f_287 (mjF d) a0 hp := rfl
theorem e_288 {d : Nat} {a0 : Nat} {a1 : Int32} {a2 : Int32} {a3 : Int32} {a4 : Int32} {hp : mjH} : mjF (d + 1) 288 [.ref a0, .int a1, .int a2, .int a3, .int a4] hp = f_288 (mjF d) a0 a1 a2 a3 a4 hp := rfl
theorem e_289 {d : Nat} {a0 : Nat} {hp : mjH} : mjF (d + 1) 289 [.ref a0] hp = f_289 (mjF d) a0 hp := rfl
theorem e_290 {d : Nat} {a0 : Nat} {hp : mjH} : mjF (d + 1) 290 [.ref a0] hp = f_290 (mjF d) a0 hp := rfl
theorem e_291 {d : Nat} {a0 : Nat} {hp : mjH} : mjF (d + 1) 291 [.ref a0] hp = f_291 (mjF d) a0 hp := rfl
theorem e_292 {d : Nat} {a0 : Nat} {hp : mjH} : mjF (d + 1) 292 [.ref a0] hp = f_292 (mjF d) a0 hp := rfl
theorem e_293 {d : Nat} {a0 : Nat} {a1 : Int32} {hp : mjH} : mjF (d + 1) 293 [.ref a0, .int a1] hp = f_293 (mjF d) a0 a1 hp := rfl
theorem e_294 {d : Nat} {a0 : Nat} {a1 : Int32} {hp : mjH} : mjF (d + 1) 294 [.ref a0, .int a1] hp = f_294 (mjF d) a0 a1 hp := rfl
theorem e_295 {d : Nat} {a0 : Nat} {hp : mjH} : mjF (d + 1) 295 [.ref a0] hp = f_295 (mjF d) a0 hp := rfl
theorem e_296 {d : Nat} {a0 : Int32} {hp : mjH} : mjF (d + 1) 296 [.int a0] hp = f_296 (mjF d) a0 hp := rfl
theorem e_297 {d : Nat} {a0 : Nat} {hp : mjH} : mjF (d + 1) 297 [.ref a0] hp = f_297 (mjF d) a0 hp := rfl
theorem e_298 {d : Nat} {a0 : Nat} {a1 : Int32} {hp : mjH} : mjF (d + 1) 298 [.ref a0, .int a1] hp = f_298 (mjF d) a0 a1 hp := rfl
theorem e_299 {d : Nat} {a0 : Nat} {hp : mjH} : mjF (d + 1) 299 [.ref a0] hp = f_299 (mjF d) a0 hp := rfl
theorem e_300 {d : Nat} {a0 : Nat} {a1 : Int32} {a2 : Int32} {hp : mjH} : mjF (d + 1) 300 [.ref a0, .int a1, .int a2] hp = f_300 (mjF d) a0 a1 a2 hp := rfl
theorem e_301 {d : Nat} {a0 : Nat} {a1 : Int32} {hp : mjH} : mjF (d + 1) 301 [.ref a0, .int a1] hp = f_301 (mjF d) a0 a1 hp := rfl
theorem e_302 {d : Nat} {a0 : Nat} {a1 : Int32} {a2 : Int32} {a3 : Int32} {hp : mjH} : mjF (d + 1) 302 [.ref a0, .int a1, .int a2, .int a3] hp = f_302 (mjF d) a0 a1 a2 a3 hp := rfl
theorem e_303 {d : Nat} {a0 : Nat} {a1 : Int64} {hp : mjH} : mjF (d + 1) 303 [.ref a0, .long a1] hp = f_303 (mjF d) a0 a1 hp := rfl
theorem e_304 {d : Nat} {a0 : Nat} {a1 : Int32} {a2 : Int64} {a3 : Int32} {hp : mjH} : mjF (d + 1) 304 [.ref a0, .int a1, .long a2, .int a3] hp = f_304 (mjF d) a0 a1 a2 a3 hp := rfl
theorem e_305 {d : Nat} {a0 : Nat} {a1 : Int32} {a2 : Int64} {hp : mjH} : mjF (d + 1) 305 [.ref a0, .int a1, .long a2] hp = f_305 (mjF d) a0 a1 a2 hp := rfl
theorem e_306 {d : Nat} {a0 : Nat} {a1 : Int32} {hp : mjH} : mjF (d + 1) 306 [.ref a0, .int a1] hp = f_306 (mjF d) a0 a1 hp := rfl
theorem e_307 {d : Nat} {a0 : Nat} {a1 : Int32} {hp : mjH} : mjF (d + 1) 307 [.ref a0, .int a1] hp = f_307 (mjF d) a0 a1 hp := rfl
theorem e_308 {d : Nat} {a0 : Nat} {a1 : Int32} {hp : mjH} : mjF (d + 1) 308 [.ref a0, .int a1] hp = f_308 (mjF d) a0 a1 hp := rfl
theorem e_309 {d : Nat} {a0 : Nat} {a1 : Int32} {hp : mjH} : mjF (d + 1) 309 [.ref a0, .int a1] hp = f_309 (mjF d) a0 a1 hp := rfl
theorem e_310 {d : Nat} {a0 : Nat} {a1 : Int32} {a2 : Int32} {hp : mjH} : mjF (d + 1) 310 [.ref a0, .int a1, .int a2] hp = f_310 (mjF d) a0 a1 a2 hp := rfl
theorem e_311 {d : Nat} {a0 : Nat} {a1 : Int32} {a2 : Int32} {a3 : Int32} {hp : mjH} : mjF (d + 1) 311 [.ref a0, .int a1, .int a2, .int a3] hp = f_311 (mjF d) a0 a1 a2 a3 hp := rfl
theorem e_312 {d : Nat} {a0 : Int32} {hp : mjH} : mjF (d + 1) 312 [.int a0] hp = f_312 (mjF d) a0 hp := rfl
theorem e_313 {d : Nat} {a0 : Nat} {a1 : Int32} {a2 : Int32} {hp : mjH} : mjF (d + 1) 313 [.ref a0, .int a1, .int a2] hp = f_313 (mjF d) a0 a1 a2 hp := rfl
theorem e_314 {d : Nat} {a0 : Nat} {a1 : Int32} {hp : mjH} : mjF (d + 1) 314 [.ref a0, .int a1] hp = f_314 (mjF d) a0 a1 hp := rfl
theorem e_315 {d : Nat} {a0 : Nat} {a1 : Int32} {hp : mjH} : mjF (d + 1) 315 [.ref a0, .int a1] hp = f_315 (mjF d) a0 a1 hp := rfl
theorem e_316 {d : Nat} {a0 : Nat} {a1 : Int64} {a2 : Int32} {a3 : Int32} {hp : mjH} : mjF (d + 1) 316 [.ref a0, .long a1, .int a2, .int a3] hp = f_316 (mjF d) a0 a1 a2 a3 hp := rfl
theorem e_317 {d : Nat} {a0 : Nat} {hp : mjH} : mjF (d + 1) 317 [.ref a0] hp = f_317 (mjF d) a0 hp := rfl
theorem e_318 {d : Nat} {a0 : Nat} {a1 : Int32} {hp : mjH} : mjF (d + 1) 318 [.ref a0, .int a1] hp = f_318 (mjF d) a0 a1 hp := rfl
theorem e_319 {d : Nat} {a0 : Nat} {a1 : Int32} {a2 : Int32} {hp : mjH} : mjF (d + 1) 319 [.ref a0, .int a1, .int a2] hp = f_319 (mjF d) a0 a1 a2 hp := rfl
theorem e_320 {d : Nat} {a0 : Nat} {a1 : Int32} {a2 : Int32} {hp : mjH} : mjF (d + 1) 320 [.ref a0, .int a1, .int a2] hp = f_320 (mjF d) a0 a1 a2 hp := rfl
theorem e_321 {d : Nat} {a0 : Nat} {a1 : Int32} {hp : mjH} : mjF (d + 1) 321 [.ref a0, .int a1] hp = f_321 (mjF d) a0 a1 hp := rfl
theorem e_322 {d : Nat} {a0 : Nat} {a1 : Int32} {hp : mjH} : mjF (d + 1) 322 [.ref a0, .int a1] hp = f_322 (mjF d) a0 a1 hp := rfl
theorem e_323 {d : Nat} {a0 : Nat} {a1 : Int32} {hp : mjH} : mjF (d + 1) 323 [.ref a0, .int a1] hp = f_323 (mjF d) a0 a1 hp := rfl
theorem e_324 {d : Nat} {a0 : Nat} {a1 : Int32} {hp : mjH} : mjF (d + 1) 324 [.ref a0, .int a1] hp = f_324 (mjF d) a0 a1 hp := rfl
theorem e_325 {d : Nat} {a0 : Nat} {a1 : Int64} {hp : mjH} : mjF (d + 1) 325 [.ref a0, .long a1] hp = f_325 (mjF d) a0 a1 hp := rfl
theorem e_326 {d : Nat} {a0 : Nat} {a1 : Int32} {hp : mjH} : mjF (d + 1) 326 [.ref a0, .int a1] hp = f_326 (mjF d) a0 a1 hp := rfl
theorem e_327 {d : Nat} {a0 : Nat} {a1 : Int32} {hp : mjH} : mjF (d + 1) 327 [.ref a0, .int a1] hp = f_327 (mjF d) a0 a1 hp := rfl
theorem e_328 {d : Nat} {a0 : Nat} {a1 : Int32} {hp : mjH} : mjF (d + 1) 328 [.ref a0, .int a1] hp = f_328 (mjF d) a0 a1 hp := rfl
theorem e_329 {d : Nat} {a0 : Nat} {a1 : Int32} {hp : mjH} : mjF (d + 1) 329 [.ref a0, .int a1] hp = f_329 (mjF d) a0 a1 hp := rfl
theorem e_330 {d : Nat} {a0 : Nat} {a1 : Int32} {hp : mjH} : mjF (d + 1) 330 [.ref a0, .int a1] hp = f_330 (mjF d) a0 a1 hp := rfl
theorem e_331 {d : Nat} {a0 : Nat} {a1 : Int32} {hp : mjH} : mjF (d + 1) 331 [.ref a0, .int a1] hp = f_331 (mjF d) a0 a1 hp := rfl
theorem e_332 {d : Nat} {a0 : Nat} {a1 : Int32} {hp : mjH} : mjF (d + 1) 332 [.ref a0, .int a1] hp = f_332 (mjF d) a0 a1 hp := rfl
theorem e_333 {d : Nat} {a0 : Nat} {a1 : Int32} {hp : mjH} : mjF (d + 1) 333 [.ref a0, .int a1] hp = f_333 (mjF d) a0 a1 hp := rfl
theorem e_334 {d : Nat} {a0 : Nat} {a1 : Int32} {a2 : Int32} {hp : mjH} : mjF (d + 1) 334 [.ref a0, .int a1, .int a2] hp = f_334 (mjF d) a0 a1 a2 hp := rfl
theorem e_335 {d : Nat} {a0 : Nat} {a1 : Int32} {hp : mjH} : mjF (d + 1) 335 [.ref a0, .int a1] hp = f_335 (mjF d) a0 a1 hp := rfl
theorem e_336 {d : Nat} {a0 : Nat} {a1 : Int32} {hp : mjH} : mjF (d + 1) 336 [.ref a0, .int a1] hp = f_336 (mjF d) a0 a1 hp := rfl
theorem e_337 {d : Nat} {a0 : Nat} {a1 : Int32} {a2 : Int32} {hp : mjH} : mjF (d + 1) 337 [.ref a0, .int a1, .int a2] hp = f_337 (mjF d) a0 a1 a2 hp := rfl
theorem e_338 {d : Nat} {a0 : Nat} {a1 : Int32} {hp : mjH} : mjF (d + 1) 338 [.ref a0, .int a1] hp = f_338 (mjF d) a0 a1 hp := rfl
theorem e_339 {d : Nat} {a0 : Nat} {a1 : Int32} {a2 : Int32} {a3 : Int32} {hp : mjH} : mjF (d + 1) 339 [.ref a0, .int a1, .int a2, .int a3] hp = f_339 (mjF d) a0 a1 a2 a3 hp := rfl
theorem e_340 {d : Nat} {a0 : Nat} {a1 : Int32} {a2 : Int32} {hp : mjH} : mjF (d + 1) 340 [.ref a0, .int a1, .int a2] hp = f_340 (mjF d) a0 a1 a2 hp := rfl
theorem e_341 {d : Nat} {a0 : Nat} {a1 : Int32} {hp : mjH} : mjF (d + 1) 341 [.ref a0, .int a1] hp = f_341 (mjF d) a0 a1 hp := rfl
theorem e_342 {d : Nat} {a0 : Nat} {a1 : Int32} {hp : mjH} : mjF (d + 1) 342 [.ref a0, .int a1] hp = f_342 (mjF d) a0 a1 hp := rfl
theorem e_343 {d : Nat} {a0 : Nat} {a1 : Int32} {a2 : Int32} {hp : mjH} : mjF (d + 1) 343 [.ref a0, .int a1, .int a2] hp = f_343 (mjF d) a0 a1 a2 hp := rfl
theorem e_344 {d : Nat} {a0 : Nat} {a1 : Int32} {hp : mjH} : mjF (d + 1) 344 [.ref a0, .int a1] hp = f_344 (mjF d) a0 a1 hp := rfl
theorem e_345 {d : Nat} {a0 : Nat} {a1 : Int32} {a2 : Int32} {hp : mjH} : mjF (d + 1) 345 [.ref a0, .int a1, .int a2] hp = f_345 (mjF d) a0 a1 a2 hp := rfl
theorem e_346 {d : Nat} {a0 : Nat} {a1 : Int32} {a2 : Int32} {hp : mjH} : mjF (d + 1) 346 [.ref a0, .int a1, .int a2] hp = f_346 (mjF d) a0 a1 a2 hp := rfl
theorem e_347 {d : Nat} {a0 : Nat} {a1 : Int32} {hp : mjH} : mjF (d + 1) 347 [.ref a0, .int a1] hp = f_347 (mjF d) a0 a1 hp := rfl
theorem e_348 {d : Nat} {a0 : Nat} {a1 : Int32} {a2 : Int32} {hp : mjH} : mjF (d + 1) 348 [.ref a0, .int a1, .int a2] hp = f_348 (mjF d) a0 a1 a2 hp := rfl
theorem e_349 {d : Nat} {a0 : Nat} {a1 : Int32} {a2 : Int32} {hp : mjH} : mjF (d + 1) 349 [.ref a0, .int a1, .int a2] hp = f_349 (mjF d) a0 a1 a2 hp := rfl
theorem e_350 {d : Nat} {a0 : Nat} {a1 : Int32} {a2 : Int32} {hp : mjH} : mjF (d + 1) 350 [.ref a0, .int a1, .int a2] hp = f_350 (mjF d) a0 a1 a2 hp := rfl
theorem e_351 {d : Nat} {a0 : Int32} {hp : mjH} : mjF (d + 1) 351 [.int a0] hp = f_351 (mjF d) a0 hp := rfl
theorem e_352 {d : Nat} {a0 : Int32} {hp : mjH} : mjF (d + 1) 352 [.int a0] hp = f_352 (mjF d) a0 hp := rfl
theorem e_353 {d : Nat} {a0 : Int32} {hp : mjH} : mjF (d + 1) 353 [.int a0] hp = f_353 (mjF d) a0 hp := rfl
theorem e_354 {d : Nat} {a0 : Int32} {a1 : Int32} {hp : mjH} : mjF (d + 1) 354 [.int a0, .int a1] hp = f_354 (mjF d) a0 a1 hp := rfl
theorem e_355 {d : Nat} {a0 : Int32} {a1 : Int32} {hp : mjH} : mjF (d + 1) 355 [.int a0, .int a1] hp = f_355 (mjF d) a0 a1 hp := rfl
theorem e_356 {d : Nat} {a0 : Nat} {hp : mjH} : mjF (d + 1) 356 [.ref a0] hp = f_356 (mjF d) a0 hp := rfl
theorem e_357 {d : Nat} {a0 : Nat} {hp : mjH} : mjF (d + 1) 357 [.ref a0] hp = f_357 (mjF d) a0 hp := rfl
theorem e_358 {d : Nat} {a0 : Nat} {a1 : Int32} {hp : mjH} : mjF (d + 1) 358 [.ref a0, .int a1] hp = f_358 (mjF d) a0 a1 hp := rfl
theorem e_359 {d : Nat} {a0 : Nat} {hp : mjH} : mjF (d + 1) 359 [.ref a0] hp = f_359 (mjF d) a0 hp := rfl
theorem e_360 {d : Nat} {a0 : Int32} {a1 : Int32} {hp : mjH} : mjF (d + 1) 360 [.int a0, .int a1] hp = f_360 (mjF d) a0 a1 hp := rfl
theorem e_361 {d : Nat} {a0 : Nat} {a1 : Int32} {hp : mjH} : mjF (d + 1) 361 [.ref a0, .int a1] hp = f_361 (mjF d) a0 a1 hp := rfl
theorem e_362 {d : Nat} {a0 : Nat} {a1 : Int32} {a2 : Int32} {hp : mjH} : mjF (d + 1) 362 [.ref a0, .int a1, .int a2] hp = f_362 (mjF d) a0 a1 a2 hp := rfl
theorem e_363 {d : Nat} {a0 : Int32} {a1 : Int32} {a2 : Int32} {hp : mjH} : mjF (d + 1) 363 [.int a0, .int a1, .int a2] hp = f_363 (mjF d) a0 a1 a2 hp := rfl
theorem e_364 {d : Nat} {a0 : Nat} {a1 : Int32} {hp : mjH} : mjF (d + 1) 364 [.ref a0, .int a1] hp = f_364 (mjF d) a0 a1 hp := rfl
theorem e_365 {d : Nat} {a0 : Nat} {a1 : Int32} {a2 : Int32} {a3 : Int32} {hp : mjH} : mjF (d + 1) 365 [.ref a0, .int a1, .int a2, .int a3] hp = f_365 (mjF d) a0 a1 a2 a3 hp := rfl
theorem e_366 {d : Nat} {a0 : Int32} {hp : mjH} : mjF (d + 1) 366 [.int a0] hp = f_366 (mjF d) a0 hp := rfl
theorem e_367 {d : Nat} {a0 : Nat} {a1 : Int32} {a2 : Int32} {a3 : Int32} {hp : mjH} : mjF (d + 1) 367 [.ref a0, .int a1, .int a2, .int a3] hp = f_367 (mjF d) a0 a1 a2 a3 hp := rfl
theorem e_368 {d : Nat} {a0 : Nat} {a1 : Int32} {hp : mjH} : mjF (d + 1) 368 [.ref a0, .int a1] hp = f_368 (mjF d) a0 a1 hp := rfl
theorem e_369 {d : Nat} {a0 : Int32} {a1 : Nat} {hp : mjH} : mjF (d + 1) 369 [.int a0, .ref a1] hp = f_369 (mjF d) a0 a1 hp := rfl
theorem e_370 {d : Nat} {a0 : Nat} {hp : mjH} : mjF (d + 1) 370 [.ref a0] hp = f_370 (mjF d) a0 hp := rfl
theorem e_371 {d : Nat} {a0 : Nat} {a1 : Int32} {hp : mjH} : mjF (d + 1) 371 [.ref a0, .int a1] hp = f_371 (mjF d) a0 a1 hp := rfl
theorem e_372 {d : Nat} {a0 : Nat} {a1 : Int32} {a2 : Int32} {a3 : Int32} {hp : mjH} : mjF (d + 1) 372 [.ref a0, .int a1, .int a2, .int a3] hp = f_372 (mjF d) a0 a1 a2 a3 hp := rfl
theorem e_373 {d : Nat} {a0 : Nat} {a1 : Int32} {a2 : Int32} {a3 : Int32} {hp : mjH} : mjF (d + 1) 373 [.ref a0, .int a1, .int a2, .int a3] hp = f_373 (mjF d) a0 a1 a2 a3 hp := rfl
theorem e_374 {d : Nat} {a0 : Int32} {a1 : Int32} {a2 : Nat} {hp : mjH} : mjF (d + 1) 374 [.int a0, .int a1, .ref a2] hp = f_374 (mjF d) a0 a1 a2 hp := rfl
theorem e_375 {d : Nat} {a0 : Nat} {a1 : Int32} {a2 : Int32} {a3 : Int32} {hp : mjH} : mjF (d + 1) 375 [.ref a0, .int a1, .int a2, .int a3] hp = f_375 (mjF d) a0 a1 a2 a3 hp := rfl
theorem e_376 {d : Nat} {a0 : Nat} {a1 : Int32} {a2 : Int32} {a3 : Int32} {hp : mjH} : mjF (d + 1) 376 [.ref a0, .int a1, .int a2, .int a3] hp = f_376 (mjF d) a0 a1 a2 a3 hp := rfl
theorem e_377 {d : Nat} {a0 : Nat} {a1 : Int32} {hp : mjH} : mjF (d + 1) 377 [.ref a0, .int a1] hp = f_377 (mjF d) a0 a1 hp := rfl
theorem e_378 {d : Nat} {a0 : Nat} {a1 : Int64} {hp : mjH} : mjF (d + 1) 378 [.ref a0, .long a1] hp = f_378 (mjF d) a0 a1 hp := rfl
theorem e_379 {d : Nat} {a0 : Nat} {a1 : Int32} {a2 : Int32} {a3 : Int32} {hp : mjH} : mjF (d + 1) 379 [.ref a0, .int a1, .int a2, .int a3] hp = f_379 (mjF d) a0 a1 a2 a3 hp := rfl
theorem e_380 {d : Nat} {a0 : Int32} {a1 : Int32} {a2 : Int32} {hp : mjH} : mjF (d + 1) 380 [.int a0, .int a1, .int a2] hp = f_380 (mjF d) a0 a1 a2 hp := rfl
theorem e_381 {d : Nat} {a0 : Int32} {a1 : Int32} {hp : mjH} : mjF (d + 1) 381 [.int a0, .int a1, .retAddr 0] hp = f_381 (mjF d) a0 a1 hp := rfl
theorem e_382 {d : Nat} {a0 : Int32} {a1 : Int32} {a2 : Int32} {hp : mjH} : mjF (d + 1) 382 [.int a0, .int a1, .int a2, .retAddr 0] hp = f_382 (mjF d) a0 a1 a2 hp := rfl
