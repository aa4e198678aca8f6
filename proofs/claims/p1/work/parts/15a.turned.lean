def J_43 : mjI := (⟨"OwnerHeap$Heap", "has", "(I)Z"⟩, 3, prog_5_method_4_code, 2, (some .boolean), 1, false)
theorem Ja_43 : mjMt 43 = some J_43 := by rfl
theorem D_43_0 : decode J_43.2.2.1 0 = .ok (.iload_n 1, 1) := by decide +kernel
theorem D_43_1 : decode J_43.2.2.1 1 = .ok (.ifCond .le 15, 3) := by decide +kernel
theorem D_43_4 : decode J_43.2.2.1 4 = .ok (.iload_n 1, 1) := by decide +kernel
theorem D_43_5 : decode J_43.2.2.1 5 = .ok (.aload_n 0, 1) := by decide +kernel
theorem D_43_6 : decode J_43.2.2.1 6 = .ok (.getfield 16, 3) := by decide +kernel
theorem D_43_9 : decode J_43.2.2.1 9 = .ok (.if_icmp .gt 7, 3) := by decide +kernel
theorem D_43_12 : decode J_43.2.2.1 12 = .ok (.iconst 1, 1) := by decide +kernel
theorem D_43_13 : decode J_43.2.2.1 13 = .ok (.goto 4, 3) := by decide +kernel
theorem D_43_16 : decode J_43.2.2.1 16 = .ok (.iconst 0, 1) := by decide +kernel
theorem D_43_17 : decode J_43.2.2.1 17 = .ok (.ireturn, 1) := by decide +kernel
def P_43_16 (X : mjX) (d C S kc ks : Nat) (k : mjH → mjU) : Prop := ∀  (hp : mjH) (q : Option Value × mjH), k  hp = some q → mjG X d C S J_43 (mjEq q) 16 [none, none] [] hp kc ks
def P_43_0 (X : mjX) (d C S kc ks : Nat) (k : Nat → Int32 → mjH → mjU) : Prop := ∀ (l0 : Nat) (l1 : Int32) (hp : mjH) (q : Option Value × mjH), k l0 l1 hp = some q → mjG X d C S J_43 (mjEq q) 0 [some (.ref l0), some (.int l1)] [] hp kc ks
noncomputable def b_43_16 (R : mjR)  (hp : mjH) : mjU := some (some (.int (0 : Int32)), hp)
theorem t_43_16 {X : mjX} {d C S kc ks : Nat} {R : mjR} (hR : mjC R d) (h1 : kc ≤ C) (h2 : ks ≤ S) : P_43_16 X (d + 1) C S kc ks (b_43_16 R) := by
  intro  hp q h
  unfold b_43_16 at h
  refine mjq_ic (v := (0 : Int32)) D_43_16 rfl ?_
  exact mjr_ireturn D_43_17 rfl rfl h1 h2 (Option.some.inj h)
noncomputable def b_43_0 (R : mjR) (l0 : Nat) (l1 : Int32) (hp : mjH) : mjU := (if l1 ≤ 0 then b_43_16 R hp else gI hp l0 3 2 (fun v1 => (if v1 < l1 then b_43_16 R hp else some (some (.int (1 : Int32)), hp))))
theorem t_43_0 {X : mjX} {d C S kc ks : Nat} {R : mjR} (hR : mjC R d) (h1 : kc ≤ C) (h2 : ks ≤ S) : P_43_0 X (d + 1) C S kc ks (b_43_0 R) := by
  intro l0 l1 hp q h
  unfold b_43_0 at h
  refine mjr_iload_n (x := l1) D_43_0 rfl ?_
  refine mjq_if_le (tgt := 16) D_43_1 rfl h (fun h => ?_) (fun h => ?_)
  · exact mjG.fg (lo' := [none, none]) True.intro ((t_43_16 hR h1 h2) _ _ h)
  · refine mjr_iload_n (x := l1) D_43_4 rfl ?_
    refine mjr_aload_n (x := l0) D_43_5 rfl ?_
    refine mjq_gI D_43_6 fr_3_16 h (fun v1 h => ?_)
    refine mjq_icmp_gt (tgt := 16) D_43_9 rfl h (fun h => ?_) (fun h => ?_)
    · exact mjG.fg (lo' := [none, none]) True.intro ((t_43_16 hR h1 h2) _ _ h)
    · refine mjq_ic (v := (1 : Int32)) D_43_12 rfl ?_
      refine mjr_goto (tgt := 17) D_43_13 rfl ?_
      exact mjr_ireturn D_43_17 rfl rfl h1 h2 (Option.some.inj h)
noncomputable def f_43 (R : mjR) (a0 : Nat) (a1 : Int32) (hp : mjH) : mjU := b_43_0 R a0 a1 hp
theorem c_43 {R : mjR} {d : Nat} (hR : mjC R d) {a0 : Nat} {a1 : Int32} {hp : mjH} {q : Option Value × mjH} (h : f_43 R a0 a1 hp = some q) : mjM (d + 1) 0 0 43 [.ref a0, .int a1] hp (mjEq q) :=
  mjM_of Ja_43 (Nat.le_of_ble_eq_true rfl) (mjG.fg (lo' := [some (.ref a0), some (.int a1)]) (And.intro rfl (And.intro rfl True.intro)) ((t_43_0 hR (Nat.le_refl 0) (Nat.le_refl 0)) a0 a1 hp q h))
def J_45 : mjI := (⟨"OwnerHeap$Heap", "fieldAt", "(II)I"⟩, 3, prog_5_method_9_code, 4, (some .int), 2, false)
theorem Ja_45 : mjMt 45 = some J_45 := by rfl
theorem D_45_0 : decode J_45.2.2.1 0 = .ok (.aload_n 0, 1) := by decide +kernel
theorem D_45_1 : decode J_45.2.2.1 1 = .ok (.getfield 13, 3) := by decide +kernel
theorem D_45_4 : decode J_45.2.2.1 4 = .ok (.iload_n 1, 1) := by decide +kernel
theorem D_45_5 : decode J_45.2.2.1 5 = .ok (.iaload, 1) := by decide +kernel
theorem D_45_6 : decode J_45.2.2.1 6 = .ok (.istore_n 3, 1) := by decide +kernel
theorem D_45_7 : decode J_45.2.2.1 7 = .ok (.aload_n 0, 1) := by decide +kernel
theorem D_45_8 : decode J_45.2.2.1 8 = .ok (.getfield 9, 3) := by decide +kernel
theorem D_45_11 : decode J_45.2.2.1 11 = .ok (.iload_n 3, 1) := by decide +kernel
theorem D_45_12 : decode J_45.2.2.1 12 = .ok (.iconst 2, 1) := by decide +kernel
theorem D_45_13 : decode J_45.2.2.1 13 = .ok (.iadd, 1) := by decide +kernel
theorem D_45_14 : decode J_45.2.2.1 14 = .ok (.aload_n 0, 1) := by decide +kernel
theorem D_45_15 : decode J_45.2.2.1 15 = .ok (.getfield 9, 3) := by decide +kernel
theorem D_45_18 : decode J_45.2.2.1 18 = .ok (.iload_n 3, 1) := by decide +kernel
theorem D_45_19 : decode J_45.2.2.1 19 = .ok (.iconst 1, 1) := by decide +kernel
theorem D_45_20 : decode J_45.2.2.1 20 = .ok (.iadd, 1) := by decide +kernel
theorem D_45_21 : decode J_45.2.2.1 21 = .ok (.iaload, 1) := by decide +kernel
theorem D_45_22 : decode J_45.2.2.1 22 = .ok (.iadd, 1) := by decide +kernel
theorem D_45_23 : decode J_45.2.2.1 23 = .ok (.iload_n 2, 1) := by decide +kernel
theorem D_45_24 : decode J_45.2.2.1 24 = .ok (.iadd, 1) := by decide +kernel
theorem D_45_25 : decode J_45.2.2.1 25 = .ok (.iaload, 1) := by decide +kernel
theorem D_45_26 : decode J_45.2.2.1 26 = .ok (.ireturn, 1) := by decide +kernel
def P_45_0 (X : mjX) (d C S kc ks : Nat) (k : Nat → Int32 → Int32 → mjH → mjU) : Prop := ∀ (l0 : Nat) (l1 : Int32) (l2 : Int32) (hp : mjH) (q : Option Value × mjH), k l0 l1 l2 hp = some q → mjG X d C S J_45 (mjEq q) 0 [some (.ref l0), some (.int l1), some (.int l2), none] [] hp kc ks
noncomputable def b_45_0 (R : mjR) (l0 : Nat) (l1 : Int32) (l2 : Int32) (hp : mjH) : mjU := gR hp l0 3 1 (fun v1 => aI hp v1 l1 (fun v2 => gR hp l0 3 0 (fun v3 => gR hp l0 3 0 (fun v4 => aI hp v4 (v2 + (1 : Int32)) (fun v5 => aI hp v3 (((v2 + (2 : Int32)) + v5) + l2) (fun v6 => some (some (.int v6), hp)))))))
theorem t_45_0 {X : mjX} {d C S kc ks : Nat} {R : mjR} (hR : mjC R d) (h1 : kc ≤ C) (h2 : ks ≤ S) : P_45_0 X (d + 1) C S kc ks (b_45_0 R) := by
  intro l0 l1 l2 hp q h
  unfold b_45_0 at h
  refine mjr_aload_n (x := l0) D_45_0 rfl ?_
  refine mjq_gR D_45_1 fr_3_13 h (fun v1 h => ?_)
  refine mjr_iload_n (x := l1) D_45_4 rfl ?_
  refine mjq_aI D_45_5 h (fun v2 h => ?_)
  refine mjq_istore_n (lo' := [some (.ref l0), some (.int l1), some (.int l2), some (.int v2)]) D_45_6 (Nat.le_of_ble_eq_true rfl) rfl ?_
  refine mjr_aload_n (x := l0) D_45_7 rfl ?_
  refine mjq_gR D_45_8 fr_3_9 h (fun v3 h => ?_)
  refine mjr_iload_n (x := v2) D_45_11 rfl ?_
  refine mjq_ic (v := (2 : Int32)) D_45_12 rfl ?_
  refine mjr_iadd D_45_13 ?_
  refine mjr_aload_n (x := l0) D_45_14 rfl ?_
  refine mjq_gR D_45_15 fr_3_9 h (fun v4 h => ?_)
  refine mjr_iload_n (x := v2) D_45_18 rfl ?_
  refine mjq_ic (v := (1 : Int32)) D_45_19 rfl ?_
  refine mjr_iadd D_45_20 ?_
  refine mjq_aI D_45_21 h (fun v5 h => ?_)
  refine mjr_iadd D_45_22 ?_
  refine mjr_iload_n (x := l2) D_45_23 rfl ?_
  refine mjr_iadd D_45_24 ?_
  refine mjq_aI D_45_25 h (fun v6 h => ?_)
  exact mjq_ret D_45_26 rfl h1 h2 h
noncomputable def f_45 (R : mjR) (a0 : Nat) (a1 : Int32) (a2 : Int32) (hp : mjH) : mjU := b_45_0 R a0 a1 a2 hp
theorem c_45 {R : mjR} {d : Nat} (hR : mjC R d) {a0 : Nat} {a1 : Int32} {a2 : Int32} {hp : mjH} {q : Option Value × mjH} (h : f_45 R a0 a1 a2 hp = some q) : mjM (d + 1) 0 0 45 [.ref a0, .int a1, .int a2] hp (mjEq q) :=
  mjM_of Ja_45 (Nat.le_of_ble_eq_true rfl) (mjG.fg (lo' := [some (.ref a0), some (.int a1), some (.int a2), none]) (And.intro rfl (And.intro rfl (And.intro rfl True.intro))) ((t_45_0 hR (Nat.le_refl 0) (Nat.le_refl 0)) a0 a1 a2 hp q h))
def J_46 : mjI := (⟨"OwnerHeap$Heap", "classOf", "(I)I"⟩, 3, prog_5_method_5_code, 2, (some .int), 1, false)
theorem Ja_46 : mjMt 46 = some J_46 := by rfl
theorem D_46_0 : decode J_46.2.2.1 0 = .ok (.aload_n 0, 1) := by decide +kernel
theorem D_46_1 : decode J_46.2.2.1 1 = .ok (.getfield 9, 3) := by decide +kernel
theorem D_46_4 : decode J_46.2.2.1 4 = .ok (.aload_n 0, 1) := by decide +kernel
theorem D_46_5 : decode J_46.2.2.1 5 = .ok (.getfield 13, 3) := by decide +kernel
theorem D_46_8 : decode J_46.2.2.1 8 = .ok (.iload_n 1, 1) := by decide +kernel
theorem D_46_9 : decode J_46.2.2.1 9 = .ok (.iaload, 1) := by decide +kernel
theorem D_46_10 : decode J_46.2.2.1 10 = .ok (.iaload, 1) := by decide +kernel
theorem D_46_11 : decode J_46.2.2.1 11 = .ok (.ireturn, 1) := by decide +kernel
def P_46_0 (X : mjX) (d C S kc ks : Nat) (k : Nat → Int32 → mjH → mjU) : Prop := ∀ (l0 : Nat) (l1 : Int32) (hp : mjH) (q : Option Value × mjH), k l0 l1 hp = some q → mjG X d C S J_46 (mjEq q) 0 [some (.ref l0), some (.int l1)] [] hp kc ks
noncomputable def b_46_0 (R : mjR) (l0 : Nat) (l1 : Int32) (hp : mjH) : mjU := gR hp l0 3 0 (fun v1 => gR hp l0 3 1 (fun v2 => aI hp v2 l1 (fun v3 => aI hp v1 v3 (fun v4 => some (some (.int v4), hp)))))
theorem t_46_0 {X : mjX} {d C S kc ks : Nat} {R : mjR} (hR : mjC R d) (h1 : kc ≤ C) (h2 : ks ≤ S) : P_46_0 X (d + 1) C S kc ks (b_46_0 R) := by
  intro l0 l1 hp q h
  unfold b_46_0 at h
  refine mjr_aload_n (x := l0) D_46_0 rfl ?_
  refine mjq_gR D_46_1 fr_3_9 h (fun v1 h => ?_)
  refine mjr_aload_n (x := l0) D_46_4 rfl ?_
  refine mjq_gR D_46_5 fr_3_13 h (fun v2 h => ?_)
  refine mjr_iload_n (x := l1) D_46_8 rfl ?_
  refine mjq_aI D_46_9 h (fun v3 h => ?_)
  refine mjq_aI D_46_10 h (fun v4 h => ?_)
  exact mjq_ret D_46_11 rfl h1 h2 h
noncomputable def f_46 (R : mjR) (a0 : Nat) (a1 : Int32) (hp : mjH) : mjU := b_46_0 R a0 a1 hp
theorem c_46 {R : mjR} {d : Nat} (hR : mjC R d) {a0 : Nat} {a1 : Int32} {hp : mjH} {q : Option Value × mjH} (h : f_46 R a0 a1 hp = some q) : mjM (d + 1) 0 0 46 [.ref a0, .int a1] hp (mjEq q) :=
  mjM_of Ja_46 (Nat.le_of_ble_eq_true rfl) (mjG.fg (lo' := [some (.ref a0), some (.int a1)]) (And.intro rfl (And.intro rfl True.intro)) ((t_46_0 hR (Nat.le_refl 0) (Nat.le_refl 0)) a0 a1 hp q h))
def J_48 : mjI := (⟨"OwnerHeap$Heap", "ownersOf", "(I)I"⟩, 3, prog_5_method_6_code, 2, (some .int), 1, false)
theorem Ja_48 : mjMt 48 = some J_48 := by rfl
theorem D_48_0 : decode J_48.2.2.1 0 = .ok (.aload_n 0, 1) := by decide +kernel
theorem D_48_1 : decode J_48.2.2.1 1 = .ok (.getfield 9, 3) := by decide +kernel
theorem D_48_4 : decode J_48.2.2.1 4 = .ok (.aload_n 0, 1) := by decide +kernel
theorem D_48_5 : decode J_48.2.2.1 5 = .ok (.getfield 13, 3) := by decide +kernel
theorem D_48_8 : decode J_48.2.2.1 8 = .ok (.iload_n 1, 1) := by decide +kernel
theorem D_48_9 : decode J_48.2.2.1 9 = .ok (.iaload, 1) := by decide +kernel
theorem D_48_10 : decode J_48.2.2.1 10 = .ok (.iconst 1, 1) := by decide +kernel
theorem D_48_11 : decode J_48.2.2.1 11 = .ok (.iadd, 1) := by decide +kernel
theorem D_48_12 : decode J_48.2.2.1 12 = .ok (.iaload, 1) := by decide +kernel
theorem D_48_13 : decode J_48.2.2.1 13 = .ok (.ireturn, 1) := by decide +kernel
def P_48_0 (X : mjX) (d C S kc ks : Nat) (k : Nat → Int32 → mjH → mjU) : Prop := ∀ (l0 : Nat) (l1 : Int32) (hp : mjH) (q : Option Value × mjH), k l0 l1 hp = some q → mjG X d C S J_48 (mjEq q) 0 [some (.ref l0), some (.int l1)] [] hp kc ks
noncomputable def b_48_0 (R : mjR) (l0 : Nat) (l1 : Int32) (hp : mjH) : mjU := gR hp l0 3 0 (fun v1 => gR hp l0 3 1 (fun v2 => aI hp v2 l1 (fun v3 => aI hp v1 (v3 + (1 : Int32)) (fun v4 => some (some (.int v4), hp)))))
theorem t_48_0 {X : mjX} {d C S kc ks : Nat} {R : mjR} (hR : mjC R d) (h1 : kc ≤ C) (h2 : ks ≤ S) : P_48_0 X (d + 1) C S kc ks (b_48_0 R) := by
  intro l0 l1 hp q h
  unfold b_48_0 at h
  refine mjr_aload_n (x := l0) D_48_0 rfl ?_
  refine mjq_gR D_48_1 fr_3_9 h (fun v1 h => ?_)
  refine mjr_aload_n (x := l0) D_48_4 rfl ?_
  refine mjq_gR D_48_5 fr_3_13 h (fun v2 h => ?_)
  refine mjr_iload_n (x := l1) D_48_8 rfl ?_
  refine mjq_aI D_48_9 h (fun v3 h => ?_)
  refine mjq_ic (v := (1 : Int32)) D_48_10 rfl ?_
  refine mjr_iadd D_48_11 ?_
  refine mjq_aI D_48_12 h (fun v4 h => ?_)
  exact mjq_ret D_48_13 rfl h1 h2 h
noncomputable def f_48 (R : mjR) (a0 : Nat) (a1 : Int32) (hp : mjH) : mjU := b_48_0 R a0 a1 hp
theorem c_48 {R : mjR} {d : Nat} (hR : mjC R d) {a0 : Nat} {a1 : Int32} {hp : mjH} {q : Option Value × mjH} (h : f_48 R a0 a1 hp = some q) : mjM (d + 1) 0 0 48 [.ref a0, .int a1] hp (mjEq q) :=
  mjM_of Ja_48 (Nat.le_of_ble_eq_true rfl) (mjG.fg (lo' := [some (.ref a0), some (.int a1)]) (And.intro rfl (And.intro rfl True.intro)) ((t_48_0 hR (Nat.le_refl 0) (Nat.le_refl 0)) a0 a1 hp q h))
def J_49 : mjI := (⟨"OwnerHeap$Heap", "ownerAt", "(II)I"⟩, 3, prog_5_method_7_code, 3, (some .int), 2, false)
theorem Ja_49 : mjMt 49 = some J_49 := by rfl
theorem D_49_0 : decode J_49.2.2.1 0 = .ok (.aload_n 0, 1) := by decide +kernel
theorem D_49_1 : decode J_49.2.2.1 1 = .ok (.getfield 9, 3) := by decide +kernel
theorem D_49_4 : decode J_49.2.2.1 4 = .ok (.aload_n 0, 1) := by decide +kernel
theorem D_49_5 : decode J_49.2.2.1 5 = .ok (.getfield 13, 3) := by decide +kernel
theorem D_49_8 : decode J_49.2.2.1 8 = .ok (.iload_n 1, 1) := by decide +kernel
theorem D_49_9 : decode J_49.2.2.1 9 = .ok (.iaload, 1) := by decide +kernel
theorem D_49_10 : decode J_49.2.2.1 10 = .ok (.iconst 2, 1) := by decide +kernel
theorem D_49_11 : decode J_49.2.2.1 11 = .ok (.iadd, 1) := by decide +kernel
theorem D_49_12 : decode J_49.2.2.1 12 = .ok (.iload_n 2, 1) := by decide +kernel
theorem D_49_13 : decode J_49.2.2.1 13 = .ok (.iadd, 1) := by decide +kernel
theorem D_49_14 : decode J_49.2.2.1 14 = .ok (.iaload, 1) := by decide +kernel
theorem D_49_15 : decode J_49.2.2.1 15 = .ok (.ireturn, 1) := by decide +kernel
def P_49_0 (X : mjX) (d C S kc ks : Nat) (k : Nat → Int32 → Int32 → mjH → mjU) : Prop := ∀ (l0 : Nat) (l1 : Int32) (l2 : Int32) (hp : mjH) (q : Option Value × mjH), k l0 l1 l2 hp = some q → mjG X d C S J_49 (mjEq q) 0 [some (.ref l0), some (.int l1), some (.int l2)] [] hp kc ks
noncomputable def b_49_0 (R : mjR) (l0 : Nat) (l1 : Int32) (l2 : Int32) (hp : mjH) : mjU := gR hp l0 3 0 (fun v1 => gR hp l0 3 1 (fun v2 => aI hp v2 l1 (fun v3 => aI hp v1 ((v3 + (2 : Int32)) + l2) (fun v4 => some (some (.int v4), hp)))))
theorem t_49_0 {X : mjX} {d C S kc ks : Nat} {R : mjR} (hR : mjC R d) (h1 : kc ≤ C) (h2 : ks ≤ S) : P_49_0 X (d + 1) C S kc ks (b_49_0 R) := by
  intro l0 l1 l2 hp q h
  unfold b_49_0 at h
  refine mjr_aload_n (x := l0) D_49_0 rfl ?_
  refine mjq_gR D_49_1 fr_3_9 h (fun v1 h => ?_)
  refine mjr_aload_n (x := l0) D_49_4 rfl ?_
  refine mjq_gR D_49_5 fr_3_13 h (fun v2 h => ?_)
  refine mjr_iload_n (x := l1) D_49_8 rfl ?_
  refine mjq_aI D_49_9 h (fun v3 h => ?_)
  refine mjq_ic (v := (2 : Int32)) D_49_10 rfl ?_
  refine mjr_iadd D_49_11 ?_
  refine mjr_iload_n (x := l2) D_49_12 rfl ?_
  refine mjr_iadd D_49_13 ?_
  refine mjq_aI D_49_14 h (fun v4 h => ?_)
  exact mjq_ret D_49_15 rfl h1 h2 h
noncomputable def f_49 (R : mjR) (a0 : Nat) (a1 : Int32) (a2 : Int32) (hp : mjH) : mjU := b_49_0 R a0 a1 a2 hp
theorem c_49 {R : mjR} {d : Nat} (hR : mjC R d) {a0 : Nat} {a1 : Int32} {a2 : Int32} {hp : mjH} {q : Option Value × mjH} (h : f_49 R a0 a1 a2 hp = some q) : mjM (d + 1) 0 0 49 [.ref a0, .int a1, .int a2] hp (mjEq q) :=
  mjM_of Ja_49 (Nat.le_of_ble_eq_true rfl) (mjG.fg (lo' := [some (.ref a0), some (.int a1), some (.int a2)]) (And.intro rfl (And.intro rfl (And.intro rfl True.intro))) ((t_49_0 hR (Nat.le_refl 0) (Nat.le_refl 0)) a0 a1 a2 hp q h))
def J_96 : mjI := (⟨"OwnerHeap$Members", "clear", "()V"⟩, 6, prog_8_method_2_code, 2, none, 0, false)
theorem Ja_96 : mjMt 96 = some J_96 := by rfl
theorem D_96_0 : decode J_96.2.2.1 0 = .ok (.aload_n 0, 1) := by decide +kernel
theorem D_96_1 : decode J_96.2.2.1 1 = .ok (.iconst 0, 1) := by decide +kernel
theorem D_96_2 : decode J_96.2.2.1 2 = .ok (.putfield 43, 3) := by decide +kernel
theorem D_96_5 : decode J_96.2.2.1 5 = .ok (.iconst 0, 1) := by decide +kernel
theorem D_96_6 : decode J_96.2.2.1 6 = .ok (.istore_n 1, 1) := by decide +kernel
theorem D_96_7 : decode J_96.2.2.1 7 = .ok (.iload_n 1, 1) := by decide +kernel
theorem D_96_8 : decode J_96.2.2.1 8 = .ok (.sipush 385, 3) := by decide +kernel
theorem D_96_11 : decode J_96.2.2.1 11 = .ok (.if_icmp .ge 34, 3) := by decide +kernel
theorem D_96_14 : decode J_96.2.2.1 14 = .ok (.aload_n 0, 1) := by decide +kernel
theorem D_96_15 : decode J_96.2.2.1 15 = .ok (.getfield 24, 3) := by decide +kernel
theorem D_96_18 : decode J_96.2.2.1 18 = .ok (.iload_n 1, 1) := by decide +kernel
theorem D_96_19 : decode J_96.2.2.1 19 = .ok (.iload_n 1, 1) := by decide +kernel
theorem D_96_20 : decode J_96.2.2.1 20 = .ok (.sipush 384, 3) := by decide +kernel
theorem D_96_23 : decode J_96.2.2.1 23 = .ok (.if_icmp .ne 7, 3) := by decide +kernel
theorem D_96_26 : decode J_96.2.2.1 26 = .ok (.iconst 1, 1) := by decide +kernel
theorem D_96_27 : decode J_96.2.2.1 27 = .ok (.goto 4, 3) := by decide +kernel
theorem D_96_30 : decode J_96.2.2.1 30 = .ok (.iconst 0, 1) := by decide +kernel
theorem D_96_31 : decode J_96.2.2.1 31 = .ok (.bastore, 1) := by decide +kernel
theorem D_96_32 : decode J_96.2.2.1 32 = .ok (.aload_n 0, 1) := by decide +kernel
theorem D_96_33 : decode J_96.2.2.1 33 = .ok (.getfield 31, 3) := by decide +kernel
theorem D_96_36 : decode J_96.2.2.1 36 = .ok (.iload_n 1, 1) := by decide +kernel
theorem D_96_37 : decode J_96.2.2.1 37 = .ok (.iconst 0, 1) := by decide +kernel
theorem D_96_38 : decode J_96.2.2.1 38 = .ok (.iastore, 1) := by decide +kernel
theorem D_96_39 : decode J_96.2.2.1 39 = .ok (.iinc 1 1, 3) := by decide +kernel
theorem D_96_42 : decode J_96.2.2.1 42 = .ok (.goto (-35), 3) := by decide +kernel
theorem D_96_45 : decode J_96.2.2.1 45 = .ok (.aload_n 0, 1) := by decide +kernel
theorem D_96_46 : decode J_96.2.2.1 46 = .ok (.getfield 17, 3) := by decide +kernel
theorem D_96_49 : decode J_96.2.2.1 49 = .ok (.sipush 384, 3) := by decide +kernel
theorem D_96_52 : decode J_96.2.2.1 52 = .ok (.iconst (-1), 1) := by decide +kernel
theorem D_96_53 : decode J_96.2.2.1 53 = .ok (.iastore, 1) := by decide +kernel
theorem D_96_54 : decode J_96.2.2.1 54 = .ok (.aload_n 0, 1) := by decide +kernel
theorem D_96_55 : decode J_96.2.2.1 55 = .ok (.getfield 21, 3) := by decide +kernel
theorem D_96_58 : decode J_96.2.2.1 58 = .ok (.sipush 384, 3) := by decide +kernel
theorem D_96_61 : decode J_96.2.2.1 61 = .ok (.iconst (-1), 1) := by decide +kernel
theorem D_96_62 : decode J_96.2.2.1 62 = .ok (.iastore, 1) := by decide +kernel
theorem D_96_63 : decode J_96.2.2.1 63 = .ok (.return_, 1) := by decide +kernel
def P_96_31 (X : mjX) (d C S kc ks : Nat) (k : Nat → Int32 → Nat → Int32 → Int32 → mjH → mjU) : Prop := ∀ (l0 : Nat) (l1 : Int32) (s0 : Nat) (s1 : Int32) (s2 : Int32) (hp : mjH) (q : Option Value × mjH), k l0 l1 s0 s1 s2 hp = some q → mjG X d C S J_96 (mjEq q) 31 [some (.ref l0), some (.int l1)] [.int s2, .int s1, .ref s0] hp kc ks
def P_96_7 (X : mjX) (d C S kc ks : Nat) (k : Nat → Int32 → mjH → mjU) : Prop := ∀ (l0 : Nat) (l1 : Int32) (hp : mjH) (q : Option Value × mjH), k l0 l1 hp = some q → mjG X d C S J_96 (mjEq q) 7 [some (.ref l0), some (.int l1)] [] hp kc ks
def P_96_0 (X : mjX) (d C S kc ks : Nat) (k : Nat → mjH → mjU) : Prop := ∀ (l0 : Nat) (hp : mjH) (q : Option Value × mjH), k l0 hp = some q → mjG X d C S J_96 (mjEq q) 0 [some (.ref l0), none] [] hp kc ks
noncomputable def b_96_31 (R : mjR) (k7 : Nat → Int32 → mjH → mjU) (l0 : Nat) (l1 : Int32) (s0 : Nat) (s1 : Int32) (s2 : Int32) (hp : mjH) : mjU := sB hp s0 s1 s2 (fun hp1 => gR hp1 l0 6 6 (fun v2 => sI hp1 v2 l1 (0 : Int32) (fun hp3 => k7 l0 (l1 + (1 : Int32)) hp3)))
theorem t_96_31 {X : mjX} {d C S kc ks : Nat} {R : mjR} (hR : mjC R d) (h1 : kc ≤ C) (h2 : ks ≤ S) {k7 : Nat → Int32 → mjH → mjU} (hk7 : P_96_7 X (d + 1) C S kc ks k7) : P_96_31 X (d + 1) C S kc ks (b_96_31 R k7) := by
  intro l0 l1 s0 s1 s2 hp q h
  unfold b_96_31 at h
  refine mjq_sB D_96_31 h (fun hp1 h => ?_)
  refine mjr_aload_n (x := l0) D_96_32 rfl ?_
  refine mjq_gR D_96_33 fr_6_31 h (fun v2 h => ?_)
  refine mjr_iload_n (x := l1) D_96_36 rfl ?_
  refine mjq_ic (v := (0 : Int32)) D_96_37 rfl ?_
  refine mjq_sI D_96_38 h (fun hp3 h => ?_)
  refine mjq_iinc (x := l1) (c := (1 : Int32)) (lo' := [some (.ref l0), some (.int (l1 + (1 : Int32)))]) D_96_39 rfl (Nat.le_of_ble_eq_true rfl) rfl rfl ?_
  refine mjr_goto (tgt := 7) D_96_42 rfl ?_
  exact hk7 _ _ _ _ h
noncomputable def b_96_7 (R : mjR) (k7 : Nat → Int32 → mjH → mjU) (l0 : Nat) (l1 : Int32) (hp : mjH) : mjU := (if (385 : Int32) ≤ l1 then gR hp l0 6 2 (fun v1 => sI hp v1 (384 : Int32) (-1 : Int32) (fun hp2 => gR hp2 l0 6 3 (fun v3 => sI hp2 v3 (384 : Int32) (-1 : Int32) (fun hp4 => some (none, hp4))))) else gR hp l0 6 4 (fun v5 => (if l1 = (384 : Int32) then b_96_31 R k7 l0 l1 v5 l1 (1 : Int32) hp else b_96_31 R k7 l0 l1 v5 l1 (0 : Int32) hp)))
theorem t_96_7 {X : mjX} {d C S kc ks : Nat} {R : mjR} (hR : mjC R d) (h1 : kc ≤ C) (h2 : ks ≤ S) {k7 : Nat → Int32 → mjH → mjU} (hk7 : P_96_7 X (d + 1) C S kc ks k7) : P_96_7 X (d + 1) C S kc ks (b_96_7 R k7) := by
  intro l0 l1 hp q h
  unfold b_96_7 at h
  refine mjr_iload_n (x := l1) D_96_7 rfl ?_
  refine mjq_si (v := (385 : Int32)) D_96_8 rfl ?_
  refine mjq_icmp_ge (tgt := 45) D_96_11 rfl h (fun h => ?_) (fun h => ?_)
  · refine mjr_aload_n (x := l0) D_96_45 rfl ?_
    refine mjq_gR D_96_46 fr_6_17 h (fun v1 h => ?_)
    refine mjq_si (v := (384 : Int32)) D_96_49 rfl ?_
    refine mjq_ic (v := (-1 : Int32)) D_96_52 rfl ?_
    refine mjq_sI D_96_53 h (fun hp2 h => ?_)
    refine mjr_aload_n (x := l0) D_96_54 rfl ?_
    refine mjq_gR D_96_55 fr_6_21 h (fun v3 h => ?_)
    refine mjq_si (v := (384 : Int32)) D_96_58 rfl ?_
    refine mjq_ic (v := (-1 : Int32)) D_96_61 rfl ?_
    refine mjq_sI D_96_62 h (fun hp4 h => ?_)
    exact mjq_nret D_96_63 rfl h1 h2 h
  · refine mjr_aload_n (x := l0) D_96_14 rfl ?_
    refine mjq_gR D_96_15 fr_6_24 h (fun v5 h => ?_)
    refine mjr_iload_n (x := l1) D_96_18 rfl ?_
    refine mjr_iload_n (x := l1) D_96_19 rfl ?_
    refine mjq_si (v := (384 : Int32)) D_96_20 rfl ?_
    refine mjq_icmp_ne (tgt := 30) D_96_23 rfl h (fun h => ?_) (fun h => ?_)
    · refine mjq_ic (v := (0 : Int32)) D_96_30 rfl ?_
      exact (t_96_31 hR h1 h2 hk7) _ _ _ _ _ _ _ h
    · refine mjq_ic (v := (1 : Int32)) D_96_26 rfl ?_
      refine mjr_goto (tgt := 31) D_96_27 rfl ?_
      exact (t_96_31 hR h1 h2 hk7) _ _ _ _ _ _ _ h
noncomputable def L_96_7 (R : mjR) (n : Nat) : Nat → Int32 → mjH → mjU := Nat.rec (motive := fun _ => Nat → Int32 → mjH → mjU) (fun _ _ _ => none) (fun _ self => b_96_7 R self) n
theorem T_96_7 {X : mjX} {d C S kc ks : Nat} {R : mjR} (hR : mjC R d) (h1 : kc ≤ C) (h2 : ks ≤ S) (n : Nat) : P_96_7 X (d + 1) C S kc ks (L_96_7 R n) := by
  induction n with
  | zero => intro _ _ _ _ h; exact mj_no h
  | succ n ih => exact t_96_7 hR h1 h2 ih
noncomputable def b_96_0 (R : mjR) (l0 : Nat) (hp : mjH) : mjU := pI hp l0 6 0 (0 : Int32) (fun hp1 => L_96_7 R mjN l0 (0 : Int32) hp1)
theorem t_96_0 {X : mjX} {d C S kc ks : Nat} {R : mjR} (hR : mjC R d) (h1 : kc ≤ C) (h2 : ks ≤ S) : P_96_0 X (d + 1) C S kc ks (b_96_0 R) := by
  intro l0 hp q h
  unfold b_96_0 at h
  refine mjr_aload_n (x := l0) D_96_0 rfl ?_
  refine mjq_ic (v := (0 : Int32)) D_96_1 rfl ?_
  refine mjq_pI D_96_2 fr_6_43 rfl rfl h (fun hp1 h => ?_)
  refine mjq_ic (v := (0 : Int32)) D_96_5 rfl ?_
  refine mjq_istore_n (lo' := [some (.ref l0), some (.int (0 : Int32))]) D_96_6 (Nat.le_of_ble_eq_true rfl) rfl ?_
  exact (T_96_7 hR h1 h2 mjN) _ _ _ _ h
noncomputable def f_96 (R : mjR) (a0 : Nat) (hp : mjH) : mjU := b_96_0 R a0 hp
theorem c_96 {R : mjR} {d : Nat} (hR : mjC R d) {a0 : Nat} {hp : mjH} {q : Option Value × mjH} (h : f_96 R a0 hp = some q) : mjM (d + 1) 0 0 96 [.ref a0] hp (mjEq q) :=
  mjM_of Ja_96 (Nat.le_of_ble_eq_true rfl) (mjG.fg (lo' := [some (.ref a0), none]) (And.intro rfl True.intro) ((t_96_0 hR (Nat.le_refl 0) (Nat.le_refl 0)) a0 hp q h))
def J_101 : mjI := (⟨"OwnerHeap$Program", "clear", "()V"⟩, 7, prog_9_method_2_code, 1, none, 0, false)
theorem Ja_101 : mjMt 101 = some J_101 := by rfl
theorem D_101_0 : decode J_101.2.2.1 0 = .ok (.aload_n 0, 1) := by decide +kernel
theorem D_101_1 : decode J_101.2.2.1 1 = .ok (.iconst 0, 1) := by decide +kernel
theorem D_101_2 : decode J_101.2.2.1 2 = .ok (.putfield 66, 3) := by decide +kernel
theorem D_101_5 : decode J_101.2.2.1 5 = .ok (.aload_n 0, 1) := by decide +kernel
theorem D_101_6 : decode J_101.2.2.1 6 = .ok (.getfield 11, 3) := by decide +kernel
theorem D_101_9 : decode J_101.2.2.1 9 = .ok (.iconst 0, 1) := by decide +kernel
theorem D_101_10 : decode J_101.2.2.1 10 = .ok (.invokestatic 70, 3) := by decide +kernel
theorem D_101_13 : decode J_101.2.2.1 13 = .ok (.aload_n 0, 1) := by decide +kernel
theorem D_101_14 : decode J_101.2.2.1 14 = .ok (.getfield 18, 3) := by decide +kernel
theorem D_101_17 : decode J_101.2.2.1 17 = .ok (.iconst 0, 1) := by decide +kernel
theorem D_101_18 : decode J_101.2.2.1 18 = .ok (.invokestatic 70, 3) := by decide +kernel
theorem D_101_21 : decode J_101.2.2.1 21 = .ok (.aload_n 0, 1) := by decide +kernel
theorem D_101_22 : decode J_101.2.2.1 22 = .ok (.getfield 24, 3) := by decide +kernel
theorem D_101_25 : decode J_101.2.2.1 25 = .ok (.iconst (-1), 1) := by decide +kernel
theorem D_101_26 : decode J_101.2.2.1 26 = .ok (.invokestatic 70, 3) := by decide +kernel
theorem D_101_29 : decode J_101.2.2.1 29 = .ok (.aload_n 0, 1) := by decide +kernel
theorem D_101_30 : decode J_101.2.2.1 30 = .ok (.getfield 27, 3) := by decide +kernel
theorem D_101_33 : decode J_101.2.2.1 33 = .ok (.iconst 0, 1) := by decide +kernel
theorem D_101_34 : decode J_101.2.2.1 34 = .ok (.invokestatic 70, 3) := by decide +kernel
theorem D_101_37 : decode J_101.2.2.1 37 = .ok (.aload_n 0, 1) := by decide +kernel
theorem D_101_38 : decode J_101.2.2.1 38 = .ok (.getfield 30, 3) := by decide +kernel
theorem D_101_41 : decode J_101.2.2.1 41 = .ok (.iconst 0, 1) := by decide +kernel
theorem D_101_42 : decode J_101.2.2.1 42 = .ok (.invokestatic 70, 3) := by decide +kernel
theorem D_101_45 : decode J_101.2.2.1 45 = .ok (.aload_n 0, 1) := by decide +kernel
theorem D_101_46 : decode J_101.2.2.1 46 = .ok (.getfield 33, 3) := by decide +kernel
theorem D_101_49 : decode J_101.2.2.1 49 = .ok (.iconst 0, 1) := by decide +kernel
theorem D_101_50 : decode J_101.2.2.1 50 = .ok (.invokestatic 70, 3) := by decide +kernel
theorem D_101_53 : decode J_101.2.2.1 53 = .ok (.aload_n 0, 1) := by decide +kernel
theorem D_101_54 : decode J_101.2.2.1 54 = .ok (.getfield 39, 3) := by decide +kernel
theorem D_101_57 : decode J_101.2.2.1 57 = .ok (.iconst 0, 1) := by decide +kernel
theorem D_101_58 : decode J_101.2.2.1 58 = .ok (.invokestatic 70, 3) := by decide +kernel
theorem D_101_61 : decode J_101.2.2.1 61 = .ok (.aload_n 0, 1) := by decide +kernel
theorem D_101_62 : decode J_101.2.2.1 62 = .ok (.getfield 42, 3) := by decide +kernel
theorem D_101_65 : decode J_101.2.2.1 65 = .ok (.iconst 0, 1) := by decide +kernel
theorem D_101_66 : decode J_101.2.2.1 66 = .ok (.invokestatic 70, 3) := by decide +kernel
theorem D_101_69 : decode J_101.2.2.1 69 = .ok (.aload_n 0, 1) := by decide +kernel
theorem D_101_70 : decode J_101.2.2.1 70 = .ok (.getfield 45, 3) := by decide +kernel
theorem D_101_73 : decode J_101.2.2.1 73 = .ok (.iconst (-1), 1) := by decide +kernel
theorem D_101_74 : decode J_101.2.2.1 74 = .ok (.invokestatic 70, 3) := by decide +kernel
theorem D_101_77 : decode J_101.2.2.1 77 = .ok (.aload_n 0, 1) := by decide +kernel
theorem D_101_78 : decode J_101.2.2.1 78 = .ok (.getfield 48, 3) := by decide +kernel
theorem D_101_81 : decode J_101.2.2.1 81 = .ok (.lconst 0, 1) := by decide +kernel
theorem D_101_82 : decode J_101.2.2.1 82 = .ok (.invokestatic 76, 3) := by decide +kernel
theorem D_101_85 : decode J_101.2.2.1 85 = .ok (.aload_n 0, 1) := by decide +kernel
theorem D_101_86 : decode J_101.2.2.1 86 = .ok (.getfield 55, 3) := by decide +kernel
theorem D_101_89 : decode J_101.2.2.1 89 = .ok (.invokevirtual 79, 3) := by decide +kernel
theorem D_101_92 : decode J_101.2.2.1 92 = .ok (.aload_n 0, 1) := by decide +kernel
theorem D_101_93 : decode J_101.2.2.1 93 = .ok (.getfield 62, 3) := by decide +kernel
theorem D_101_96 : decode J_101.2.2.1 96 = .ok (.iconst 0, 1) := by decide +kernel
theorem D_101_97 : decode J_101.2.2.1 97 = .ok (.putfield 82, 3) := by decide +kernel
theorem D_101_100 : decode J_101.2.2.1 100 = .ok (.return_, 1) := by decide +kernel
def P_101_0 (X : mjX) (d C S kc ks : Nat) (k : Nat → mjH → mjU) : Prop := ∀ (l0 : Nat) (hp : mjH) (q : Option Value × mjH), k l0 hp = some q → mjG X d C S J_101 (mjEq q) 0 [some (.ref l0)] [] hp kc ks
noncomputable def b_101_0 (R : mjR) (l0 : Nat) (hp : mjH) : mjU := pI hp l0 7 0 (0 : Int32) (fun hp1 => gR hp1 l0 7 1 (fun v2 => bN (R 377 [.ref v2, .int (0 : Int32)] hp1) (fun  hp3 => gR hp3 l0 7 3 (fun v4 => bN (R 377 [.ref v4, .int (0 : Int32)] hp3) (fun  hp5 => gR hp5 l0 7 5 (fun v6 => bN (R 377 [.ref v6, .int (-1 : Int32)] hp5) (fun  hp7 => gR hp7 l0 7 6 (fun v8 => bN (R 377 [.ref v8, .int (0 : Int32)] hp7) (fun  hp9 => gR hp9 l0 7 7 (fun v10 => bN (R 377 [.ref v10, .int (0 : Int32)] hp9) (fun  hp11 => gR hp11 l0 7 8 (fun v12 => bN (R 377 [.ref v12, .int (0 : Int32)] hp11) (fun  hp13 => gR hp13 l0 7 10 (fun v14 => bN (R 377 [.ref v14, .int (0 : Int32)] hp13) (fun  hp15 => gR hp15 l0 7 11 (fun v16 => bN (R 377 [.ref v16, .int (0 : Int32)] hp15) (fun  hp17 => gR hp17 l0 7 12 (fun v18 => bN (R 377 [.ref v18, .int (-1 : Int32)] hp17) (fun  hp19 => gR hp19 l0 7 13 (fun v20 => bN (R 378 [.ref v20, .long (0 : Int64)] hp19) (fun  hp21 => gR hp21 l0 7 14 (fun v22 => rV hp21 v22 6 (bN (R 96 [.ref v22] hp21) (fun  hp23 => gR hp23 l0 7 15 (fun v24 => pI hp23 v24 0 3 (0 : Int32) (fun hp25 => some (none, hp25)))))))))))))))))))))))))))
theorem t_101_0 {X : mjX} {d C S kc ks : Nat} {R : mjR} (hR : mjC R d) (h1 : kc ≤ C) (h2 : ks ≤ S) : P_101_0 X (d + 1) C S kc ks (b_101_0 R) := by
  intro l0 hp q h
  unfold b_101_0 at h
  refine mjr_aload_n (x := l0) D_101_0 rfl ?_
  refine mjq_ic (v := (0 : Int32)) D_101_1 rfl ?_
  refine mjq_pI D_101_2 fr_7_66 rfl rfl h (fun hp1 h => ?_)
  refine mjr_aload_n (x := l0) D_101_5 rfl ?_
  refine mjq_gR D_101_6 fr_7_11 h (fun v2 h => ?_)
  refine mjq_ic (v := (0 : Int32)) D_101_9 rfl ?_
  refine mjq_scN (As := [.ref v2, .int (0 : Int32)]) (rest := []) D_101_10 mr_7_70 V_377 rfl rfl rfl hR (Nat.le_refl _) h1 h2 h (fun  hp3 h => ?_)
  refine mjr_aload_n (x := l0) D_101_13 rfl ?_
  refine mjq_gR D_101_14 fr_7_18 h (fun v4 h => ?_)
  refine mjq_ic (v := (0 : Int32)) D_101_17 rfl ?_
  refine mjq_scN (As := [.ref v4, .int (0 : Int32)]) (rest := []) D_101_18 mr_7_70 V_377 rfl rfl rfl hR (Nat.le_refl _) h1 h2 h (fun  hp5 h => ?_)
  refine mjr_aload_n (x := l0) D_101_21 rfl ?_
  refine mjq_gR D_101_22 fr_7_24 h (fun v6 h => ?_)
  refine mjq_ic (v := (-1 : Int32)) D_101_25 rfl ?_
  refine mjq_scN (As := [.ref v6, .int (-1 : Int32)]) (rest := []) D_101_26 mr_7_70 V_377 rfl rfl rfl hR (Nat.le_refl _) h1 h2 h (fun  hp7 h => ?_)
  refine mjr_aload_n (x := l0) D_101_29 rfl ?_
  refine mjq_gR D_101_30 fr_7_27 h (fun v8 h => ?_)
  refine mjq_ic (v := (0 : Int32)) D_101_33 rfl ?_
  refine mjq_scN (As := [.ref v8, .int (0 : Int32)]) (rest := []) D_101_34 mr_7_70 V_377 rfl rfl rfl hR (Nat.le_refl _) h1 h2 h (fun  hp9 h => ?_)
  refine mjr_aload_n (x := l0) D_101_37 rfl ?_
  refine mjq_gR D_101_38 fr_7_30 h (fun v10 h => ?_)
  refine mjq_ic (v := (0 : Int32)) D_101_41 rfl ?_
  refine mjq_scN (As := [.ref v10, .int (0 : Int32)]) (rest := []) D_101_42 mr_7_70 V_377 rfl rfl rfl hR (Nat.le_refl _) h1 h2 h (fun  hp11 h => ?_)
  refine mjr_aload_n (x := l0) D_101_45 rfl ?_
  refine mjq_gR D_101_46 fr_7_33 h (fun v12 h => ?_)
  refine mjq_ic (v := (0 : Int32)) D_101_49 rfl ?_
  refine mjq_scN (As := [.ref v12, .int (0 : Int32)]) (rest := []) D_101_50 mr_7_70 V_377 rfl rfl rfl hR (Nat.le_refl _) h1 h2 h (fun  hp13 h => ?_)
  refine mjr_aload_n (x := l0) D_101_53 rfl ?_
  refine mjq_gR D_101_54 fr_7_39 h (fun v14 h => ?_)
  refine mjq_ic (v := (0 : Int32)) D_101_57 rfl ?_
  refine mjq_scN (As := [.ref v14, .int (0 : Int32)]) (rest := []) D_101_58 mr_7_70 V_377 rfl rfl rfl hR (Nat.le_refl _) h1 h2 h (fun  hp15 h => ?_)
  refine mjr_aload_n (x := l0) D_101_61 rfl ?_
  refine mjq_gR D_101_62 fr_7_42 h (fun v16 h => ?_)
  refine mjq_ic (v := (0 : Int32)) D_101_65 rfl ?_
  refine mjq_scN (As := [.ref v16, .int (0 : Int32)]) (rest := []) D_101_66 mr_7_70 V_377 rfl rfl rfl hR (Nat.le_refl _) h1 h2 h (fun  hp17 h => ?_)
  refine mjr_aload_n (x := l0) D_101_69 rfl ?_
  refine mjq_gR D_101_70 fr_7_45 h (fun v18 h => ?_)
  refine mjq_ic (v := (-1 : Int32)) D_101_73 rfl ?_
  refine mjq_scN (As := [.ref v18, .int (-1 : Int32)]) (rest := []) D_101_74 mr_7_70 V_377 rfl rfl rfl hR (Nat.le_refl _) h1 h2 h (fun  hp19 h => ?_)
  refine mjr_aload_n (x := l0) D_101_77 rfl ?_
  refine mjq_gR D_101_78 fr_7_48 h (fun v20 h => ?_)
  refine mjq_lc (v := (0 : Int64)) D_101_81 rfl ?_
  refine mjq_scN (As := [.ref v20, .long (0 : Int64)]) (rest := []) D_101_82 mr_7_76 V_378 rfl rfl rfl hR (Nat.le_refl _) h1 h2 h (fun  hp21 h => ?_)
  refine mjr_aload_n (x := l0) D_101_85 rfl ?_
  refine mjq_gR D_101_86 fr_7_55 h (fun v22 h => ?_)
  refine mjq_vN (As := []) (rest := []) D_101_89 mr_7_79 V_96 rfl rfl rfl hR (Nat.le_refl _) h1 h2 h (fun  hp23 h => ?_)
  refine mjr_aload_n (x := l0) D_101_92 rfl ?_
  refine mjq_gR D_101_93 fr_7_62 h (fun v24 h => ?_)
  refine mjq_ic (v := (0 : Int32)) D_101_96 rfl ?_
  refine mjq_pI D_101_97 fr_7_82 rfl rfl h (fun hp25 h => ?_)
  exact mjq_nret D_101_100 rfl h1 h2 h
noncomputable def f_101 (R : mjR) (a0 : Nat) (hp : mjH) : mjU := b_101_0 R a0 hp
theorem c_101 {R : mjR} {d : Nat} (hR : mjC R d) {a0 : Nat} {hp : mjH} {q : Option Value × mjH} (h : f_101 R a0 hp = some q) : mjM (d + 1) 0 0 101 [.ref a0] hp (mjEq q) :=
  mjM_of Ja_101 (Nat.le_of_ble_eq_true rfl) (mjG.fg (lo' := [some (.ref a0)]) (And.intro rfl True.intro) ((t_101_0 hR (Nat.le_refl 0) (Nat.le_refl 0)) a0 hp q h))
def J_105 : mjI := (⟨"OwnerHeap$Program", "classOf", "(I)I"⟩, 7, prog_9_method_3_code, 1, (some .int), 1, true)
theorem Ja_105 : mjMt 105 = some J_105 := by rfl
theorem D_105_0 : decode J_105.2.2.1 0 = .ok (.iload_n 0, 1) := by decide +kernel
theorem D_105_1 : decode J_105.2.2.1 1 = .ok (.bipush 15, 2) := by decide +kernel
theorem D_105_3 : decode J_105.2.2.1 3 = .ok (.ishr, 1) := by decide +kernel
theorem D_105_4 : decode J_105.2.2.1 4 = .ok (.ireturn, 1) := by decide +kernel
def P_105_0 (X : mjX) (d C S kc ks : Nat) (k : Int32 → mjH → mjU) : Prop := ∀ (l0 : Int32) (hp : mjH) (q : Option Value × mjH), k l0 hp = some q → mjG X d C S J_105 (mjEq q) 0 [some (.int l0)] [] hp kc ks
noncomputable def b_105_0 (R : mjR) (l0 : Int32) (hp : mjH) : mjU := some (some (.int (l0 >>> ((15 : Int32) &&& 31))), hp)
theorem t_105_0 {X : mjX} {d C S kc ks : Nat} {R : mjR} (hR : mjC R d) (h1 : kc ≤ C) (h2 : ks ≤ S) : P_105_0 X (d + 1) C S kc ks (b_105_0 R) := by
  intro l0 hp q h
  unfold b_105_0 at h
  refine mjr_iload_n (x := l0) D_105_0 rfl ?_
  refine mjq_bi (v := (15 : Int32)) D_105_1 rfl ?_
  refine mjr_ishr D_105_3 ?_
  exact mjq_ret D_105_4 rfl h1 h2 h
noncomputable def f_105 (R : mjR) (a0 : Int32) (hp : mjH) : mjU := b_105_0 R a0 hp
theorem c_105 {R : mjR} {d : Nat} (hR : mjC R d) {a0 : Int32} {hp : mjH} {q : Option Value × mjH} (h : f_105 R a0 hp = some q) : mjM (d + 1) 0 0 105 [.int a0] hp (mjEq q) :=
  mjM_of Ja_105 (Nat.le_of_ble_eq_true rfl) (mjG.fg (lo' := [some (.int a0)]) (And.intro rfl True.intro) ((t_105_0 hR (Nat.le_refl 0) (Nat.le_refl 0)) a0 hp q h))
def J_108 : mjI := (⟨"OwnerHeap$Program", "classAbove", "(I)I"⟩, 7, prog_9_method_10_code, 2, (some .int), 1, false)
theorem Ja_108 : mjMt 108 = some J_108 := by rfl
theorem D_108_0 : decode J_108.2.2.1 0 = .ok (.aload_n 0, 1) := by decide +kernel
theorem D_108_1 : decode J_108.2.2.1 1 = .ok (.getfield 24, 3) := by decide +kernel
theorem D_108_4 : decode J_108.2.2.1 4 = .ok (.iload_n 1, 1) := by decide +kernel
theorem D_108_5 : decode J_108.2.2.1 5 = .ok (.iaload, 1) := by decide +kernel
theorem D_108_6 : decode J_108.2.2.1 6 = .ok (.ifCond .ge 7, 3) := by decide +kernel
theorem D_108_9 : decode J_108.2.2.1 9 = .ok (.iconst (-1), 1) := by decide +kernel
theorem D_108_10 : decode J_108.2.2.1 10 = .ok (.goto 12, 3) := by decide +kernel
theorem D_108_13 : decode J_108.2.2.1 13 = .ok (.aload_n 0, 1) := by decide +kernel
theorem D_108_14 : decode J_108.2.2.1 14 = .ok (.getfield 24, 3) := by decide +kernel
theorem D_108_17 : decode J_108.2.2.1 17 = .ok (.iload_n 1, 1) := by decide +kernel
theorem D_108_18 : decode J_108.2.2.1 18 = .ok (.iaload, 1) := by decide +kernel
theorem D_108_19 : decode J_108.2.2.1 19 = .ok (.invokestatic 97, 3) := by decide +kernel
theorem D_108_22 : decode J_108.2.2.1 22 = .ok (.ireturn, 1) := by decide +kernel
def P_108_0 (X : mjX) (d C S kc ks : Nat) (k : Nat → Int32 → mjH → mjU) : Prop := ∀ (l0 : Nat) (l1 : Int32) (hp : mjH) (q : Option Value × mjH), k l0 l1 hp = some q → mjG X d C S J_108 (mjEq q) 0 [some (.ref l0), some (.int l1)] [] hp kc ks
noncomputable def b_108_0 (R : mjR) (l0 : Nat) (l1 : Int32) (hp : mjH) : mjU := gR hp l0 7 5 (fun v1 => aI hp v1 l1 (fun v2 => (if 0 ≤ v2 then gR hp l0 7 5 (fun v3 => aI hp v3 l1 (fun v4 => bI (R 105 [.int v4] hp) (fun v5 hp6 => some (some (.int v5), hp6)))) else some (some (.int (-1 : Int32)), hp))))
theorem t_108_0 {X : mjX} {d C S kc ks : Nat} {R : mjR} (hR : mjC R d) (h1 : kc ≤ C) (h2 : ks ≤ S) : P_108_0 X (d + 1) C S kc ks (b_108_0 R) := by
  intro l0 l1 hp q h
  unfold b_108_0 at h
  refine mjr_aload_n (x := l0) D_108_0 rfl ?_
  refine mjq_gR D_108_1 fr_7_24 h (fun v1 h => ?_)
  refine mjr_iload_n (x := l1) D_108_4 rfl ?_
  refine mjq_aI D_108_5 h (fun v2 h => ?_)
  refine mjq_if_ge (tgt := 13) D_108_6 rfl h (fun h => ?_) (fun h => ?_)
  · refine mjr_aload_n (x := l0) D_108_13 rfl ?_
    refine mjq_gR D_108_14 fr_7_24 h (fun v3 h => ?_)
    refine mjr_iload_n (x := l1) D_108_17 rfl ?_
    refine mjq_aI D_108_18 h (fun v4 h => ?_)
    refine mjq_scI (As := [.int v4]) (rest := []) D_108_19 mr_7_97 V_105 rfl rfl rfl hR (Nat.le_refl _) h1 h2 h (fun v5 hp6 h => ?_)
    exact mjq_ret D_108_22 rfl h1 h2 h
  · refine mjq_ic (v := (-1 : Int32)) D_108_9 rfl ?_
    refine mjr_goto (tgt := 22) D_108_10 rfl ?_
    exact mjq_ret D_108_22 rfl h1 h2 h
noncomputable def f_108 (R : mjR) (a0 : Nat) (a1 : Int32) (hp : mjH) : mjU := b_108_0 R a0 a1 hp
theorem c_108 {R : mjR} {d : Nat} (hR : mjC R d) {a0 : Nat} {a1 : Int32} {hp : mjH} {q : Option Value × mjH} (h : f_108 R a0 a1 hp = some q) : mjM (d + 1) 0 0 108 [.ref a0, .int a1] hp (mjEq q) :=
  mjM_of Ja_108 (Nat.le_of_ble_eq_true rfl) (mjG.fg (lo' := [some (.ref a0), some (.int a1)]) (And.intro rfl (And.intro rfl True.intro)) ((t_108_0 hR (Nat.le_refl 0) (Nat.le_refl 0)) a0 a1 hp q h))
def J_126 : mjI := (⟨"OwnerHeap$Reader", "readText", "(LOwnerHeap$Program;)V"⟩, 8, prog_10_method_2_code, 4, none, 1, false)
theorem Ja_126 : mjMt 126 = some J_126 := by rfl
theorem D_126_0 : decode J_126.2.2.1 0 = .ok (.aload_n 0, 1) := by decide +kernel
theorem D_126_1 : decode J_126.2.2.1 1 = .ok (.aload_n 1, 1) := by decide +kernel
theorem D_126_2 : decode J_126.2.2.1 2 = .ok (.putfield 15, 3) := by decide +kernel
theorem D_126_5 : decode J_126.2.2.1 5 = .ok (.aload_n 0, 1) := by decide +kernel
theorem D_126_6 : decode J_126.2.2.1 6 = .ok (.aload_n 1, 1) := by decide +kernel
theorem D_126_7 : decode J_126.2.2.1 7 = .ok (.getfield 19, 3) := by decide +kernel
theorem D_126_10 : decode J_126.2.2.1 10 = .ok (.putfield 25, 3) := by decide +kernel
theorem D_126_13 : decode J_126.2.2.1 13 = .ok (.aload_n 0, 1) := by decide +kernel
theorem D_126_14 : decode J_126.2.2.1 14 = .ok (.iconst 0, 1) := by decide +kernel
theorem D_126_15 : decode J_126.2.2.1 15 = .ok (.putfield 47, 3) := by decide +kernel
theorem D_126_18 : decode J_126.2.2.1 18 = .ok (.iconst 0, 1) := by decide +kernel
theorem D_126_19 : decode J_126.2.2.1 19 = .ok (.istore_n 2, 1) := by decide +kernel
theorem D_126_20 : decode J_126.2.2.1 20 = .ok (.iload_n 2, 1) := by decide +kernel
theorem D_126_21 : decode J_126.2.2.1 21 = .ok (.bipush 16, 2) := by decide +kernel
theorem D_126_23 : decode J_126.2.2.1 23 = .ok (.if_icmp .gt 58, 3) := by decide +kernel
theorem D_126_26 : decode J_126.2.2.1 26 = .ok (.aload_n 0, 1) := by decide +kernel
theorem D_126_27 : decode J_126.2.2.1 27 = .ok (.getfield 9, 3) := by decide +kernel
theorem D_126_30 : decode J_126.2.2.1 30 = .ok (.iconst 5, 1) := by decide +kernel
theorem D_126_31 : decode J_126.2.2.1 31 = .ok (.invokevirtual 53, 3) := by decide +kernel
theorem D_126_34 : decode J_126.2.2.1 34 = .ok (.ifCond .eq 47, 3) := by decide +kernel
theorem D_126_37 : decode J_126.2.2.1 37 = .ok (.aload_n 0, 1) := by decide +kernel
theorem D_126_38 : decode J_126.2.2.1 38 = .ok (.iload_n 2, 1) := by decide +kernel
theorem D_126_39 : decode J_126.2.2.1 39 = .ok (.invokevirtual 57, 3) := by decide +kernel
theorem D_126_42 : decode J_126.2.2.1 42 = .ok (.iconst 0, 1) := by decide +kernel
theorem D_126_43 : decode J_126.2.2.1 43 = .ok (.istore_n 3, 1) := by decide +kernel
theorem D_126_44 : decode J_126.2.2.1 44 = .ok (.iload_n 3, 1) := by decide +kernel
theorem D_126_45 : decode J_126.2.2.1 45 = .ok (.bipush 24, 2) := by decide +kernel
theorem D_126_47 : decode J_126.2.2.1 47 = .ok (.if_icmp .gt 22, 3) := by decide +kernel
theorem D_126_50 : decode J_126.2.2.1 50 = .ok (.aload_n 0, 1) := by decide +kernel
theorem D_126_51 : decode J_126.2.2.1 51 = .ok (.invokevirtual 61, 3) := by decide +kernel
theorem D_126_54 : decode J_126.2.2.1 54 = .ok (.ifCond .eq 15, 3) := by decide +kernel
theorem D_126_57 : decode J_126.2.2.1 57 = .ok (.aload_n 0, 1) := by decide +kernel
theorem D_126_58 : decode J_126.2.2.1 58 = .ok (.iload_n 2, 1) := by decide +kernel
theorem D_126_59 : decode J_126.2.2.1 59 = .ok (.iload_n 3, 1) := by decide +kernel
theorem D_126_60 : decode J_126.2.2.1 60 = .ok (.invokevirtual 65, 3) := by decide +kernel
theorem D_126_63 : decode J_126.2.2.1 63 = .ok (.iinc 3 1, 3) := by decide +kernel
theorem D_126_66 : decode J_126.2.2.1 66 = .ok (.goto (-22), 3) := by decide +kernel
theorem D_126_69 : decode J_126.2.2.1 69 = .ok (.aload_n 0, 1) := by decide +kernel
theorem D_126_70 : decode J_126.2.2.1 70 = .ok (.bipush 125, 2) := by decide +kernel
theorem D_126_72 : decode J_126.2.2.1 72 = .ok (.invokevirtual 69, 3) := by decide +kernel
theorem D_126_75 : decode J_126.2.2.1 75 = .ok (.iinc 2 1, 3) := by decide +kernel
theorem D_126_78 : decode J_126.2.2.1 78 = .ok (.goto (-58), 3) := by decide +kernel
theorem D_126_81 : decode J_126.2.2.1 81 = .ok (.aload_n 0, 1) := by decide +kernel
theorem D_126_82 : decode J_126.2.2.1 82 = .ok (.getfield 9, 3) := by decide +kernel
theorem D_126_85 : decode J_126.2.2.1 85 = .ok (.bipush 9, 2) := by decide +kernel
theorem D_126_87 : decode J_126.2.2.1 87 = .ok (.invokevirtual 72, 3) := by decide +kernel
theorem D_126_90 : decode J_126.2.2.1 90 = .ok (.aload_n 0, 1) := by decide +kernel
theorem D_126_91 : decode J_126.2.2.1 91 = .ok (.iconst 0, 1) := by decide +kernel
theorem D_126_92 : decode J_126.2.2.1 92 = .ok (.putfield 75, 3) := by decide +kernel
theorem D_126_95 : decode J_126.2.2.1 95 = .ok (.aload_n 0, 1) := by decide +kernel
theorem D_126_96 : decode J_126.2.2.1 96 = .ok (.getfield 44, 3) := by decide +kernel
theorem D_126_99 : decode J_126.2.2.1 99 = .ok (.sipush 384, 3) := by decide +kernel
theorem D_126_102 : decode J_126.2.2.1 102 = .ok (.aload_n 0, 1) := by decide +kernel
theorem D_126_103 : decode J_126.2.2.1 103 = .ok (.getfield 9, 3) := by decide +kernel
theorem D_126_106 : decode J_126.2.2.1 106 = .ok (.invokevirtual 78, 3) := by decide +kernel
theorem D_126_109 : decode J_126.2.2.1 109 = .ok (.iastore, 1) := by decide +kernel
theorem D_126_110 : decode J_126.2.2.1 110 = .ok (.aload_n 0, 1) := by decide +kernel
theorem D_126_111 : decode J_126.2.2.1 111 = .ok (.invokevirtual 82, 3) := by decide +kernel
theorem D_126_114 : decode J_126.2.2.1 114 = .ok (.aload_n 0, 1) := by decide +kernel
theorem D_126_115 : decode J_126.2.2.1 115 = .ok (.getfield 25, 3) := by decide +kernel
theorem D_126_118 : decode J_126.2.2.1 118 = .ok (.getfield 85, 3) := by decide +kernel
theorem D_126_121 : decode J_126.2.2.1 121 = .ok (.sipush 384, 3) := by decide +kernel
theorem D_126_124 : decode J_126.2.2.1 124 = .ok (.aload_n 0, 1) := by decide +kernel
theorem D_126_125 : decode J_126.2.2.1 125 = .ok (.getfield 75, 3) := by decide +kernel
theorem D_126_128 : decode J_126.2.2.1 128 = .ok (.iastore, 1) := by decide +kernel
theorem D_126_129 : decode J_126.2.2.1 129 = .ok (.aload_n 0, 1) := by decide +kernel
theorem D_126_130 : decode J_126.2.2.1 130 = .ok (.getfield 9, 3) := by decide +kernel
theorem D_126_133 : decode J_126.2.2.1 133 = .ok (.iconst 0, 1) := by decide +kernel
theorem D_126_134 : decode J_126.2.2.1 134 = .ok (.invokevirtual 53, 3) := by decide +kernel
theorem D_126_137 : decode J_126.2.2.1 137 = .ok (.ifCond .ne 11, 3) := by decide +kernel
theorem D_126_140 : decode J_126.2.2.1 140 = .ok (.aload_n 0, 1) := by decide +kernel
theorem D_126_141 : decode J_126.2.2.1 141 = .ok (.getfield 9, 3) := by decide +kernel
theorem D_126_144 : decode J_126.2.2.1 144 = .ok (.iconst 2, 1) := by decide +kernel
theorem D_126_145 : decode J_126.2.2.1 145 = .ok (.invokevirtual 87, 3) := by decide +kernel
theorem D_126_148 : decode J_126.2.2.1 148 = .ok (.return_, 1) := by decide +kernel
def P_126_81 (X : mjX) (d C S kc ks : Nat) (k : Nat → mjH → mjU) : Prop := ∀ (l0 : Nat) (hp : mjH) (q : Option Value × mjH), k l0 hp = some q → mjG X d C S J_126 (mjEq q) 81 [some (.ref l0), none, none, none] [] hp kc ks
def P_126_69 (X : mjX) (d C S kc ks : Nat) (k : Nat → Int32 → mjH → mjU) : Prop := ∀ (l0 : Nat) (l2 : Int32) (hp : mjH) (q : Option Value × mjH), k l0 l2 hp = some q → mjG X d C S J_126 (mjEq q) 69 [some (.ref l0), none, some (.int l2), none] [] hp kc ks
def P_126_44 (X : mjX) (d C S kc ks : Nat) (k : Nat → Int32 → Int32 → mjH → mjU) : Prop := ∀ (l0 : Nat) (l2 : Int32) (l3 : Int32) (hp : mjH) (q : Option Value × mjH), k l0 l2 l3 hp = some q → mjG X d C S J_126 (mjEq q) 44 [some (.ref l0), none, some (.int l2), some (.int l3)] [] hp kc ks
def P_126_20 (X : mjX) (d C S kc ks : Nat) (k : Nat → Int32 → mjH → mjU) : Prop := ∀ (l0 : Nat) (l2 : Int32) (hp : mjH) (q : Option Value × mjH), k l0 l2 hp = some q → mjG X d C S J_126 (mjEq q) 20 [some (.ref l0), none, some (.int l2), none] [] hp kc ks
def P_126_0 (X : mjX) (d C S kc ks : Nat) (k : Nat → Nat → mjH → mjU) : Prop := ∀ (l0 : Nat) (l1 : Nat) (hp : mjH) (q : Option Value × mjH), k l0 l1 hp = some q → mjG X d C S J_126 (mjEq q) 0 [some (.ref l0), some (.ref l1), none, none] [] hp kc ks
noncomputable def b_126_81 (R : mjR) (l0 : Nat) (hp : mjH) : mjU := gR hp l0 8 0 (fun v1 => rV hp v1 9 (bN (R 169 [.ref v1, .int (9 : Int32)] hp) (fun  hp2 => pI hp2 l0 8 10 (0 : Int32) (fun hp3 => gR hp3 l0 8 8 (fun v4 => gR hp3 l0 8 0 (fun v5 => rV hp3 v5 9 (bI (R 167 [.ref v5] hp3) (fun v6 hp7 => sI hp7 v4 (384 : Int32) v6 (fun hp8 => rV hp8 l0 8 (bN (R 139 [.ref l0] hp8) (fun  hp9 => gR hp9 l0 8 2 (fun v10 => gR hp9 v10 6 8 (fun v11 => gI hp9 l0 8 10 (fun v12 => sI hp9 v11 (384 : Int32) v12 (fun hp13 => gR hp13 l0 8 0 (fun v14 => rV hp13 v14 9 (bI (R 164 [.ref v14, .int (0 : Int32)] hp13) (fun v15 hp16 => (if v15 = 0 then gR hp16 l0 8 0 (fun v17 => rV hp16 v17 9 (bN (R 165 [.ref v17, .int (2 : Int32)] hp16) (fun  hp18 => some (none, hp18)))) else some (none, hp16))))))))))))))))))))
theorem t_126_81 {X : mjX} {d C S kc ks : Nat} {R : mjR} (hR : mjC R d) (h1 : kc ≤ C) (h2 : ks ≤ S) : P_126_81 X (d + 1) C S kc ks (b_126_81 R) := by
  intro l0 hp q h
  unfold b_126_81 at h
  refine mjr_aload_n (x := l0) D_126_81 rfl ?_
  refine mjq_gR D_126_82 fr_8_9 h (fun v1 h => ?_)
  refine mjq_bi (v := (9 : Int32)) D_126_85 rfl ?_
  refine mjq_vN (As := [.int (9 : Int32)]) (rest := []) D_126_87 mr_8_72 V_169 rfl rfl rfl hR (Nat.le_refl _) h1 h2 h (fun  hp2 h => ?_)
  refine mjr_aload_n (x := l0) D_126_90 rfl ?_
  refine mjq_ic (v := (0 : Int32)) D_126_91 rfl ?_
  refine mjq_pI D_126_92 fr_8_75 rfl rfl h (fun hp3 h => ?_)
  refine mjr_aload_n (x := l0) D_126_95 rfl ?_
  refine mjq_gR D_126_96 fr_8_44 h (fun v4 h => ?_)
  refine mjq_si (v := (384 : Int32)) D_126_99 rfl ?_
  refine mjr_aload_n (x := l0) D_126_102 rfl ?_
  refine mjq_gR D_126_103 fr_8_9 h (fun v5 h => ?_)
  refine mjq_vI (As := []) (rest := [.int (384 : Int32), .ref v4]) D_126_106 mr_8_78 V_167 rfl rfl rfl hR (Nat.le_refl _) h1 h2 h (fun v6 hp7 h => ?_)
  refine mjq_sI D_126_109 h (fun hp8 h => ?_)
  refine mjr_aload_n (x := l0) D_126_110 rfl ?_
  refine mjq_vN (As := []) (rest := []) D_126_111 mr_8_82 V_139 rfl rfl rfl hR (Nat.le_refl _) h1 h2 h (fun  hp9 h => ?_)
  refine mjr_aload_n (x := l0) D_126_114 rfl ?_
  refine mjq_gR D_126_115 fr_8_25 h (fun v10 h => ?_)
  refine mjq_gR D_126_118 fr_8_85 h (fun v11 h => ?_)
  refine mjq_si (v := (384 : Int32)) D_126_121 rfl ?_
  refine mjr_aload_n (x := l0) D_126_124 rfl ?_
  refine mjq_gI D_126_125 fr_8_75 h (fun v12 h => ?_)
  refine mjq_sI D_126_128 h (fun hp13 h => ?_)
  refine mjr_aload_n (x := l0) D_126_129 rfl ?_
  refine mjq_gR D_126_130 fr_8_9 h (fun v14 h => ?_)
  refine mjq_ic (v := (0 : Int32)) D_126_133 rfl ?_
  refine mjq_vI (As := [.int (0 : Int32)]) (rest := []) D_126_134 mr_8_53 V_164 rfl rfl rfl hR (Nat.le_refl _) h1 h2 h (fun v15 hp16 h => ?_)
  refine mjq_if_ne (tgt := 148) D_126_137 rfl h (fun h => ?_) (fun h => ?_)
  · exact mjq_nret D_126_148 rfl h1 h2 h
  · refine mjr_aload_n (x := l0) D_126_140 rfl ?_
    refine mjq_gR D_126_141 fr_8_9 h (fun v17 h => ?_)
    refine mjq_ic (v := (2 : Int32)) D_126_144 rfl ?_
    refine mjq_vN (As := [.int (2 : Int32)]) (rest := []) D_126_145 mr_8_87 V_165 rfl rfl rfl hR (Nat.le_refl _) h1 h2 h (fun  hp18 h => ?_)
    exact mjq_nret D_126_148 rfl h1 h2 h
noncomputable def b_126_69 (R : mjR) (k20 : Nat → Int32 → mjH → mjU) (l0 : Nat) (l2 : Int32) (hp : mjH) : mjU := rV hp l0 8 (bN (R 138 [.ref l0, .int (125 : Int32)] hp) (fun  hp1 => k20 l0 (l2 + (1 : Int32)) hp1))
theorem t_126_69 {X : mjX} {d C S kc ks : Nat} {R : mjR} (hR : mjC R d) (h1 : kc ≤ C) (h2 : ks ≤ S) {k20 : Nat → Int32 → mjH → mjU} (hk20 : P_126_20 X (d + 1) C S kc ks k20) : P_126_69 X (d + 1) C S kc ks (b_126_69 R k20) := by
  intro l0 l2 hp q h
  unfold b_126_69 at h
  refine mjr_aload_n (x := l0) D_126_69 rfl ?_
  refine mjq_bi (v := (125 : Int32)) D_126_70 rfl ?_
  refine mjq_vN (As := [.int (125 : Int32)]) (rest := []) D_126_72 mr_8_69 V_138 rfl rfl rfl hR (Nat.le_refl _) h1 h2 h (fun  hp1 h => ?_)
  refine mjq_iinc (x := l2) (c := (1 : Int32)) (lo' := [some (.ref l0), none, some (.int (l2 + (1 : Int32))), none]) D_126_75 rfl (Nat.le_of_ble_eq_true rfl) rfl rfl ?_
  refine mjr_goto (tgt := 20) D_126_78 rfl ?_
  exact hk20 _ _ _ _ h
noncomputable def b_126_44 (R : mjR) (k20 : Nat → Int32 → mjH → mjU) (k44 : Nat → Int32 → Int32 → mjH → mjU) (l0 : Nat) (l2 : Int32) (l3 : Int32) (hp : mjH) : mjU := (if (24 : Int32) < l3 then b_126_69 R k20 l0 l2 hp else rV hp l0 8 (bI (R 135 [.ref l0] hp) (fun v1 hp2 => (if v1 = 0 then b_126_69 R k20 l0 l2 hp2 else rV hp2 l0 8 (bN (R 136 [.ref l0, .int l2, .int l3] hp2) (fun  hp3 => k44 l0 l2 (l3 + (1 : Int32)) hp3))))))
theorem t_126_44 {X : mjX} {d C S kc ks : Nat} {R : mjR} (hR : mjC R d) (h1 : kc ≤ C) (h2 : ks ≤ S) {k20 : Nat → Int32 → mjH → mjU} (hk20 : P_126_20 X (d + 1) C S kc ks k20) {k44 : Nat → Int32 → Int32 → mjH → mjU} (hk44 : P_126_44 X (d + 1) C S kc ks k44) : P_126_44 X (d + 1) C S kc ks (b_126_44 R k20 k44) := by
  intro l0 l2 l3 hp q h
  unfold b_126_44 at h
  refine mjr_iload_n (x := l3) D_126_44 rfl ?_
  refine mjq_bi (v := (24 : Int32)) D_126_45 rfl ?_
  refine mjq_icmp_gt (tgt := 69) D_126_47 rfl h (fun h => ?_) (fun h => ?_)
  · exact mjG.fg (lo' := [some (.ref l0), none, some (.int l2), none]) (And.intro rfl (And.intro rfl True.intro)) ((t_126_69 hR h1 h2 hk20) _ _ _ _ h)
  · refine mjr_aload_n (x := l0) D_126_50 rfl ?_
    refine mjq_vI (As := []) (rest := []) D_126_51 mr_8_61 V_135 rfl rfl rfl hR (Nat.le_refl _) h1 h2 h (fun v1 hp2 h => ?_)
    refine mjq_if_eq (tgt := 69) D_126_54 rfl h (fun h => ?_) (fun h => ?_)
    · exact mjG.fg (lo' := [some (.ref l0), none, some (.int l2), none]) (And.intro rfl (And.intro rfl True.intro)) ((t_126_69 hR h1 h2 hk20) _ _ _ _ h)
    · refine mjr_aload_n (x := l0) D_126_57 rfl ?_
      refine mjr_iload_n (x := l2) D_126_58 rfl ?_
      refine mjr_iload_n (x := l3) D_126_59 rfl ?_
      refine mjq_vN (As := [.int l2, .int l3]) (rest := []) D_126_60 mr_8_65 V_136 rfl rfl rfl hR (Nat.le_refl _) h1 h2 h (fun  hp3 h => ?_)
      refine mjq_iinc (x := l3) (c := (1 : Int32)) (lo' := [some (.ref l0), none, some (.int l2), some (.int (l3 + (1 : Int32)))]) D_126_63 rfl (Nat.le_of_ble_eq_true rfl) rfl rfl ?_
      refine mjr_goto (tgt := 44) D_126_66 rfl ?_
      exact hk44 _ _ _ _ _ h
noncomputable def L_126_44 (R : mjR) (k20 : Nat → Int32 → mjH → mjU) (n : Nat) : Nat → Int32 → Int32 → mjH → mjU := Nat.rec (motive := fun _ => Nat → Int32 → Int32 → mjH → mjU) (fun _ _ _ _ => none) (fun _ self => b_126_44 R k20 self) n
theorem T_126_44 {X : mjX} {d C S kc ks : Nat} {R : mjR} (hR : mjC R d) (h1 : kc ≤ C) (h2 : ks ≤ S) {k20 : Nat → Int32 → mjH → mjU} (hk20 : P_126_20 X (d + 1) C S kc ks k20) (n : Nat) : P_126_44 X (d + 1) C S kc ks (L_126_44 R k20 n) := by
  induction n with
  | zero => intro _ _ _ _ _ h; exact mj_no h
  | succ n ih => exact t_126_44 hR h1 h2 hk20 ih
noncomputable def b_126_20 (R : mjR) (k20 : Nat → Int32 → mjH → mjU) (l0 : Nat) (l2 : Int32) (hp : mjH) : mjU := (if (16 : Int32) < l2 then b_126_81 R l0 hp else gR hp l0 8 0 (fun v1 => rV hp v1 9 (bI (R 164 [.ref v1, .int (5 : Int32)] hp) (fun v2 hp3 => (if v2 = 0 then b_126_81 R l0 hp3 else rV hp3 l0 8 (bN (R 127 [.ref l0, .int l2] hp3) (fun  hp4 => L_126_44 R k20 mjN l0 l2 (0 : Int32) hp4)))))))
theorem t_126_20 {X : mjX} {d C S kc ks : Nat} {R : mjR} (hR : mjC R d) (h1 : kc ≤ C) (h2 : ks ≤ S) {k20 : Nat → Int32 → mjH → mjU} (hk20 : P_126_20 X (d + 1) C S kc ks k20) : P_126_20 X (d + 1) C S kc ks (b_126_20 R k20) := by
  intro l0 l2 hp q h
  unfold b_126_20 at h
  refine mjr_iload_n (x := l2) D_126_20 rfl ?_
  refine mjq_bi (v := (16 : Int32)) D_126_21 rfl ?_
  refine mjq_icmp_gt (tgt := 81) D_126_23 rfl h (fun h => ?_) (fun h => ?_)
  · exact mjG.fg (lo' := [some (.ref l0), none, none, none]) (And.intro rfl True.intro) ((t_126_81 hR h1 h2) _ _ _ h)
  · refine mjr_aload_n (x := l0) D_126_26 rfl ?_
    refine mjq_gR D_126_27 fr_8_9 h (fun v1 h => ?_)
    refine mjq_ic (v := (5 : Int32)) D_126_30 rfl ?_
    refine mjq_vI (As := [.int (5 : Int32)]) (rest := []) D_126_31 mr_8_53 V_164 rfl rfl rfl hR (Nat.le_refl _) h1 h2 h (fun v2 hp3 h => ?_)
    refine mjq_if_eq (tgt := 81) D_126_34 rfl h (fun h => ?_) (fun h => ?_)
    · exact mjG.fg (lo' := [some (.ref l0), none, none, none]) (And.intro rfl True.intro) ((t_126_81 hR h1 h2) _ _ _ h)
    · refine mjr_aload_n (x := l0) D_126_37 rfl ?_
      refine mjr_iload_n (x := l2) D_126_38 rfl ?_
      refine mjq_vN (As := [.int l2]) (rest := []) D_126_39 mr_8_57 V_127 rfl rfl rfl hR (Nat.le_refl _) h1 h2 h (fun  hp4 h => ?_)
      refine mjq_ic (v := (0 : Int32)) D_126_42 rfl ?_
      refine mjq_istore_n (lo' := [some (.ref l0), none, some (.int l2), some (.int (0 : Int32))]) D_126_43 (Nat.le_of_ble_eq_true rfl) rfl ?_
      exact (T_126_44 hR h1 h2 hk20 mjN) _ _ _ _ _ h
noncomputable def L_126_20 (R : mjR) (n : Nat) : Nat → Int32 → mjH → mjU := Nat.rec (motive := fun _ => Nat → Int32 → mjH → mjU) (fun _ _ _ => none) (fun _ self => b_126_20 R self) n
theorem T_126_20 {X : mjX} {d C S kc ks : Nat} {R : mjR} (hR : mjC R d) (h1 : kc ≤ C) (h2 : ks ≤ S) (n : Nat) : P_126_20 X (d + 1) C S kc ks (L_126_20 R n) := by
  induction n with
  | zero => intro _ _ _ _ h; exact mj_no h
  | succ n ih => exact t_126_20 hR h1 h2 ih
noncomputable def b_126_0 (R : mjR) (l0 : Nat) (l1 : Nat) (hp : mjH) : mjU := pR hp l0 8 1 l1 (fun hp1 => gR hp1 l1 7 14 (fun v2 => pR hp1 l0 8 2 v2 (fun hp3 => pI hp3 l0 8 9 (0 : Int32) (fun hp4 => L_126_20 R mjN l0 (0 : Int32) hp4))))
theorem t_126_0 {X : mjX} {d C S kc ks : Nat} {R : mjR} (hR : mjC R d) (h1 : kc ≤ C) (h2 : ks ≤ S) : P_126_0 X (d + 1) C S kc ks (b_126_0 R) := by
  intro l0 l1 hp q h
  unfold b_126_0 at h
  refine mjr_aload_n (x := l0) D_126_0 rfl ?_
  refine mjr_aload_n (x := l1) D_126_1 rfl ?_
  refine mjq_pR D_126_2 fr_8_15 rfl (fun _ => ⟨rfl, rfl⟩) h (fun hp1 h => ?_)
  refine mjr_aload_n (x := l0) D_126_5 rfl ?_
  refine mjr_aload_n (x := l1) D_126_6 rfl ?_
  refine mjq_gR D_126_7 fr_8_19 h (fun v2 h => ?_)
  refine mjq_pR D_126_10 fr_8_25 rfl (fun _ => ⟨rfl, rfl⟩) h (fun hp3 h => ?_)
  refine mjr_aload_n (x := l0) D_126_13 rfl ?_
  refine mjq_ic (v := (0 : Int32)) D_126_14 rfl ?_
  refine mjq_pI D_126_15 fr_8_47 rfl rfl h (fun hp4 h => ?_)
  refine mjq_ic (v := (0 : Int32)) D_126_18 rfl ?_
  refine mjq_istore_n (lo' := [some (.ref l0), some (.ref l1), some (.int (0 : Int32)), none]) D_126_19 (Nat.le_of_ble_eq_true rfl) rfl ?_
  exact mjG.fg (lo' := [some (.ref l0), none, some (.int (0 : Int32)), none]) (And.intro rfl (And.intro rfl True.intro)) ((T_126_20 hR h1 h2 mjN) _ _ _ _ h)
noncomputable def f_126 (R : mjR) (a0 : Nat) (a1 : Nat) (hp : mjH) : mjU := b_126_0 R a0 a1 hp
theorem c_126 {R : mjR} {d : Nat} (hR : mjC R d) {a0 : Nat} {a1 : Nat} {hp : mjH} {q : Option Value × mjH} (h : f_126 R a0 a1 hp = some q) : mjM (d + 1) 0 0 126 [.ref a0, .ref a1] hp (mjEq q) :=
  mjM_of Ja_126 (Nat.le_of_ble_eq_true rfl) (mjG.fg (lo' := [some (.ref a0), some (.ref a1), none, none]) (And.intro rfl (And.intro rfl True.intro)) ((t_126_0 hR (Nat.le_refl 0) (Nat.le_refl 0)) a0 a1 hp q h))
def J_134 : mjI := (⟨"OwnerHeap$Reader", "open", "(I)V"⟩, 8, prog_10_method_3_code, 2, none, 1, false)
theorem Ja_134 : mjMt 134 = some J_134 := by rfl
theorem D_134_0 : decode J_134.2.2.1 0 = .ok (.aload_n 0, 1) := by decide +kernel
theorem D_134_1 : decode J_134.2.2.1 1 = .ok (.getfield 9, 3) := by decide +kernel
theorem D_134_4 : decode J_134.2.2.1 4 = .ok (.iload_n 1, 1) := by decide +kernel
theorem D_134_5 : decode J_134.2.2.1 5 = .ok (.invokevirtual 53, 3) := by decide +kernel
theorem D_134_8 : decode J_134.2.2.1 8 = .ok (.ifCond .ne 14, 3) := by decide +kernel
theorem D_134_11 : decode J_134.2.2.1 11 = .ok (.aload_n 0, 1) := by decide +kernel
theorem D_134_12 : decode J_134.2.2.1 12 = .ok (.getfield 9, 3) := by decide +kernel
theorem D_134_15 : decode J_134.2.2.1 15 = .ok (.iconst 2, 1) := by decide +kernel
theorem D_134_16 : decode J_134.2.2.1 16 = .ok (.invokevirtual 87, 3) := by decide +kernel
theorem D_134_19 : decode J_134.2.2.1 19 = .ok (.goto 40, 3) := by decide +kernel
theorem D_134_22 : decode J_134.2.2.1 22 = .ok (.aload_n 0, 1) := by decide +kernel
theorem D_134_23 : decode J_134.2.2.1 23 = .ok (.getfield 47, 3) := by decide +kernel
theorem D_134_26 : decode J_134.2.2.1 26 = .ok (.bipush 12, 2) := by decide +kernel
theorem D_134_28 : decode J_134.2.2.1 28 = .ok (.if_icmp .ne 14, 3) := by decide +kernel
theorem D_134_31 : decode J_134.2.2.1 31 = .ok (.aload_n 0, 1) := by decide +kernel
theorem D_134_32 : decode J_134.2.2.1 32 = .ok (.getfield 9, 3) := by decide +kernel
theorem D_134_35 : decode J_134.2.2.1 35 = .ok (.iconst 3, 1) := by decide +kernel
theorem D_134_36 : decode J_134.2.2.1 36 = .ok (.invokevirtual 87, 3) := by decide +kernel
theorem D_134_39 : decode J_134.2.2.1 39 = .ok (.goto 20, 3) := by decide +kernel
theorem D_134_42 : decode J_134.2.2.1 42 = .ok (.aload_n 0, 1) := by decide +kernel
theorem D_134_43 : decode J_134.2.2.1 43 = .ok (.dup, 1) := by decide +kernel
theorem D_134_44 : decode J_134.2.2.1 44 = .ok (.getfield 47, 3) := by decide +kernel
theorem D_134_47 : decode J_134.2.2.1 47 = .ok (.iconst 1, 1) := by decide +kernel
theorem D_134_48 : decode J_134.2.2.1 48 = .ok (.iadd, 1) := by decide +kernel
theorem D_134_49 : decode J_134.2.2.1 49 = .ok (.putfield 47, 3) := by decide +kernel
theorem D_134_52 : decode J_134.2.2.1 52 = .ok (.aload_n 0, 1) := by decide +kernel
theorem D_134_53 : decode J_134.2.2.1 53 = .ok (.getfield 9, 3) := by decide +kernel
theorem D_134_56 : decode J_134.2.2.1 56 = .ok (.invokevirtual 90, 3) := by decide +kernel
theorem D_134_59 : decode J_134.2.2.1 59 = .ok (.return_, 1) := by decide +kernel
def P_134_0 (X : mjX) (d C S kc ks : Nat) (k : Nat → Int32 → mjH → mjU) : Prop := ∀ (l0 : Nat) (l1 : Int32) (hp : mjH) (q : Option Value × mjH), k l0 l1 hp = some q → mjG X d C S J_134 (mjEq q) 0 [some (.ref l0), some (.int l1)] [] hp kc ks
noncomputable def b_134_0 (R : mjR) (l0 : Nat) (l1 : Int32) (hp : mjH) : mjU := gR hp l0 8 0 (fun v1 => rV hp v1 9 (bI (R 164 [.ref v1, .int l1] hp) (fun v2 hp3 => (if v2 = 0 then gR hp3 l0 8 0 (fun v11 => rV hp3 v11 9 (bN (R 165 [.ref v11, .int (2 : Int32)] hp3) (fun  hp12 => some (none, hp12)))) else gI hp3 l0 8 9 (fun v4 => (if v4 = (12 : Int32) then gR hp3 l0 8 0 (fun v9 => rV hp3 v9 9 (bN (R 165 [.ref v9, .int (3 : Int32)] hp3) (fun  hp10 => some (none, hp10)))) else gI hp3 l0 8 9 (fun v5 => pI hp3 l0 8 9 (v5 + (1 : Int32)) (fun hp6 => gR hp6 l0 8 0 (fun v7 => rV hp6 v7 9 (bN (R 166 [.ref v7] hp6) (fun  hp8 => some (none, hp8))))))))))))
theorem t_134_0 {X : mjX} {d C S kc ks : Nat} {R : mjR} (hR : mjC R d) (h1 : kc ≤ C) (h2 : ks ≤ S) : P_134_0 X (d + 1) C S kc ks (b_134_0 R) := by
  intro l0 l1 hp q h
  unfold b_134_0 at h
  refine mjr_aload_n (x := l0) D_134_0 rfl ?_
  refine mjq_gR D_134_1 fr_8_9 h (fun v1 h => ?_)
  refine mjr_iload_n (x := l1) D_134_4 rfl ?_
  refine mjq_vI (As := [.int l1]) (rest := []) D_134_5 mr_8_53 V_164 rfl rfl rfl hR (Nat.le_refl _) h1 h2 h (fun v2 hp3 h => ?_)
  refine mjq_if_ne (tgt := 22) D_134_8 rfl h (fun h => ?_) (fun h => ?_)
  · refine mjr_aload_n (x := l0) D_134_22 rfl ?_
    refine mjq_gI D_134_23 fr_8_47 h (fun v4 h => ?_)
    refine mjq_bi (v := (12 : Int32)) D_134_26 rfl ?_
    refine mjq_icmp_ne (tgt := 42) D_134_28 rfl h (fun h => ?_) (fun h => ?_)
    · refine mjr_aload_n (x := l0) D_134_42 rfl ?_
      refine mjr_dup D_134_43 rfl ?_
      refine mjq_gI D_134_44 fr_8_47 h (fun v5 h => ?_)
      refine mjq_ic (v := (1 : Int32)) D_134_47 rfl ?_
      refine mjr_iadd D_134_48 ?_
      refine mjq_pI D_134_49 fr_8_47 rfl rfl h (fun hp6 h => ?_)
      refine mjr_aload_n (x := l0) D_134_52 rfl ?_
      refine mjq_gR D_134_53 fr_8_9 h (fun v7 h => ?_)
      refine mjq_vN (As := []) (rest := []) D_134_56 mr_8_90 V_166 rfl rfl rfl hR (Nat.le_refl _) h1 h2 h (fun  hp8 h => ?_)
      exact mjq_nret D_134_59 rfl h1 h2 h
    · refine mjr_aload_n (x := l0) D_134_31 rfl ?_
      refine mjq_gR D_134_32 fr_8_9 h (fun v9 h => ?_)
      refine mjq_ic (v := (3 : Int32)) D_134_35 rfl ?_
      refine mjq_vN (As := [.int (3 : Int32)]) (rest := []) D_134_36 mr_8_87 V_165 rfl rfl rfl hR (Nat.le_refl _) h1 h2 h (fun  hp10 h => ?_)
      refine mjr_goto (tgt := 59) D_134_39 rfl ?_
      exact mjq_nret D_134_59 rfl h1 h2 h
  · refine mjr_aload_n (x := l0) D_134_11 rfl ?_
    refine mjq_gR D_134_12 fr_8_9 h (fun v11 h => ?_)
    refine mjq_ic (v := (2 : Int32)) D_134_15 rfl ?_
    refine mjq_vN (As := [.int (2 : Int32)]) (rest := []) D_134_16 mr_8_87 V_165 rfl rfl rfl hR (Nat.le_refl _) h1 h2 h (fun  hp12 h => ?_)
    refine mjr_goto (tgt := 59) D_134_19 rfl ?_
    exact mjq_nret D_134_59 rfl h1 h2 h
noncomputable def f_134 (R : mjR) (a0 : Nat) (a1 : Int32) (hp : mjH) : mjU := b_134_0 R a0 a1 hp
theorem c_134 {R : mjR} {d : Nat} (hR : mjC R d) {a0 : Nat} {a1 : Int32} {hp : mjH} {q : Option Value × mjH} (h : f_134 R a0 a1 hp = some q) : mjM (d + 1) 0 0 134 [.ref a0, .int a1] hp (mjEq q) :=
  mjM_of Ja_134 (Nat.le_of_ble_eq_true rfl) (mjG.fg (lo' := [some (.ref a0), some (.int a1)]) (And.intro rfl (And.intro rfl True.intro)) ((t_134_0 hR (Nat.le_refl 0) (Nat.le_refl 0)) a0 a1 hp q h))
def J_135 : mjI := (⟨"OwnerHeap$Reader", "startsType", "()Z"⟩, 8, prog_10_method_12_code, 1, (some .boolean), 0, false)
theorem Ja_135 : mjMt 135 = some J_135 := by rfl
theorem D_135_0 : decode J_135.2.2.1 0 = .ok (.aload_n 0, 1) := by decide +kernel
theorem D_135_1 : decode J_135.2.2.1 1 = .ok (.getfield 9, 3) := by decide +kernel
theorem D_135_4 : decode J_135.2.2.1 4 = .ok (.bipush 10, 2) := by decide +kernel
theorem D_135_6 : decode J_135.2.2.1 6 = .ok (.invokevirtual 53, 3) := by decide +kernel
theorem D_135_9 : decode J_135.2.2.1 9 = .ok (.ifCond .ne 14, 3) := by decide +kernel
theorem D_135_12 : decode J_135.2.2.1 12 = .ok (.aload_n 0, 1) := by decide +kernel
theorem D_135_13 : decode J_135.2.2.1 13 = .ok (.getfield 9, 3) := by decide +kernel
theorem D_135_16 : decode J_135.2.2.1 16 = .ok (.iconst 2, 1) := by decide +kernel
theorem D_135_17 : decode J_135.2.2.1 17 = .ok (.invokevirtual 53, 3) := by decide +kernel
theorem D_135_20 : decode J_135.2.2.1 20 = .ok (.ifCond .eq 7, 3) := by decide +kernel
theorem D_135_23 : decode J_135.2.2.1 23 = .ok (.iconst 1, 1) := by decide +kernel
theorem D_135_24 : decode J_135.2.2.1 24 = .ok (.goto 4, 3) := by decide +kernel
theorem D_135_27 : decode J_135.2.2.1 27 = .ok (.iconst 0, 1) := by decide +kernel
theorem D_135_28 : decode J_135.2.2.1 28 = .ok (.ireturn, 1) := by decide +kernel
def P_135_23 (X : mjX) (d C S kc ks : Nat) (k : mjH → mjU) : Prop := ∀  (hp : mjH) (q : Option Value × mjH), k  hp = some q → mjG X d C S J_135 (mjEq q) 23 [none] [] hp kc ks
def P_135_0 (X : mjX) (d C S kc ks : Nat) (k : Nat → mjH → mjU) : Prop := ∀ (l0 : Nat) (hp : mjH) (q : Option Value × mjH), k l0 hp = some q → mjG X d C S J_135 (mjEq q) 0 [some (.ref l0)] [] hp kc ks
noncomputable def b_135_23 (R : mjR)  (hp : mjH) : mjU := some (some (.int (1 : Int32)), hp)
theorem t_135_23 {X : mjX} {d C S kc ks : Nat} {R : mjR} (hR : mjC R d) (h1 : kc ≤ C) (h2 : ks ≤ S) : P_135_23 X (d + 1) C S kc ks (b_135_23 R) := by
  intro  hp q h
  unfold b_135_23 at h
  refine mjq_ic (v := (1 : Int32)) D_135_23 rfl ?_
  refine mjr_goto (tgt := 28) D_135_24 rfl ?_
  exact mjr_ireturn D_135_28 rfl rfl h1 h2 (Option.some.inj h)
noncomputable def b_135_0 (R : mjR) (l0 : Nat) (hp : mjH) : mjU := gR hp l0 8 0 (fun v1 => rV hp v1 9 (bI (R 164 [.ref v1, .int (10 : Int32)] hp) (fun v2 hp3 => (if v2 = 0 then gR hp3 l0 8 0 (fun v4 => rV hp3 v4 9 (bI (R 164 [.ref v4, .int (2 : Int32)] hp3) (fun v5 hp6 => (if v5 = 0 then some (some (.int (0 : Int32)), hp6) else b_135_23 R hp6)))) else b_135_23 R hp3))))
theorem t_135_0 {X : mjX} {d C S kc ks : Nat} {R : mjR} (hR : mjC R d) (h1 : kc ≤ C) (h2 : ks ≤ S) : P_135_0 X (d + 1) C S kc ks (b_135_0 R) := by
  intro l0 hp q h
  unfold b_135_0 at h
  refine mjr_aload_n (x := l0) D_135_0 rfl ?_
  refine mjq_gR D_135_1 fr_8_9 h (fun v1 h => ?_)
  refine mjq_bi (v := (10 : Int32)) D_135_4 rfl ?_
  refine mjq_vI (As := [.int (10 : Int32)]) (rest := []) D_135_6 mr_8_53 V_164 rfl rfl rfl hR (Nat.le_refl _) h1 h2 h (fun v2 hp3 h => ?_)
  refine mjq_if_ne (tgt := 23) D_135_9 rfl h (fun h => ?_) (fun h => ?_)
  · exact mjG.fg (lo' := [none]) True.intro ((t_135_23 hR h1 h2) _ _ h)
  · refine mjr_aload_n (x := l0) D_135_12 rfl ?_
    refine mjq_gR D_135_13 fr_8_9 h (fun v4 h => ?_)
    refine mjq_ic (v := (2 : Int32)) D_135_16 rfl ?_
    refine mjq_vI (As := [.int (2 : Int32)]) (rest := []) D_135_17 mr_8_53 V_164 rfl rfl rfl hR (Nat.le_refl _) h1 h2 h (fun v5 hp6 h => ?_)
    refine mjq_if_eq (tgt := 27) D_135_20 rfl h (fun h => ?_) (fun h => ?_)
    · refine mjq_ic (v := (0 : Int32)) D_135_27 rfl ?_
      exact mjr_ireturn D_135_28 rfl rfl h1 h2 (Option.some.inj h)
    · exact mjG.fg (lo' := [none]) True.intro ((t_135_23 hR h1 h2) _ _ h)
noncomputable def f_135 (R : mjR) (a0 : Nat) (hp : mjH) : mjU := b_135_0 R a0 hp
theorem c_135 {R : mjR} {d : Nat} (hR : mjC R d) {a0 : Nat} {hp : mjH} {q : Option Value × mjH} (h : f_135 R a0 hp = some q) : mjM (d + 1) 0 0 135 [.ref a0] hp (mjEq q) :=
  mjM_of Ja_135 (Nat.le_of_ble_eq_true rfl) (mjG.fg (lo' := [some (.ref a0)]) (And.intro rfl True.intro) ((t_135_0 hR (Nat.le_refl 0) (Nat.le_refl 0)) a0 hp q h))
def J_138 : mjI := (⟨"OwnerHeap$Reader", "close", "(I)V"⟩, 8, prog_10_method_4_code, 2, none, 1, false)
theorem Ja_138 : mjMt 138 = some J_138 := by rfl
theorem D_138_0 : decode J_138.2.2.1 0 = .ok (.aload_n 0, 1) := by decide +kernel
theorem D_138_1 : decode J_138.2.2.1 1 = .ok (.getfield 9, 3) := by decide +kernel
theorem D_138_4 : decode J_138.2.2.1 4 = .ok (.iload_n 1, 1) := by decide +kernel
theorem D_138_5 : decode J_138.2.2.1 5 = .ok (.invokevirtual 72, 3) := by decide +kernel
theorem D_138_8 : decode J_138.2.2.1 8 = .ok (.aload_n 0, 1) := by decide +kernel
theorem D_138_9 : decode J_138.2.2.1 9 = .ok (.dup, 1) := by decide +kernel
theorem D_138_10 : decode J_138.2.2.1 10 = .ok (.getfield 47, 3) := by decide +kernel
theorem D_138_13 : decode J_138.2.2.1 13 = .ok (.iconst 1, 1) := by decide +kernel
theorem D_138_14 : decode J_138.2.2.1 14 = .ok (.isub, 1) := by decide +kernel
theorem D_138_15 : decode J_138.2.2.1 15 = .ok (.putfield 47, 3) := by decide +kernel
theorem D_138_18 : decode J_138.2.2.1 18 = .ok (.return_, 1) := by decide +kernel
def P_138_0 (X : mjX) (d C S kc ks : Nat) (k : Nat → Int32 → mjH → mjU) : Prop := ∀ (l0 : Nat) (l1 : Int32) (hp : mjH) (q : Option Value × mjH), k l0 l1 hp = some q → mjG X d C S J_138 (mjEq q) 0 [some (.ref l0), some (.int l1)] [] hp kc ks
noncomputable def b_138_0 (R : mjR) (l0 : Nat) (l1 : Int32) (hp : mjH) : mjU := gR hp l0 8 0 (fun v1 => rV hp v1 9 (bN (R 169 [.ref v1, .int l1] hp) (fun  hp2 => gI hp2 l0 8 9 (fun v3 => pI hp2 l0 8 9 (v3 - (1 : Int32)) (fun hp4 => some (none, hp4))))))
theorem t_138_0 {X : mjX} {d C S kc ks : Nat} {R : mjR} (hR : mjC R d) (h1 : kc ≤ C) (h2 : ks ≤ S) : P_138_0 X (d + 1) C S kc ks (b_138_0 R) := by
  intro l0 l1 hp q h
  unfold b_138_0 at h
  refine mjr_aload_n (x := l0) D_138_0 rfl ?_
  refine mjq_gR D_138_1 fr_8_9 h (fun v1 h => ?_)
  refine mjr_iload_n (x := l1) D_138_4 rfl ?_
  refine mjq_vN (As := [.int l1]) (rest := []) D_138_5 mr_8_72 V_169 rfl rfl rfl hR (Nat.le_refl _) h1 h2 h (fun  hp2 h => ?_)
  refine mjr_aload_n (x := l0) D_138_8 rfl ?_
  refine mjr_dup D_138_9 rfl ?_
  refine mjq_gI D_138_10 fr_8_47 h (fun v3 h => ?_)
  refine mjq_ic (v := (1 : Int32)) D_138_13 rfl ?_
  refine mjr_isub D_138_14 ?_
  refine mjq_pI D_138_15 fr_8_47 rfl rfl h (fun hp4 h => ?_)
  exact mjq_nret D_138_18 rfl h1 h2 h
noncomputable def f_138 (R : mjR) (a0 : Nat) (a1 : Int32) (hp : mjH) : mjU := b_138_0 R a0 a1 hp
theorem c_138 {R : mjR} {d : Nat} (hR : mjC R d) {a0 : Nat} {a1 : Int32} {hp : mjH} {q : Option Value × mjH} (h : f_138 R a0 a1 hp = some q) : mjM (d + 1) 0 0 138 [.ref a0, .int a1] hp (mjEq q) :=
  mjM_of Ja_138 (Nat.le_of_ble_eq_true rfl) (mjG.fg (lo' := [some (.ref a0), some (.int a1)]) (And.intro rfl (And.intro rfl True.intro)) ((t_138_0 hR (Nat.le_refl 0) (Nat.le_refl 0)) a0 a1 hp q h))
def J_139 : mjI := (⟨"OwnerHeap$Reader", "readBlock", "()V"⟩, 8, prog_10_method_15_code, 2, none, 0, false)
theorem Ja_139 : mjMt 139 = some J_139 := by rfl
theorem D_139_0 : decode J_139.2.2.1 0 = .ok (.aload_n 0, 1) := by decide +kernel
theorem D_139_1 : decode J_139.2.2.1 1 = .ok (.bipush 123, 2) := by decide +kernel
theorem D_139_3 : decode J_139.2.2.1 3 = .ok (.invokevirtual 119, 3) := by decide +kernel
theorem D_139_6 : decode J_139.2.2.1 6 = .ok (.iconst 0, 1) := by decide +kernel
theorem D_139_7 : decode J_139.2.2.1 7 = .ok (.istore_n 1, 1) := by decide +kernel
theorem D_139_8 : decode J_139.2.2.1 8 = .ok (.iload_n 1, 1) := by decide +kernel
theorem D_139_9 : decode J_139.2.2.1 9 = .ok (.aload_n 0, 1) := by decide +kernel
theorem D_139_10 : decode J_139.2.2.1 10 = .ok (.getfield 9, 3) := by decide +kernel
theorem D_139_13 : decode J_139.2.2.1 13 = .ok (.invokevirtual 176, 3) := by decide +kernel
theorem D_139_16 : decode J_139.2.2.1 16 = .ok (.if_icmp .ge 35, 3) := by decide +kernel
theorem D_139_19 : decode J_139.2.2.1 19 = .ok (.aload_n 0, 1) := by decide +kernel
theorem D_139_20 : decode J_139.2.2.1 20 = .ok (.getfield 9, 3) := by decide +kernel
theorem D_139_23 : decode J_139.2.2.1 23 = .ok (.bipush 125, 2) := by decide +kernel
theorem D_139_25 : decode J_139.2.2.1 25 = .ok (.invokevirtual 53, 3) := by decide +kernel
theorem D_139_28 : decode J_139.2.2.1 28 = .ok (.ifCond .ne 23, 3) := by decide +kernel
theorem D_139_31 : decode J_139.2.2.1 31 = .ok (.aload_n 0, 1) := by decide +kernel
theorem D_139_32 : decode J_139.2.2.1 32 = .ok (.getfield 9, 3) := by decide +kernel
theorem D_139_35 : decode J_139.2.2.1 35 = .ok (.invokevirtual 179, 3) := by decide +kernel
theorem D_139_38 : decode J_139.2.2.1 38 = .ok (.ifCond .eq 13, 3) := by decide +kernel
theorem D_139_41 : decode J_139.2.2.1 41 = .ok (.aload_n 0, 1) := by decide +kernel
theorem D_139_42 : decode J_139.2.2.1 42 = .ok (.invokevirtual 182, 3) := by decide +kernel
theorem D_139_45 : decode J_139.2.2.1 45 = .ok (.iinc 1 1, 3) := by decide +kernel
theorem D_139_48 : decode J_139.2.2.1 48 = .ok (.goto (-40), 3) := by decide +kernel
theorem D_139_51 : decode J_139.2.2.1 51 = .ok (.aload_n 0, 1) := by decide +kernel
theorem D_139_52 : decode J_139.2.2.1 52 = .ok (.bipush 125, 2) := by decide +kernel
theorem D_139_54 : decode J_139.2.2.1 54 = .ok (.invokevirtual 69, 3) := by decide +kernel
theorem D_139_57 : decode J_139.2.2.1 57 = .ok (.return_, 1) := by decide +kernel
def P_139_51 (X : mjX) (d C S kc ks : Nat) (k : Nat → mjH → mjU) : Prop := ∀ (l0 : Nat) (hp : mjH) (q : Option Value × mjH), k l0 hp = some q → mjG X d C S J_139 (mjEq q) 51 [some (.ref l0), none] [] hp kc ks
def P_139_8 (X : mjX) (d C S kc ks : Nat) (k : Nat → Int32 → mjH → mjU) : Prop := ∀ (l0 : Nat) (l1 : Int32) (hp : mjH) (q : Option Value × mjH), k l0 l1 hp = some q → mjG X d C S J_139 (mjEq q) 8 [some (.ref l0), some (.int l1)] [] hp kc ks
def P_139_0 (X : mjX) (d C S kc ks : Nat) (k : Nat → mjH → mjU) : Prop := ∀ (l0 : Nat) (hp : mjH) (q : Option Value × mjH), k l0 hp = some q → mjG X d C S J_139 (mjEq q) 0 [some (.ref l0), none] [] hp kc ks
noncomputable def b_139_51 (R : mjR) (l0 : Nat) (hp : mjH) : mjU := rV hp l0 8 (bN (R 138 [.ref l0, .int (125 : Int32)] hp) (fun  hp1 => some (none, hp1)))
theorem t_139_51 {X : mjX} {d C S kc ks : Nat} {R : mjR} (hR : mjC R d) (h1 : kc ≤ C) (h2 : ks ≤ S) : P_139_51 X (d + 1) C S kc ks (b_139_51 R) := by
  intro l0 hp q h
  unfold b_139_51 at h
  refine mjr_aload_n (x := l0) D_139_51 rfl ?_
  refine mjq_bi (v := (125 : Int32)) D_139_52 rfl ?_
  refine mjq_vN (As := [.int (125 : Int32)]) (rest := []) D_139_54 mr_8_69 V_138 rfl rfl rfl hR (Nat.le_refl _) h1 h2 h (fun  hp1 h => ?_)
  exact mjq_nret D_139_57 rfl h1 h2 h
noncomputable def b_139_8 (R : mjR) (k8 : Nat → Int32 → mjH → mjU) (l0 : Nat) (l1 : Int32) (hp : mjH) : mjU := gR hp l0 8 0 (fun v1 => rV hp v1 9 (bI (R 171 [.ref v1] hp) (fun v2 hp3 => (if v2 ≤ l1 then b_139_51 R l0 hp3 else gR hp3 l0 8 0 (fun v4 => rV hp3 v4 9 (bI (R 164 [.ref v4, .int (125 : Int32)] hp3) (fun v5 hp6 => (if v5 = 0 then gR hp6 l0 8 0 (fun v7 => rV hp6 v7 9 (bI (R 172 [.ref v7] hp6) (fun v8 hp9 => (if v8 = 0 then b_139_51 R l0 hp9 else rV hp9 l0 8 (bN (R 140 [.ref l0] hp9) (fun  hp10 => k8 l0 (l1 + (1 : Int32)) hp10)))))) else b_139_51 R l0 hp6))))))))
theorem t_139_8 {X : mjX} {d C S kc ks : Nat} {R : mjR} (hR : mjC R d) (h1 : kc ≤ C) (h2 : ks ≤ S) {k8 : Nat → Int32 → mjH → mjU} (hk8 : P_139_8 X (d + 1) C S kc ks k8) : P_139_8 X (d + 1) C S kc ks (b_139_8 R k8) := by
  intro l0 l1 hp q h
  unfold b_139_8 at h
  refine mjr_iload_n (x := l1) D_139_8 rfl ?_
  refine mjr_aload_n (x := l0) D_139_9 rfl ?_
  refine mjq_gR D_139_10 fr_8_9 h (fun v1 h => ?_)
  refine mjq_vI (As := []) (rest := [.int l1]) D_139_13 mr_8_176 V_171 rfl rfl rfl hR (Nat.le_refl _) h1 h2 h (fun v2 hp3 h => ?_)
  refine mjq_icmp_ge (tgt := 51) D_139_16 rfl h (fun h => ?_) (fun h => ?_)
  · exact mjG.fg (lo' := [some (.ref l0), none]) (And.intro rfl True.intro) ((t_139_51 hR h1 h2) _ _ _ h)
  · refine mjr_aload_n (x := l0) D_139_19 rfl ?_
    refine mjq_gR D_139_20 fr_8_9 h (fun v4 h => ?_)
    refine mjq_bi (v := (125 : Int32)) D_139_23 rfl ?_
    refine mjq_vI (As := [.int (125 : Int32)]) (rest := []) D_139_25 mr_8_53 V_164 rfl rfl rfl hR (Nat.le_refl _) h1 h2 h (fun v5 hp6 h => ?_)
    refine mjq_if_ne (tgt := 51) D_139_28 rfl h (fun h => ?_) (fun h => ?_)
    · exact mjG.fg (lo' := [some (.ref l0), none]) (And.intro rfl True.intro) ((t_139_51 hR h1 h2) _ _ _ h)
    · refine mjr_aload_n (x := l0) D_139_31 rfl ?_
      refine mjq_gR D_139_32 fr_8_9 h (fun v7 h => ?_)
      refine mjq_vI (As := []) (rest := []) D_139_35 mr_8_179 V_172 rfl rfl rfl hR (Nat.le_refl _) h1 h2 h (fun v8 hp9 h => ?_)
      refine mjq_if_eq (tgt := 51) D_139_38 rfl h (fun h => ?_) (fun h => ?_)
      · exact mjG.fg (lo' := [some (.ref l0), none]) (And.intro rfl True.intro) ((t_139_51 hR h1 h2) _ _ _ h)
      · refine mjr_aload_n (x := l0) D_139_41 rfl ?_
        refine mjq_vN (As := []) (rest := []) D_139_42 mr_8_182 V_140 rfl rfl rfl hR (Nat.le_refl _) h1 h2 h (fun  hp10 h => ?_)
        refine mjq_iinc (x := l1) (c := (1 : Int32)) (lo' := [some (.ref l0), some (.int (l1 + (1 : Int32)))]) D_139_45 rfl (Nat.le_of_ble_eq_true rfl) rfl rfl ?_
        refine mjr_goto (tgt := 8) D_139_48 rfl ?_
        exact hk8 _ _ _ _ h
noncomputable def L_139_8 (R : mjR) (n : Nat) : Nat → Int32 → mjH → mjU := Nat.rec (motive := fun _ => Nat → Int32 → mjH → mjU) (fun _ _ _ => none) (fun _ self => b_139_8 R self) n
theorem T_139_8 {X : mjX} {d C S kc ks : Nat} {R : mjR} (hR : mjC R d) (h1 : kc ≤ C) (h2 : ks ≤ S) (n : Nat) : P_139_8 X (d + 1) C S kc ks (L_139_8 R n) := by
  induction n with
  | zero => intro _ _ _ _ h; exact mj_no h
  | succ n ih => exact t_139_8 hR h1 h2 ih
noncomputable def b_139_0 (R : mjR) (l0 : Nat) (hp : mjH) : mjU := rV hp l0 8 (bN (R 134 [.ref l0, .int (123 : Int32)] hp) (fun  hp1 => L_139_8 R mjN l0 (0 : Int32) hp1))
theorem t_139_0 {X : mjX} {d C S kc ks : Nat} {R : mjR} (hR : mjC R d) (h1 : kc ≤ C) (h2 : ks ≤ S) : P_139_0 X (d + 1) C S kc ks (b_139_0 R) := by
  intro l0 hp q h
  unfold b_139_0 at h
  refine mjr_aload_n (x := l0) D_139_0 rfl ?_
  refine mjq_bi (v := (123 : Int32)) D_139_1 rfl ?_
  refine mjq_vN (As := [.int (123 : Int32)]) (rest := []) D_139_3 mr_8_119 V_134 rfl rfl rfl hR (Nat.le_refl _) h1 h2 h (fun  hp1 h => ?_)
  refine mjq_ic (v := (0 : Int32)) D_139_6 rfl ?_
  refine mjq_istore_n (lo' := [some (.ref l0), some (.int (0 : Int32))]) D_139_7 (Nat.le_of_ble_eq_true rfl) rfl ?_
  exact (T_139_8 hR h1 h2 mjN) _ _ _ _ h
noncomputable def f_139 (R : mjR) (a0 : Nat) (hp : mjH) : mjU := b_139_0 R a0 hp
theorem c_139 {R : mjR} {d : Nat} (hR : mjC R d) {a0 : Nat} {hp : mjH} {q : Option Value × mjH} (h : f_139 R a0 hp = some q) : mjM (d + 1) 0 0 139 [.ref a0] hp (mjEq q) :=
  mjM_of Ja_139 (Nat.le_of_ble_eq_true rfl) (mjG.fg (lo' := [some (.ref a0), none]) (And.intro rfl True.intro) ((t_139_0 hR (Nat.le_refl 0) (Nat.le_refl 0)) a0 hp q h))
def J_152 : mjI := (⟨"OwnerHeap$Tokens", "<init>", "()V"⟩, 9, prog_11_method_1_code, 3, none, 0, false)
theorem Ja_152 : mjMt 152 = some J_152 := by rfl
theorem D_152_48 : decode J_152.2.2.1 48 = .ok (.iconst 0, 1) := by decide +kernel
theorem D_152_49 : decode J_152.2.2.1 49 = .ok (.istore_n 1, 1) := by decide +kernel
theorem D_152_50 : decode J_152.2.2.1 50 = .ok (.iconst 0, 1) := by decide +kernel
theorem D_152_51 : decode J_152.2.2.1 51 = .ok (.istore_n 2, 1) := by decide +kernel
theorem D_152_52 : decode J_152.2.2.1 52 = .ok (.iload_n 2, 1) := by decide +kernel
theorem D_152_53 : decode J_152.2.2.1 53 = .ok (.ldc 28, 2) := by decide +kernel
theorem D_152_55 : decode J_152.2.2.1 55 = .ok (.invokevirtual 30, 3) := by decide +kernel
theorem D_152_58 : decode J_152.2.2.1 58 = .ok (.if_icmp .ge 53, 3) := by decide +kernel
theorem D_152_61 : decode J_152.2.2.1 61 = .ok (.iload_n 1, 1) := by decide +kernel
theorem D_152_62 : decode J_152.2.2.1 62 = .ok (.bipush 16, 2) := by decide +kernel
theorem D_152_64 : decode J_152.2.2.1 64 = .ok (.if_icmp .ge 47, 3) := by decide +kernel
theorem D_152_67 : decode J_152.2.2.1 67 = .ok (.ldc 28, 2) := by decide +kernel
theorem D_152_69 : decode J_152.2.2.1 69 = .ok (.iload_n 2, 1) := by decide +kernel
theorem D_152_70 : decode J_152.2.2.1 70 = .ok (.invokevirtual 36, 3) := by decide +kernel
theorem D_152_73 : decode J_152.2.2.1 73 = .ok (.bipush 32, 2) := by decide +kernel
theorem D_152_75 : decode J_152.2.2.1 75 = .ok (.if_icmp .ne 9, 3) := by decide +kernel
theorem D_152_78 : decode J_152.2.2.1 78 = .ok (.iinc 1 1, 3) := by decide +kernel
theorem D_152_81 : decode J_152.2.2.1 81 = .ok (.goto 24, 3) := by decide +kernel
theorem D_152_84 : decode J_152.2.2.1 84 = .ok (.aload_n 0, 1) := by decide +kernel
theorem D_152_85 : decode J_152.2.2.1 85 = .ok (.getfield 11, 3) := by decide +kernel
theorem D_152_88 : decode J_152.2.2.1 88 = .ok (.iload_n 1, 1) := by decide +kernel
theorem D_152_89 : decode J_152.2.2.1 89 = .ok (.aload_n 0, 1) := by decide +kernel
theorem D_152_90 : decode J_152.2.2.1 90 = .ok (.getfield 11, 3) := by decide +kernel
theorem D_152_93 : decode J_152.2.2.1 93 = .ok (.iload_n 1, 1) := by decide +kernel
theorem D_152_94 : decode J_152.2.2.1 94 = .ok (.laload, 1) := by decide +kernel
theorem D_152_95 : decode J_152.2.2.1 95 = .ok (.ldc 28, 2) := by decide +kernel
theorem D_152_97 : decode J_152.2.2.1 97 = .ok (.iload_n 2, 1) := by decide +kernel
theorem D_152_98 : decode J_152.2.2.1 98 = .ok (.invokevirtual 36, 3) := by decide +kernel
theorem D_152_101 : decode J_152.2.2.1 101 = .ok (.invokestatic 40, 3) := by decide +kernel
theorem D_152_104 : decode J_152.2.2.1 104 = .ok (.lastore, 1) := by decide +kernel
theorem D_152_105 : decode J_152.2.2.1 105 = .ok (.iinc 2 1, 3) := by decide +kernel
theorem D_152_108 : decode J_152.2.2.1 108 = .ok (.goto (-56), 3) := by decide +kernel
theorem D_152_111 : decode J_152.2.2.1 111 = .ok (.return_, 1) := by decide +kernel
def P_152_105 (X : mjX) (d C S kc ks : Nat) (k : Nat → Int32 → Int32 → mjH → mjU) : Prop := ∀ (l0 : Nat) (l1 : Int32) (l2 : Int32) (hp : mjH) (q : Option Value × mjH), k l0 l1 l2 hp = some q → mjG X d C S J_152 (mjEq q) 105 [some (.ref l0), some (.int l1), some (.int l2)] [] hp kc ks
def P_152_52 (X : mjX) (d C S kc ks : Nat) (k : Nat → Int32 → Int32 → mjH → mjU) : Prop := ∀ (l0 : Nat) (l1 : Int32) (l2 : Int32) (hp : mjH) (q : Option Value × mjH), k l0 l1 l2 hp = some q → mjG X d C S J_152 (mjEq q) 52 [some (.ref l0), some (.int l1), some (.int l2)] [] hp kc ks
def P_152_48 (X : mjX) (d C S kc ks : Nat) (k : Nat → mjH → mjU) : Prop := ∀ (l0 : Nat) (hp : mjH) (q : Option Value × mjH), k l0 hp = some q → mjG X d C S J_152 (mjEq q) 48 [some (.ref l0), none, none] [] hp kc ks
noncomputable def b_152_105 (R : mjR) (k52 : Nat → Int32 → Int32 → mjH → mjU) (l0 : Nat) (l1 : Int32) (l2 : Int32) (hp : mjH) : mjU := k52 l0 l1 (l2 + (1 : Int32)) hp
theorem t_152_105 {X : mjX} {d C S kc ks : Nat} {R : mjR} (hR : mjC R d) (h1 : kc ≤ C) (h2 : ks ≤ S) {k52 : Nat → Int32 → Int32 → mjH → mjU} (hk52 : P_152_52 X (d + 1) C S kc ks k52) : P_152_105 X (d + 1) C S kc ks (b_152_105 R k52) := by
  intro l0 l1 l2 hp q h
  unfold b_152_105 at h
  refine mjq_iinc (x := l2) (c := (1 : Int32)) (lo' := [some (.ref l0), some (.int l1), some (.int (l2 + (1 : Int32)))]) D_152_105 rfl (Nat.le_of_ble_eq_true rfl) rfl rfl ?_
  refine mjr_goto (tgt := 52) D_152_108 rfl ?_
  exact hk52 _ _ _ _ _ h
noncomputable def b_152_52 (R : mjR) (k52 : Nat → Int32 → Int32 → mjH → mjU) (l0 : Nat) (l1 : Int32) (l2 : Int32) (hp : mjH) : mjU := rS 1000000 (bI (R 356 [.ref 1000000] hp) (fun v1 hp2 => (if v1 ≤ l2 then some (none, hp2) else (if (16 : Int32) ≤ l1 then some (none, hp2) else rS 1000000 (bI (R 358 [.ref 1000000, .int l2] hp2) (fun v3 hp4 => (if v3 = (32 : Int32) then b_152_105 R k52 l0 (l1 + (1 : Int32)) l2 hp4 else gR hp4 l0 9 0 (fun v5 => gR hp4 l0 9 0 (fun v6 => aL hp4 v6 l1 (fun v7 => rS 1000000 (bI (R 358 [.ref 1000000, .int l2] hp4) (fun v8 hp9 => bL (R 153 [.long v7, .int v8] hp9) (fun v10 hp11 => sL hp11 v5 l1 v10 (fun hp12 => b_152_105 R k52 l0 l1 l2 hp12))))))))))))))
theorem t_152_52 {X : mjX} {d C S kc ks : Nat} {R : mjR} (hR : mjC R d) (h1 : kc ≤ C) (h2 : ks ≤ S) {k52 : Nat → Int32 → Int32 → mjH → mjU} (hk52 : P_152_52 X (d + 1) C S kc ks k52) : P_152_52 X (d + 1) C S kc ks (b_152_52 R k52) := by
  intro l0 l1 l2 hp q h
  unfold b_152_52 at h
  refine mjr_iload_n (x := l2) D_152_52 rfl ?_
  refine mjq_ldS (i := 0) (v := 1000000) D_152_53 (by decide +kernel) rfl ?_
  refine mjq_wI (As := []) (rest := [.int l2]) D_152_55 mr_9_30 V_356 rfl rfl rfl hR (Nat.le_refl _) h1 h2 h (fun v1 hp2 h => ?_)
  refine mjq_icmp_ge (tgt := 111) D_152_58 rfl h (fun h => ?_) (fun h => ?_)
  · exact mjq_nret D_152_111 rfl h1 h2 h
  · refine mjr_iload_n (x := l1) D_152_61 rfl ?_
    refine mjq_bi (v := (16 : Int32)) D_152_62 rfl ?_
    refine mjq_icmp_ge (tgt := 111) D_152_64 rfl h (fun h => ?_) (fun h => ?_)
    · exact mjq_nret D_152_111 rfl h1 h2 h
    · refine mjq_ldS (i := 0) (v := 1000000) D_152_67 (by decide +kernel) rfl ?_
      refine mjr_iload_n (x := l2) D_152_69 rfl ?_
      refine mjq_wI (As := [.int l2]) (rest := []) D_152_70 mr_9_36 V_358 rfl rfl rfl hR (Nat.le_refl _) h1 h2 h (fun v3 hp4 h => ?_)
      refine mjq_bi (v := (32 : Int32)) D_152_73 rfl ?_
      refine mjq_icmp_ne (tgt := 84) D_152_75 rfl h (fun h => ?_) (fun h => ?_)
      · refine mjr_aload_n (x := l0) D_152_84 rfl ?_
        refine mjq_gR D_152_85 fr_9_11 h (fun v5 h => ?_)
        refine mjr_iload_n (x := l1) D_152_88 rfl ?_
        refine mjr_aload_n (x := l0) D_152_89 rfl ?_
        refine mjq_gR D_152_90 fr_9_11 h (fun v6 h => ?_)
        refine mjr_iload_n (x := l1) D_152_93 rfl ?_
        refine mjq_aL D_152_94 h (fun v7 h => ?_)
        refine mjq_ldS (i := 0) (v := 1000000) D_152_95 (by decide +kernel) rfl ?_
        refine mjr_iload_n (x := l2) D_152_97 rfl ?_
        refine mjq_wI (As := [.int l2]) (rest := [.long v7, .int l1, .ref v5]) D_152_98 mr_9_36 V_358 rfl rfl rfl hR (Nat.le_refl _) h1 h2 h (fun v8 hp9 h => ?_)
        refine mjq_scL (As := [.long v7, .int v8]) (rest := [.int l1, .ref v5]) D_152_101 mr_9_40 V_153 rfl rfl rfl hR (Nat.le_refl _) h1 h2 h (fun v10 hp11 h => ?_)
        refine mjq_sL D_152_104 h (fun hp12 h => ?_)
        exact (t_152_105 hR h1 h2 hk52) _ _ _ _ _ h
      · refine mjq_iinc (x := l1) (c := (1 : Int32)) (lo' := [some (.ref l0), some (.int (l1 + (1 : Int32))), some (.int l2)]) D_152_78 rfl (Nat.le_of_ble_eq_true rfl) rfl rfl ?_
        refine mjr_goto (tgt := 105) D_152_81 rfl ?_
        exact (t_152_105 hR h1 h2 hk52) _ _ _ _ _ h
noncomputable def L_152_52 (R : mjR) (n : Nat) : Nat → Int32 → Int32 → mjH → mjU := Nat.rec (motive := fun _ => Nat → Int32 → Int32 → mjH → mjU) (fun _ _ _ _ => none) (fun _ self => b_152_52 R self) n
theorem T_152_52 {X : mjX} {d C S kc ks : Nat} {R : mjR} (hR : mjC R d) (h1 : kc ≤ C) (h2 : ks ≤ S) (n : Nat) : P_152_52 X (d + 1) C S kc ks (L_152_52 R n) := by
  induction n with
  | zero => intro _ _ _ _ _ h; exact mj_no h
  | succ n ih => exact t_152_52 hR h1 h2 ih
noncomputable def b_152_48 (R : mjR) (l0 : Nat) (hp : mjH) : mjU := L_152_52 R mjN l0 (0 : Int32) (0 : Int32) hp
theorem t_152_48 {X : mjX} {d C S kc ks : Nat} {R : mjR} (hR : mjC R d) (h1 : kc ≤ C) (h2 : ks ≤ S) : P_152_48 X (d + 1) C S kc ks (b_152_48 R) := by
  intro l0 hp q h
  unfold b_152_48 at h
  refine mjq_ic (v := (0 : Int32)) D_152_48 rfl ?_
  refine mjq_istore_n (lo' := [some (.ref l0), some (.int (0 : Int32)), none]) D_152_49 (Nat.le_of_ble_eq_true rfl) rfl ?_
  refine mjq_ic (v := (0 : Int32)) D_152_50 rfl ?_
  refine mjq_istore_n (lo' := [some (.ref l0), some (.int (0 : Int32)), some (.int (0 : Int32))]) D_152_51 (Nat.le_of_ble_eq_true rfl) rfl ?_
  exact (T_152_52 hR h1 h2 mjN) _ _ _ _ _ h
def J_153 : mjI := (⟨"OwnerHeap$Tokens", "spelled", "(JI)J"⟩, 9, prog_11_method_2_code, 4, (some .long), 2, true)
theorem Ja_153 : mjMt 153 = some J_153 := by rfl
theorem D_153_0 : decode J_153.2.2.1 0 = .ok (.iload_n 2, 1) := by decide +kernel
theorem D_153_1 : decode J_153.2.2.1 1 = .ok (.bipush 48, 2) := by decide +kernel
theorem D_153_3 : decode J_153.2.2.1 3 = .ok (.isub, 1) := by decide +kernel
theorem D_153_4 : decode J_153.2.2.1 4 = .ok (.iconst 1, 1) := by decide +kernel
theorem D_153_5 : decode J_153.2.2.1 5 = .ok (.iadd, 1) := by decide +kernel
theorem D_153_6 : decode J_153.2.2.1 6 = .ok (.istore_n 3, 1) := by decide +kernel
theorem D_153_7 : decode J_153.2.2.1 7 = .ok (.iload_n 2, 1) := by decide +kernel
theorem D_153_8 : decode J_153.2.2.1 8 = .ok (.bipush 97, 2) := by decide +kernel
theorem D_153_10 : decode J_153.2.2.1 10 = .ok (.if_icmp .lt 14, 3) := by decide +kernel
theorem D_153_13 : decode J_153.2.2.1 13 = .ok (.iload_n 2, 1) := by decide +kernel
theorem D_153_14 : decode J_153.2.2.1 14 = .ok (.bipush 97, 2) := by decide +kernel
theorem D_153_16 : decode J_153.2.2.1 16 = .ok (.isub, 1) := by decide +kernel
theorem D_153_17 : decode J_153.2.2.1 17 = .ok (.bipush 37, 2) := by decide +kernel
theorem D_153_19 : decode J_153.2.2.1 19 = .ok (.iadd, 1) := by decide +kernel
theorem D_153_20 : decode J_153.2.2.1 20 = .ok (.istore_n 3, 1) := by decide +kernel
theorem D_153_21 : decode J_153.2.2.1 21 = .ok (.goto 17, 3) := by decide +kernel
theorem D_153_24 : decode J_153.2.2.1 24 = .ok (.iload_n 2, 1) := by decide +kernel
theorem D_153_25 : decode J_153.2.2.1 25 = .ok (.bipush 65, 2) := by decide +kernel
theorem D_153_27 : decode J_153.2.2.1 27 = .ok (.if_icmp .lt 11, 3) := by decide +kernel
theorem D_153_30 : decode J_153.2.2.1 30 = .ok (.iload_n 2, 1) := by decide +kernel
theorem D_153_31 : decode J_153.2.2.1 31 = .ok (.bipush 65, 2) := by decide +kernel
theorem D_153_33 : decode J_153.2.2.1 33 = .ok (.isub, 1) := by decide +kernel
theorem D_153_34 : decode J_153.2.2.1 34 = .ok (.bipush 11, 2) := by decide +kernel
theorem D_153_36 : decode J_153.2.2.1 36 = .ok (.iadd, 1) := by decide +kernel
theorem D_153_37 : decode J_153.2.2.1 37 = .ok (.istore_n 3, 1) := by decide +kernel
theorem D_153_38 : decode J_153.2.2.1 38 = .ok (.lload_n 0, 1) := by decide +kernel
theorem D_153_39 : decode J_153.2.2.1 39 = .ok (.ldc2_w 44, 3) := by decide +kernel
theorem D_153_42 : decode J_153.2.2.1 42 = .ok (.lmul, 1) := by decide +kernel
theorem D_153_43 : decode J_153.2.2.1 43 = .ok (.iload_n 3, 1) := by decide +kernel
theorem D_153_44 : decode J_153.2.2.1 44 = .ok (.i2l, 1) := by decide +kernel
theorem D_153_45 : decode J_153.2.2.1 45 = .ok (.ladd, 1) := by decide +kernel
theorem D_153_46 : decode J_153.2.2.1 46 = .ok (.lreturn, 1) := by decide +kernel
def P_153_38 (X : mjX) (d C S kc ks : Nat) (k : Int64 → Int32 → mjH → mjU) : Prop := ∀ (l0 : Int64) (l3 : Int32) (hp : mjH) (q : Option Value × mjH), k l0 l3 hp = some q → mjG X d C S J_153 (mjEq q) 38 [some (.long l0), none, none, some (.int l3)] [] hp kc ks
def P_153_0 (X : mjX) (d C S kc ks : Nat) (k : Int64 → Int32 → mjH → mjU) : Prop := ∀ (l0 : Int64) (l2 : Int32) (hp : mjH) (q : Option Value × mjH), k l0 l2 hp = some q → mjG X d C S J_153 (mjEq q) 0 [some (.long l0), none, some (.int l2), none] [] hp kc ks
noncomputable def b_153_38 (R : mjR) (l0 : Int64) (l3 : Int32) (hp : mjH) : mjU := some (some (.long ((l0 * (64 : Int64)) + (l3).toInt64)), hp)
theorem t_153_38 {X : mjX} {d C S kc ks : Nat} {R : mjR} (hR : mjC R d) (h1 : kc ≤ C) (h2 : ks ≤ S) : P_153_38 X (d + 1) C S kc ks (b_153_38 R) := by
  intro l0 l3 hp q h
  unfold b_153_38 at h
  refine mjr_lload_n (x := l0) D_153_38 rfl ?_
  refine mjr_ldc2 (v := (64 : Int64)) D_153_39 (by decide +kernel) ?_
  refine mjr_lmul D_153_42 ?_
  refine mjr_iload_n (x := l3) D_153_43 rfl ?_
  refine mjr_i2l D_153_44 ?_
  refine mjr_ladd D_153_45 ?_
  exact mjq_lret D_153_46 rfl h1 h2 h
noncomputable def b_153_0 (R : mjR) (l0 : Int64) (l2 : Int32) (hp : mjH) : mjU := (if l2 < (97 : Int32) then (if l2 < (65 : Int32) then b_153_38 R l0 ((l2 - (48 : Int32)) + (1 : Int32)) hp else b_153_38 R l0 ((l2 - (65 : Int32)) + (11 : Int32)) hp) else b_153_38 R l0 ((l2 - (97 : Int32)) + (37 : Int32)) hp)
theorem t_153_0 {X : mjX} {d C S kc ks : Nat} {R : mjR} (hR : mjC R d) (h1 : kc ≤ C) (h2 : ks ≤ S) : P_153_0 X (d + 1) C S kc ks (b_153_0 R) := by
  intro l0 l2 hp q h
  unfold b_153_0 at h
  refine mjr_iload_n (x := l2) D_153_0 rfl ?_
  refine mjq_bi (v := (48 : Int32)) D_153_1 rfl ?_
  refine mjr_isub D_153_3 ?_
  refine mjq_ic (v := (1 : Int32)) D_153_4 rfl ?_
  refine mjr_iadd D_153_5 ?_
  refine mjq_istore_n (lo' := [some (.long l0), none, some (.int l2), some (.int ((l2 - (48 : Int32)) + (1 : Int32)))]) D_153_6 (Nat.le_of_ble_eq_true rfl) rfl ?_
  refine mjr_iload_n (x := l2) D_153_7 rfl ?_
  refine mjq_bi (v := (97 : Int32)) D_153_8 rfl ?_
  refine mjq_icmp_lt (tgt := 24) D_153_10 rfl h (fun h => ?_) (fun h => ?_)
  · refine mjr_iload_n (x := l2) D_153_24 rfl ?_
    refine mjq_bi (v := (65 : Int32)) D_153_25 rfl ?_
    refine mjq_icmp_lt (tgt := 38) D_153_27 rfl h (fun h => ?_) (fun h => ?_)
    · exact mjG.fg (lo' := [some (.long l0), none, none, some (.int ((l2 - (48 : Int32)) + (1 : Int32)))]) (And.intro rfl (And.intro rfl True.intro)) ((t_153_38 hR h1 h2) _ _ _ _ h)
    · refine mjr_iload_n (x := l2) D_153_30 rfl ?_
      refine mjq_bi (v := (65 : Int32)) D_153_31 rfl ?_
      refine mjr_isub D_153_33 ?_
      refine mjq_bi (v := (11 : Int32)) D_153_34 rfl ?_
      refine mjr_iadd D_153_36 ?_
      refine mjq_istore_n (lo' := [some (.long l0), none, some (.int l2), some (.int ((l2 - (65 : Int32)) + (11 : Int32)))]) D_153_37 (Nat.le_of_ble_eq_true rfl) rfl ?_
      exact mjG.fg (lo' := [some (.long l0), none, none, some (.int ((l2 - (65 : Int32)) + (11 : Int32)))]) (And.intro rfl (And.intro rfl True.intro)) ((t_153_38 hR h1 h2) _ _ _ _ h)
  · refine mjr_iload_n (x := l2) D_153_13 rfl ?_
    refine mjq_bi (v := (97 : Int32)) D_153_14 rfl ?_
    refine mjr_isub D_153_16 ?_
    refine mjq_bi (v := (37 : Int32)) D_153_17 rfl ?_
    refine mjr_iadd D_153_19 ?_
    refine mjq_istore_n (lo' := [some (.long l0), none, some (.int l2), some (.int ((l2 - (97 : Int32)) + (37 : Int32)))]) D_153_20 (Nat.le_of_ble_eq_true rfl) rfl ?_
    refine mjr_goto (tgt := 38) D_153_21 rfl ?_
    exact mjG.fg (lo' := [some (.long l0), none, none, some (.int ((l2 - (97 : Int32)) + (37 : Int32)))]) (And.intro rfl (And.intro rfl True.intro)) ((t_153_38 hR h1 h2) _ _ _ _ h)
noncomputable def f_153 (R : mjR) (a0 : Int64) (a1 : Int32) (hp : mjH) : mjU := b_153_0 R a0 a1 hp
theorem c_153 {R : mjR} {d : Nat} (hR : mjC R d) {a0 : Int64} {a1 : Int32} {hp : mjH} {q : Option Value × mjH} (h : f_153 R a0 a1 hp = some q) : mjM (d + 1) 0 0 153 [.long a0, .int a1] hp (mjEq q) :=
  mjM_of Ja_153 (Nat.le_of_ble_eq_true rfl) (mjG.fg (lo' := [some (.long a0), none, some (.int a1), none]) (And.intro rfl (And.intro rfl True.intro)) ((t_153_0 hR (Nat.le_refl 0) (Nat.le_refl 0)) a0 a1 hp q h))
def J_154 : mjI := (⟨"OwnerHeap$Tokens", "cut", "([BI)V"⟩, 9, prog_11_method_3_code, 5, none, 2, false)
theorem Ja_154 : mjMt 154 = some J_154 := by rfl
theorem D_154_0 : decode J_154.2.2.1 0 = .ok (.aload_n 0, 1) := by decide +kernel
theorem D_154_1 : decode J_154.2.2.1 1 = .ok (.iconst 0, 1) := by decide +kernel
theorem D_154_2 : decode J_154.2.2.1 2 = .ok (.putfield 46, 3) := by decide +kernel
theorem D_154_5 : decode J_154.2.2.1 5 = .ok (.aload_n 0, 1) := by decide +kernel
theorem D_154_6 : decode J_154.2.2.1 6 = .ok (.iconst 0, 1) := by decide +kernel
theorem D_154_7 : decode J_154.2.2.1 7 = .ok (.putfield 50, 3) := by decide +kernel
theorem D_154_10 : decode J_154.2.2.1 10 = .ok (.aload_n 0, 1) := by decide +kernel
theorem D_154_11 : decode J_154.2.2.1 11 = .ok (.iconst 0, 1) := by decide +kernel
theorem D_154_12 : decode J_154.2.2.1 12 = .ok (.putfield 53, 3) := by decide +kernel
theorem D_154_15 : decode J_154.2.2.1 15 = .ok (.aload_n 0, 1) := by decide +kernel
theorem D_154_16 : decode J_154.2.2.1 16 = .ok (.iconst (-1), 1) := by decide +kernel
theorem D_154_17 : decode J_154.2.2.1 17 = .ok (.putfield 56, 3) := by decide +kernel
theorem D_154_20 : decode J_154.2.2.1 20 = .ok (.aload_n 1, 1) := by decide +kernel
theorem D_154_21 : decode J_154.2.2.1 21 = .ok (.iconst 0, 1) := by decide +kernel
theorem D_154_22 : decode J_154.2.2.1 22 = .ok (.iload_n 2, 1) := by decide +kernel
theorem D_154_23 : decode J_154.2.2.1 23 = .ok (.invokestatic 59, 3) := by decide +kernel
theorem D_154_26 : decode J_154.2.2.1 26 = .ok (.istore_n 3, 1) := by decide +kernel
theorem D_154_27 : decode J_154.2.2.1 27 = .ok (.iconst 0, 1) := by decide +kernel
theorem D_154_28 : decode J_154.2.2.1 28 = .ok (.istore 4, 2) := by decide +kernel
theorem D_154_30 : decode J_154.2.2.1 30 = .ok (.iload 4, 2) := by decide +kernel
theorem D_154_32 : decode J_154.2.2.1 32 = .ok (.iload_n 2, 1) := by decide +kernel
theorem D_154_33 : decode J_154.2.2.1 33 = .ok (.if_icmp .ge 27, 3) := by decide +kernel
theorem D_154_36 : decode J_154.2.2.1 36 = .ok (.iload_n 3, 1) := by decide +kernel
theorem D_154_37 : decode J_154.2.2.1 37 = .ok (.iload_n 2, 1) := by decide +kernel
theorem D_154_38 : decode J_154.2.2.1 38 = .ok (.if_icmp .ge 22, 3) := by decide +kernel
theorem D_154_41 : decode J_154.2.2.1 41 = .ok (.aload_n 1, 1) := by decide +kernel
theorem D_154_42 : decode J_154.2.2.1 42 = .ok (.aload_n 0, 1) := by decide +kernel
theorem D_154_43 : decode J_154.2.2.1 43 = .ok (.aload_n 1, 1) := by decide +kernel
theorem D_154_44 : decode J_154.2.2.1 44 = .ok (.iload_n 3, 1) := by decide +kernel
theorem D_154_45 : decode J_154.2.2.1 45 = .ok (.iload_n 2, 1) := by decide +kernel
theorem D_154_46 : decode J_154.2.2.1 46 = .ok (.invokevirtual 63, 3) := by decide +kernel
theorem D_154_49 : decode J_154.2.2.1 49 = .ok (.iload_n 2, 1) := by decide +kernel
theorem D_154_50 : decode J_154.2.2.1 50 = .ok (.invokestatic 59, 3) := by decide +kernel
theorem D_154_53 : decode J_154.2.2.1 53 = .ok (.istore_n 3, 1) := by decide +kernel
theorem D_154_54 : decode J_154.2.2.1 54 = .ok (.iinc 4 1, 3) := by decide +kernel
theorem D_154_57 : decode J_154.2.2.1 57 = .ok (.goto (-27), 3) := by decide +kernel
theorem D_154_60 : decode J_154.2.2.1 60 = .ok (.aload_n 0, 1) := by decide +kernel
theorem D_154_61 : decode J_154.2.2.1 61 = .ok (.iconst 0, 1) := by decide +kernel
theorem D_154_62 : decode J_154.2.2.1 62 = .ok (.iload_n 2, 1) := by decide +kernel
theorem D_154_63 : decode J_154.2.2.1 63 = .ok (.lconst 0, 1) := by decide +kernel
theorem D_154_64 : decode J_154.2.2.1 64 = .ok (.invokevirtual 66, 3) := by decide +kernel
theorem D_154_67 : decode J_154.2.2.1 67 = .ok (.return_, 1) := by decide +kernel
def P_154_60 (X : mjX) (d C S kc ks : Nat) (k : Nat → Int32 → mjH → mjU) : Prop := ∀ (l0 : Nat) (l2 : Int32) (hp : mjH) (q : Option Value × mjH), k l0 l2 hp = some q → mjG X d C S J_154 (mjEq q) 60 [some (.ref l0), none, some (.int l2), none, none] [] hp kc ks
def P_154_30 (X : mjX) (d C S kc ks : Nat) (k : Nat → Nat → Int32 → Int32 → Int32 → mjH → mjU) : Prop := ∀ (l0 : Nat) (l1 : Nat) (l2 : Int32) (l3 : Int32) (l4 : Int32) (hp : mjH) (q : Option Value × mjH), k l0 l1 l2 l3 l4 hp = some q → mjG X d C S J_154 (mjEq q) 30 [some (.ref l0), some (.ref l1), some (.int l2), some (.int l3), some (.int l4)] [] hp kc ks
def P_154_0 (X : mjX) (d C S kc ks : Nat) (k : Nat → Nat → Int32 → mjH → mjU) : Prop := ∀ (l0 : Nat) (l1 : Nat) (l2 : Int32) (hp : mjH) (q : Option Value × mjH), k l0 l1 l2 hp = some q → mjG X d C S J_154 (mjEq q) 0 [some (.ref l0), some (.ref l1), some (.int l2), none, none] [] hp kc ks
noncomputable def b_154_60 (R : mjR) (l0 : Nat) (l2 : Int32) (hp : mjH) : mjU := rV hp l0 9 (bN (R 161 [.ref l0, .int (0 : Int32), .int l2, .long (0 : Int64)] hp) (fun  hp1 => some (none, hp1)))
theorem t_154_60 {X : mjX} {d C S kc ks : Nat} {R : mjR} (hR : mjC R d) (h1 : kc ≤ C) (h2 : ks ≤ S) : P_154_60 X (d + 1) C S kc ks (b_154_60 R) := by
  intro l0 l2 hp q h
  unfold b_154_60 at h
  refine mjr_aload_n (x := l0) D_154_60 rfl ?_
  refine mjq_ic (v := (0 : Int32)) D_154_61 rfl ?_
  refine mjr_iload_n (x := l2) D_154_62 rfl ?_
  refine mjq_lc (v := (0 : Int64)) D_154_63 rfl ?_
  refine mjq_vN (As := [.int (0 : Int32), .int l2, .long (0 : Int64)]) (rest := []) D_154_64 mr_9_66 V_161 rfl rfl rfl hR (Nat.le_refl _) h1 h2 h (fun  hp1 h => ?_)
  exact mjq_nret D_154_67 rfl h1 h2 h
noncomputable def b_154_30 (R : mjR) (k30 : Nat → Nat → Int32 → Int32 → Int32 → mjH → mjU) (l0 : Nat) (l1 : Nat) (l2 : Int32) (l3 : Int32) (l4 : Int32) (hp : mjH) : mjU := (if l2 ≤ l4 then b_154_60 R l0 l2 hp else (if l2 ≤ l3 then b_154_60 R l0 l2 hp else rV hp l0 9 (bI (R 156 [.ref l0, .ref l1, .int l3, .int l2] hp) (fun v1 hp2 => bI (R 155 [.ref l1, .int v1, .int l2] hp2) (fun v3 hp4 => k30 l0 l1 l2 v3 (l4 + (1 : Int32)) hp4)))))
theorem t_154_30 {X : mjX} {d C S kc ks : Nat} {R : mjR} (hR : mjC R d) (h1 : kc ≤ C) (h2 : ks ≤ S) {k30 : Nat → Nat → Int32 → Int32 → Int32 → mjH → mjU} (hk30 : P_154_30 X (d + 1) C S kc ks k30) : P_154_30 X (d + 1) C S kc ks (b_154_30 R k30) := by
  intro l0 l1 l2 l3 l4 hp q h
  unfold b_154_30 at h
  refine mjr_iload (x := l4) D_154_30 rfl ?_
  refine mjr_iload_n (x := l2) D_154_32 rfl ?_
  refine mjq_icmp_ge (tgt := 60) D_154_33 rfl h (fun h => ?_) (fun h => ?_)
  · exact mjG.fg (lo' := [some (.ref l0), none, some (.int l2), none, none]) (And.intro rfl (And.intro rfl True.intro)) ((t_154_60 hR h1 h2) _ _ _ _ h)
  · refine mjr_iload_n (x := l3) D_154_36 rfl ?_
    refine mjr_iload_n (x := l2) D_154_37 rfl ?_
    refine mjq_icmp_ge (tgt := 60) D_154_38 rfl h (fun h => ?_) (fun h => ?_)
    · exact mjG.fg (lo' := [some (.ref l0), none, some (.int l2), none, none]) (And.intro rfl (And.intro rfl True.intro)) ((t_154_60 hR h1 h2) _ _ _ _ h)
    · refine mjr_aload_n (x := l1) D_154_41 rfl ?_
      refine mjr_aload_n (x := l0) D_154_42 rfl ?_
      refine mjr_aload_n (x := l1) D_154_43 rfl ?_
      refine mjr_iload_n (x := l3) D_154_44 rfl ?_
      refine mjr_iload_n (x := l2) D_154_45 rfl ?_
      refine mjq_vI (As := [.ref l1, .int l3, .int l2]) (rest := [.ref l1]) D_154_46 mr_9_63 V_156 rfl rfl rfl hR (Nat.le_refl _) h1 h2 h (fun v1 hp2 h => ?_)
      refine mjr_iload_n (x := l2) D_154_49 rfl ?_
      refine mjq_scI (As := [.ref l1, .int v1, .int l2]) (rest := []) D_154_50 mr_9_59 V_155 rfl rfl rfl hR (Nat.le_refl _) h1 h2 h (fun v3 hp4 h => ?_)
      refine mjq_istore_n (lo' := [some (.ref l0), some (.ref l1), some (.int l2), some (.int v3), some (.int l4)]) D_154_53 (Nat.le_of_ble_eq_true rfl) rfl ?_
      refine mjq_iinc (x := l4) (c := (1 : Int32)) (lo' := [some (.ref l0), some (.ref l1), some (.int l2), some (.int v3), some (.int (l4 + (1 : Int32)))]) D_154_54 rfl (Nat.le_of_ble_eq_true rfl) rfl rfl ?_
      refine mjr_goto (tgt := 30) D_154_57 rfl ?_
      exact hk30 _ _ _ _ _ _ _ h
noncomputable def L_154_30 (R : mjR) (n : Nat) : Nat → Nat → Int32 → Int32 → Int32 → mjH → mjU := Nat.rec (motive := fun _ => Nat → Nat → Int32 → Int32 → Int32 → mjH → mjU) (fun _ _ _ _ _ _ => none) (fun _ self => b_154_30 R self) n
theorem T_154_30 {X : mjX} {d C S kc ks : Nat} {R : mjR} (hR : mjC R d) (h1 : kc ≤ C) (h2 : ks ≤ S) (n : Nat) : P_154_30 X (d + 1) C S kc ks (L_154_30 R n) := by
  induction n with
  | zero => intro _ _ _ _ _ _ _ h; exact mj_no h
  | succ n ih => exact t_154_30 hR h1 h2 ih
noncomputable def b_154_0 (R : mjR) (l0 : Nat) (l1 : Nat) (l2 : Int32) (hp : mjH) : mjU := pI hp l0 9 5 (0 : Int32) (fun hp1 => pI hp1 l0 9 6 (0 : Int32) (fun hp2 => pI hp2 l0 9 7 (0 : Int32) (fun hp3 => pI hp3 l0 9 8 (-1 : Int32) (fun hp4 => bI (R 155 [.ref l1, .int (0 : Int32), .int l2] hp4) (fun v5 hp6 => L_154_30 R mjN l0 l1 l2 v5 (0 : Int32) hp6)))))
theorem t_154_0 {X : mjX} {d C S kc ks : Nat} {R : mjR} (hR : mjC R d) (h1 : kc ≤ C) (h2 : ks ≤ S) : P_154_0 X (d + 1) C S kc ks (b_154_0 R) := by
  intro l0 l1 l2 hp q h
  unfold b_154_0 at h
  refine mjr_aload_n (x := l0) D_154_0 rfl ?_
  refine mjq_ic (v := (0 : Int32)) D_154_1 rfl ?_
  refine mjq_pI D_154_2 fr_9_46 rfl rfl h (fun hp1 h => ?_)
  refine mjr_aload_n (x := l0) D_154_5 rfl ?_
  refine mjq_ic (v := (0 : Int32)) D_154_6 rfl ?_
  refine mjq_pI D_154_7 fr_9_50 rfl rfl h (fun hp2 h => ?_)
  refine mjr_aload_n (x := l0) D_154_10 rfl ?_
  refine mjq_ic (v := (0 : Int32)) D_154_11 rfl ?_
  refine mjq_pI D_154_12 fr_9_53 rfl rfl h (fun hp3 h => ?_)
  refine mjr_aload_n (x := l0) D_154_15 rfl ?_
  refine mjq_ic (v := (-1 : Int32)) D_154_16 rfl ?_
  refine mjq_pI D_154_17 fr_9_56 rfl rfl h (fun hp4 h => ?_)
  refine mjr_aload_n (x := l1) D_154_20 rfl ?_
  refine mjq_ic (v := (0 : Int32)) D_154_21 rfl ?_
  refine mjr_iload_n (x := l2) D_154_22 rfl ?_
  refine mjq_scI (As := [.ref l1, .int (0 : Int32), .int l2]) (rest := []) D_154_23 mr_9_59 V_155 rfl rfl rfl hR (Nat.le_refl _) h1 h2 h (fun v5 hp6 h => ?_)
  refine mjq_istore_n (lo' := [some (.ref l0), some (.ref l1), some (.int l2), some (.int v5), none]) D_154_26 (Nat.le_of_ble_eq_true rfl) rfl ?_
  refine mjq_ic (v := (0 : Int32)) D_154_27 rfl ?_
  refine mjq_istore (lo' := [some (.ref l0), some (.ref l1), some (.int l2), some (.int v5), some (.int (0 : Int32))]) D_154_28 (Nat.le_of_ble_eq_true rfl) rfl ?_
  exact (T_154_30 hR h1 h2 mjN) _ _ _ _ _ _ _ h
noncomputable def f_154 (R : mjR) (a0 : Nat) (a1 : Nat) (a2 : Int32) (hp : mjH) : mjU := b_154_0 R a0 a1 a2 hp
theorem c_154 {R : mjR} {d : Nat} (hR : mjC R d) {a0 : Nat} {a1 : Nat} {a2 : Int32} {hp : mjH} {q : Option Value × mjH} (h : f_154 R a0 a1 a2 hp = some q) : mjM (d + 1) 0 0 154 [.ref a0, .ref a1, .int a2] hp (mjEq q) :=
  mjM_of Ja_154 (Nat.le_of_ble_eq_true rfl) (mjG.fg (lo' := [some (.ref a0), some (.ref a1), some (.int a2), none, none]) (And.intro rfl (And.intro rfl (And.intro rfl True.intro))) ((t_154_0 hR (Nat.le_refl 0) (Nat.le_refl 0)) a0 a1 a2 hp q h))
def J_155 : mjI := (⟨"OwnerHeap$Tokens", "behindBlanks", "([BII)I"⟩, 9, prog_11_method_5_code, 6, (some .int), 3, true)
theorem Ja_155 : mjMt 155 = some J_155 := by rfl
theorem D_155_0 : decode J_155.2.2.1 0 = .ok (.iconst 0, 1) := by decide +kernel
theorem D_155_1 : decode J_155.2.2.1 1 = .ok (.istore_n 3, 1) := by decide +kernel
theorem D_155_2 : decode J_155.2.2.1 2 = .ok (.iload_n 1, 1) := by decide +kernel
theorem D_155_3 : decode J_155.2.2.1 3 = .ok (.istore 4, 2) := by decide +kernel
theorem D_155_5 : decode J_155.2.2.1 5 = .ok (.iload 4, 2) := by decide +kernel
theorem D_155_7 : decode J_155.2.2.1 7 = .ok (.iload_n 2, 1) := by decide +kernel
theorem D_155_8 : decode J_155.2.2.1 8 = .ok (.if_icmp .ge 53, 3) := by decide +kernel
theorem D_155_11 : decode J_155.2.2.1 11 = .ok (.aload_n 0, 1) := by decide +kernel
theorem D_155_12 : decode J_155.2.2.1 12 = .ok (.iload 4, 2) := by decide +kernel
theorem D_155_14 : decode J_155.2.2.1 14 = .ok (.baload, 1) := by decide +kernel
theorem D_155_15 : decode J_155.2.2.1 15 = .ok (.istore 5, 2) := by decide +kernel
theorem D_155_17 : decode J_155.2.2.1 17 = .ok (.iload 5, 2) := by decide +kernel
theorem D_155_19 : decode J_155.2.2.1 19 = .ok (.bipush 10, 2) := by decide +kernel
theorem D_155_21 : decode J_155.2.2.1 21 = .ok (.if_icmp .ne 8, 3) := by decide +kernel
theorem D_155_24 : decode J_155.2.2.1 24 = .ok (.iconst 0, 1) := by decide +kernel
theorem D_155_25 : decode J_155.2.2.1 25 = .ok (.istore_n 3, 1) := by decide +kernel
theorem D_155_26 : decode J_155.2.2.1 26 = .ok (.goto 29, 3) := by decide +kernel
theorem D_155_29 : decode J_155.2.2.1 29 = .ok (.iload 5, 2) := by decide +kernel
theorem D_155_31 : decode J_155.2.2.1 31 = .ok (.bipush 35, 2) := by decide +kernel
theorem D_155_33 : decode J_155.2.2.1 33 = .ok (.if_icmp .ne 8, 3) := by decide +kernel
theorem D_155_36 : decode J_155.2.2.1 36 = .ok (.iconst 1, 1) := by decide +kernel
theorem D_155_37 : decode J_155.2.2.1 37 = .ok (.istore_n 3, 1) := by decide +kernel
theorem D_155_38 : decode J_155.2.2.1 38 = .ok (.goto 17, 3) := by decide +kernel
theorem D_155_41 : decode J_155.2.2.1 41 = .ok (.iload_n 3, 1) := by decide +kernel
theorem D_155_42 : decode J_155.2.2.1 42 = .ok (.ifCond .ne 13, 3) := by decide +kernel
theorem D_155_45 : decode J_155.2.2.1 45 = .ok (.iload 5, 2) := by decide +kernel
theorem D_155_47 : decode J_155.2.2.1 47 = .ok (.bipush 32, 2) := by decide +kernel
theorem D_155_49 : decode J_155.2.2.1 49 = .ok (.if_icmp .eq 6, 3) := by decide +kernel
theorem D_155_52 : decode J_155.2.2.1 52 = .ok (.iload 4, 2) := by decide +kernel
theorem D_155_54 : decode J_155.2.2.1 54 = .ok (.ireturn, 1) := by decide +kernel
theorem D_155_55 : decode J_155.2.2.1 55 = .ok (.iinc 4 1, 3) := by decide +kernel
theorem D_155_58 : decode J_155.2.2.1 58 = .ok (.goto (-53), 3) := by decide +kernel
theorem D_155_61 : decode J_155.2.2.1 61 = .ok (.iload_n 2, 1) := by decide +kernel
theorem D_155_62 : decode J_155.2.2.1 62 = .ok (.ireturn, 1) := by decide +kernel
def P_155_55 (X : mjX) (d C S kc ks : Nat) (k : Nat → Int32 → Int32 → Int32 → mjH → mjU) : Prop := ∀ (l0 : Nat) (l2 : Int32) (l3 : Int32) (l4 : Int32) (hp : mjH) (q : Option Value × mjH), k l0 l2 l3 l4 hp = some q → mjG X d C S J_155 (mjEq q) 55 [some (.ref l0), none, some (.int l2), some (.int l3), some (.int l4), none] [] hp kc ks
def P_155_5 (X : mjX) (d C S kc ks : Nat) (k : Nat → Int32 → Int32 → Int32 → mjH → mjU) : Prop := ∀ (l0 : Nat) (l2 : Int32) (l3 : Int32) (l4 : Int32) (hp : mjH) (q : Option Value × mjH), k l0 l2 l3 l4 hp = some q → mjG X d C S J_155 (mjEq q) 5 [some (.ref l0), none, some (.int l2), some (.int l3), some (.int l4), none] [] hp kc ks
def P_155_0 (X : mjX) (d C S kc ks : Nat) (k : Nat → Int32 → Int32 → mjH → mjU) : Prop := ∀ (l0 : Nat) (l1 : Int32) (l2 : Int32) (hp : mjH) (q : Option Value × mjH), k l0 l1 l2 hp = some q → mjG X d C S J_155 (mjEq q) 0 [some (.ref l0), some (.int l1), some (.int l2), none, none, none] [] hp kc ks
noncomputable def b_155_55 (R : mjR) (k5 : Nat → Int32 → Int32 → Int32 → mjH → mjU) (l0 : Nat) (l2 : Int32) (l3 : Int32) (l4 : Int32) (hp : mjH) : mjU := k5 l0 l2 l3 (l4 + (1 : Int32)) hp
theorem t_155_55 {X : mjX} {d C S kc ks : Nat} {R : mjR} (hR : mjC R d) (h1 : kc ≤ C) (h2 : ks ≤ S) {k5 : Nat → Int32 → Int32 → Int32 → mjH → mjU} (hk5 : P_155_5 X (d + 1) C S kc ks k5) : P_155_55 X (d + 1) C S kc ks (b_155_55 R k5) := by
  intro l0 l2 l3 l4 hp q h
  unfold b_155_55 at h
  refine mjq_iinc (x := l4) (c := (1 : Int32)) (lo' := [some (.ref l0), none, some (.int l2), some (.int l3), some (.int (l4 + (1 : Int32))), none]) D_155_55 rfl (Nat.le_of_ble_eq_true rfl) rfl rfl ?_
  refine mjr_goto (tgt := 5) D_155_58 rfl ?_
  exact hk5 _ _ _ _ _ _ h
noncomputable def b_155_5 (R : mjR) (k5 : Nat → Int32 → Int32 → Int32 → mjH → mjU) (l0 : Nat) (l2 : Int32) (l3 : Int32) (l4 : Int32) (hp : mjH) : mjU := (if l2 ≤ l4 then some (some (.int l2), hp) else aB hp l0 l4 (fun v1 => (if v1 = (10 : Int32) then b_155_55 R k5 l0 l2 (0 : Int32) l4 hp else (if v1 = (35 : Int32) then b_155_55 R k5 l0 l2 (1 : Int32) l4 hp else (if l3 = 0 then (if v1 = (32 : Int32) then b_155_55 R k5 l0 l2 l3 l4 hp else some (some (.int l4), hp)) else b_155_55 R k5 l0 l2 l3 l4 hp)))))
theorem t_155_5 {X : mjX} {d C S kc ks : Nat} {R : mjR} (hR : mjC R d) (h1 : kc ≤ C) (h2 : ks ≤ S) {k5 : Nat → Int32 → Int32 → Int32 → mjH → mjU} (hk5 : P_155_5 X (d + 1) C S kc ks k5) : P_155_5 X (d + 1) C S kc ks (b_155_5 R k5) := by
  intro l0 l2 l3 l4 hp q h
  unfold b_155_5 at h
  refine mjr_iload (x := l4) D_155_5 rfl ?_
  refine mjr_iload_n (x := l2) D_155_7 rfl ?_
  refine mjq_icmp_ge (tgt := 61) D_155_8 rfl h (fun h => ?_) (fun h => ?_)
  · refine mjr_iload_n (x := l2) D_155_61 rfl ?_
    exact mjq_ret D_155_62 rfl h1 h2 h
  · refine mjr_aload_n (x := l0) D_155_11 rfl ?_
    refine mjr_iload (x := l4) D_155_12 rfl ?_
    refine mjq_aB D_155_14 h (fun v1 h => ?_)
    refine mjq_istore (lo' := [some (.ref l0), none, some (.int l2), some (.int l3), some (.int l4), some (.int v1)]) D_155_15 (Nat.le_of_ble_eq_true rfl) rfl ?_
    refine mjr_iload (x := v1) D_155_17 rfl ?_
    refine mjq_bi (v := (10 : Int32)) D_155_19 rfl ?_
    refine mjq_icmp_ne (tgt := 29) D_155_21 rfl h (fun h => ?_) (fun h => ?_)
    · refine mjr_iload (x := v1) D_155_29 rfl ?_
      refine mjq_bi (v := (35 : Int32)) D_155_31 rfl ?_
      refine mjq_icmp_ne (tgt := 41) D_155_33 rfl h (fun h => ?_) (fun h => ?_)
      · refine mjr_iload_n (x := l3) D_155_41 rfl ?_
        refine mjq_if_ne (tgt := 55) D_155_42 rfl h (fun h => ?_) (fun h => ?_)
        · exact mjG.fg (lo' := [some (.ref l0), none, some (.int l2), some (.int l3), some (.int l4), none]) (And.intro rfl (And.intro rfl (And.intro rfl (And.intro rfl True.intro)))) ((t_155_55 hR h1 h2 hk5) _ _ _ _ _ _ h)
        · refine mjr_iload (x := v1) D_155_45 rfl ?_
          refine mjq_bi (v := (32 : Int32)) D_155_47 rfl ?_
          refine mjq_icmp_eq (tgt := 55) D_155_49 rfl h (fun h => ?_) (fun h => ?_)
          · exact mjG.fg (lo' := [some (.ref l0), none, some (.int l2), some (.int l3), some (.int l4), none]) (And.intro rfl (And.intro rfl (And.intro rfl (And.intro rfl True.intro)))) ((t_155_55 hR h1 h2 hk5) _ _ _ _ _ _ h)
          · refine mjr_iload (x := l4) D_155_52 rfl ?_
            exact mjq_ret D_155_54 rfl h1 h2 h
      · refine mjq_ic (v := (1 : Int32)) D_155_36 rfl ?_
        refine mjq_istore_n (lo' := [some (.ref l0), none, some (.int l2), some (.int (1 : Int32)), some (.int l4), some (.int v1)]) D_155_37 (Nat.le_of_ble_eq_true rfl) rfl ?_
        refine mjr_goto (tgt := 55) D_155_38 rfl ?_
        exact mjG.fg (lo' := [some (.ref l0), none, some (.int l2), some (.int (1 : Int32)), some (.int l4), none]) (And.intro rfl (And.intro rfl (And.intro rfl (And.intro rfl True.intro)))) ((t_155_55 hR h1 h2 hk5) _ _ _ _ _ _ h)
    · refine mjq_ic (v := (0 : Int32)) D_155_24 rfl ?_
      refine mjq_istore_n (lo' := [some (.ref l0), none, some (.int l2), some (.int (0 : Int32)), some (.int l4), some (.int v1)]) D_155_25 (Nat.le_of_ble_eq_true rfl) rfl ?_
      refine mjr_goto (tgt := 55) D_155_26 rfl ?_
      exact mjG.fg (lo' := [some (.ref l0), none, some (.int l2), some (.int (0 : Int32)), some (.int l4), none]) (And.intro rfl (And.intro rfl (And.intro rfl (And.intro rfl True.intro)))) ((t_155_55 hR h1 h2 hk5) _ _ _ _ _ _ h)
noncomputable def L_155_5 (R : mjR) (n : Nat) : Nat → Int32 → Int32 → Int32 → mjH → mjU := Nat.rec (motive := fun _ => Nat → Int32 → Int32 → Int32 → mjH → mjU) (fun _ _ _ _ _ => none) (fun _ self => b_155_5 R self) n
theorem T_155_5 {X : mjX} {d C S kc ks : Nat} {R : mjR} (hR : mjC R d) (h1 : kc ≤ C) (h2 : ks ≤ S) (n : Nat) : P_155_5 X (d + 1) C S kc ks (L_155_5 R n) := by
  induction n with
  | zero => intro _ _ _ _ _ _ h; exact mj_no h
  | succ n ih => exact t_155_5 hR h1 h2 ih
noncomputable def b_155_0 (R : mjR) (l0 : Nat) (l1 : Int32) (l2 : Int32) (hp : mjH) : mjU := L_155_5 R mjN l0 l2 (0 : Int32) l1 hp
theorem t_155_0 {X : mjX} {d C S kc ks : Nat} {R : mjR} (hR : mjC R d) (h1 : kc ≤ C) (h2 : ks ≤ S) : P_155_0 X (d + 1) C S kc ks (b_155_0 R) := by
  intro l0 l1 l2 hp q h
  unfold b_155_0 at h
  refine mjq_ic (v := (0 : Int32)) D_155_0 rfl ?_
  refine mjq_istore_n (lo' := [some (.ref l0), some (.int l1), some (.int l2), some (.int (0 : Int32)), none, none]) D_155_1 (Nat.le_of_ble_eq_true rfl) rfl ?_
  refine mjr_iload_n (x := l1) D_155_2 rfl ?_
  refine mjq_istore (lo' := [some (.ref l0), some (.int l1), some (.int l2), some (.int (0 : Int32)), some (.int l1), none]) D_155_3 (Nat.le_of_ble_eq_true rfl) rfl ?_
  exact mjG.fg (lo' := [some (.ref l0), none, some (.int l2), some (.int (0 : Int32)), some (.int l1), none]) (And.intro rfl (And.intro rfl (And.intro rfl (And.intro rfl True.intro)))) ((T_155_5 hR h1 h2 mjN) _ _ _ _ _ _ h)
noncomputable def f_155 (R : mjR) (a0 : Nat) (a1 : Int32) (a2 : Int32) (hp : mjH) : mjU := b_155_0 R a0 a1 a2 hp
theorem c_155 {R : mjR} {d : Nat} (hR : mjC R d) {a0 : Nat} {a1 : Int32} {a2 : Int32} {hp : mjH} {q : Option Value × mjH} (h : f_155 R a0 a1 a2 hp = some q) : mjM (d + 1) 0 0 155 [.ref a0, .int a1, .int a2] hp (mjEq q) :=
  mjM_of Ja_155 (Nat.le_of_ble_eq_true rfl) (mjG.fg (lo' := [some (.ref a0), some (.int a1), some (.int a2), none, none, none]) (And.intro rfl (And.intro rfl (And.intro rfl True.intro))) ((t_155_0 hR (Nat.le_refl 0) (Nat.le_refl 0)) a0 a1 a2 hp q h))
def J_161 : mjI := (⟨"OwnerHeap$Tokens", "put", "(IIJ)V"⟩, 9, prog_11_method_4_code, 5, none, 3, false)
theorem Ja_161 : mjMt 161 = some J_161 := by rfl
theorem D_161_0 : decode J_161.2.2.1 0 = .ok (.aload_n 0, 1) := by decide +kernel
theorem D_161_1 : decode J_161.2.2.1 1 = .ok (.getfield 46, 3) := by decide +kernel
theorem D_161_4 : decode J_161.2.2.1 4 = .ok (.aload_n 0, 1) := by decide +kernel
theorem D_161_5 : decode J_161.2.2.1 5 = .ok (.getfield 15, 3) := by decide +kernel
theorem D_161_8 : decode J_161.2.2.1 8 = .ok (.arraylength, 1) := by decide +kernel
theorem D_161_9 : decode J_161.2.2.1 9 = .ok (.if_icmp .ge 53, 3) := by decide +kernel
theorem D_161_12 : decode J_161.2.2.1 12 = .ok (.aload_n 0, 1) := by decide +kernel
theorem D_161_13 : decode J_161.2.2.1 13 = .ok (.getfield 15, 3) := by decide +kernel
theorem D_161_16 : decode J_161.2.2.1 16 = .ok (.aload_n 0, 1) := by decide +kernel
theorem D_161_17 : decode J_161.2.2.1 17 = .ok (.getfield 46, 3) := by decide +kernel
theorem D_161_20 : decode J_161.2.2.1 20 = .ok (.iload_n 1, 1) := by decide +kernel
theorem D_161_21 : decode J_161.2.2.1 21 = .ok (.iastore, 1) := by decide +kernel
theorem D_161_22 : decode J_161.2.2.1 22 = .ok (.aload_n 0, 1) := by decide +kernel
theorem D_161_23 : decode J_161.2.2.1 23 = .ok (.getfield 19, 3) := by decide +kernel
theorem D_161_26 : decode J_161.2.2.1 26 = .ok (.aload_n 0, 1) := by decide +kernel
theorem D_161_27 : decode J_161.2.2.1 27 = .ok (.getfield 46, 3) := by decide +kernel
theorem D_161_30 : decode J_161.2.2.1 30 = .ok (.iload_n 2, 1) := by decide +kernel
theorem D_161_31 : decode J_161.2.2.1 31 = .ok (.iastore, 1) := by decide +kernel
theorem D_161_32 : decode J_161.2.2.1 32 = .ok (.aload_n 0, 1) := by decide +kernel
theorem D_161_33 : decode J_161.2.2.1 33 = .ok (.getfield 22, 3) := by decide +kernel
theorem D_161_36 : decode J_161.2.2.1 36 = .ok (.aload_n 0, 1) := by decide +kernel
theorem D_161_37 : decode J_161.2.2.1 37 = .ok (.getfield 46, 3) := by decide +kernel
theorem D_161_40 : decode J_161.2.2.1 40 = .ok (.lload_n 3, 1) := by decide +kernel
theorem D_161_41 : decode J_161.2.2.1 41 = .ok (.lastore, 1) := by decide +kernel
theorem D_161_42 : decode J_161.2.2.1 42 = .ok (.aload_n 0, 1) := by decide +kernel
theorem D_161_43 : decode J_161.2.2.1 43 = .ok (.getfield 25, 3) := by decide +kernel
theorem D_161_46 : decode J_161.2.2.1 46 = .ok (.aload_n 0, 1) := by decide +kernel
theorem D_161_47 : decode J_161.2.2.1 47 = .ok (.getfield 46, 3) := by decide +kernel
theorem D_161_50 : decode J_161.2.2.1 50 = .ok (.iconst 0, 1) := by decide +kernel
theorem D_161_51 : decode J_161.2.2.1 51 = .ok (.iastore, 1) := by decide +kernel
theorem D_161_52 : decode J_161.2.2.1 52 = .ok (.aload_n 0, 1) := by decide +kernel
theorem D_161_53 : decode J_161.2.2.1 53 = .ok (.dup, 1) := by decide +kernel
theorem D_161_54 : decode J_161.2.2.1 54 = .ok (.getfield 46, 3) := by decide +kernel
theorem D_161_57 : decode J_161.2.2.1 57 = .ok (.iconst 1, 1) := by decide +kernel
theorem D_161_58 : decode J_161.2.2.1 58 = .ok (.iadd, 1) := by decide +kernel
theorem D_161_59 : decode J_161.2.2.1 59 = .ok (.putfield 46, 3) := by decide +kernel
theorem D_161_62 : decode J_161.2.2.1 62 = .ok (.return_, 1) := by decide +kernel
def P_161_0 (X : mjX) (d C S kc ks : Nat) (k : Nat → Int32 → Int32 → Int64 → mjH → mjU) : Prop := ∀ (l0 : Nat) (l1 : Int32) (l2 : Int32) (l3 : Int64) (hp : mjH) (q : Option Value × mjH), k l0 l1 l2 l3 hp = some q → mjG X d C S J_161 (mjEq q) 0 [some (.ref l0), some (.int l1), some (.int l2), some (.long l3), none] [] hp kc ks
noncomputable def b_161_0 (R : mjR) (l0 : Nat) (l1 : Int32) (l2 : Int32) (l3 : Int64) (hp : mjH) : mjU := gI hp l0 9 5 (fun v1 => gR hp l0 9 1 (fun v2 => aN hp v2 (fun v3 => (if v3 ≤ v1 then some (none, hp) else gR hp l0 9 1 (fun v4 => gI hp l0 9 5 (fun v5 => sI hp v4 v5 l1 (fun hp6 => gR hp6 l0 9 2 (fun v7 => gI hp6 l0 9 5 (fun v8 => sI hp6 v7 v8 l2 (fun hp9 => gR hp9 l0 9 3 (fun v10 => gI hp9 l0 9 5 (fun v11 => sL hp9 v10 v11 l3 (fun hp12 => gR hp12 l0 9 4 (fun v13 => gI hp12 l0 9 5 (fun v14 => sI hp12 v13 v14 (0 : Int32) (fun hp15 => gI hp15 l0 9 5 (fun v16 => pI hp15 l0 9 5 (v16 + (1 : Int32)) (fun hp17 => some (none, hp17)))))))))))))))))))
theorem t_161_0 {X : mjX} {d C S kc ks : Nat} {R : mjR} (hR : mjC R d) (h1 : kc ≤ C) (h2 : ks ≤ S) : P_161_0 X (d + 1) C S kc ks (b_161_0 R) := by
  intro l0 l1 l2 l3 hp q h
  unfold b_161_0 at h
  refine mjr_aload_n (x := l0) D_161_0 rfl ?_
  refine mjq_gI D_161_1 fr_9_46 h (fun v1 h => ?_)
  refine mjr_aload_n (x := l0) D_161_4 rfl ?_
  refine mjq_gR D_161_5 fr_9_15 h (fun v2 h => ?_)
  refine mjq_aN D_161_8 h (fun v3 h => ?_)
  refine mjq_icmp_ge (tgt := 62) D_161_9 rfl h (fun h => ?_) (fun h => ?_)
  · exact mjq_nret D_161_62 rfl h1 h2 h
  · refine mjr_aload_n (x := l0) D_161_12 rfl ?_
    refine mjq_gR D_161_13 fr_9_15 h (fun v4 h => ?_)
    refine mjr_aload_n (x := l0) D_161_16 rfl ?_
    refine mjq_gI D_161_17 fr_9_46 h (fun v5 h => ?_)
    refine mjr_iload_n (x := l1) D_161_20 rfl ?_
    refine mjq_sI D_161_21 h (fun hp6 h => ?_)
    refine mjr_aload_n (x := l0) D_161_22 rfl ?_
    refine mjq_gR D_161_23 fr_9_19 h (fun v7 h => ?_)
    refine mjr_aload_n (x := l0) D_161_26 rfl ?_
    refine mjq_gI D_161_27 fr_9_46 h (fun v8 h => ?_)
    refine mjr_iload_n (x := l2) D_161_30 rfl ?_
    refine mjq_sI D_161_31 h (fun hp9 h => ?_)
    refine mjr_aload_n (x := l0) D_161_32 rfl ?_
    refine mjq_gR D_161_33 fr_9_22 h (fun v10 h => ?_)
    refine mjr_aload_n (x := l0) D_161_36 rfl ?_
    refine mjq_gI D_161_37 fr_9_46 h (fun v11 h => ?_)
    refine mjr_lload_n (x := l3) D_161_40 rfl ?_
    refine mjq_sL D_161_41 h (fun hp12 h => ?_)
    refine mjr_aload_n (x := l0) D_161_42 rfl ?_
    refine mjq_gR D_161_43 fr_9_25 h (fun v13 h => ?_)
    refine mjr_aload_n (x := l0) D_161_46 rfl ?_
    refine mjq_gI D_161_47 fr_9_46 h (fun v14 h => ?_)
    refine mjq_ic (v := (0 : Int32)) D_161_50 rfl ?_
    refine mjq_sI D_161_51 h (fun hp15 h => ?_)
    refine mjr_aload_n (x := l0) D_161_52 rfl ?_
    refine mjr_dup D_161_53 rfl ?_
    refine mjq_gI D_161_54 fr_9_46 h (fun v16 h => ?_)
    refine mjq_ic (v := (1 : Int32)) D_161_57 rfl ?_
    refine mjr_iadd D_161_58 ?_
    refine mjq_pI D_161_59 fr_9_46 rfl rfl h (fun hp17 h => ?_)
    exact mjq_nret D_161_62 rfl h1 h2 h
noncomputable def f_161 (R : mjR) (a0 : Nat) (a1 : Int32) (a2 : Int32) (a3 : Int64) (hp : mjH) : mjU := b_161_0 R a0 a1 a2 a3 hp
theorem c_161 {R : mjR} {d : Nat} (hR : mjC R d) {a0 : Nat} {a1 : Int32} {a2 : Int32} {a3 : Int64} {hp : mjH} {q : Option Value × mjH} (h : f_161 R a0 a1 a2 a3 hp = some q) : mjM (d + 1) 0 0 161 [.ref a0, .int a1, .int a2, .long a3] hp (mjEq q) :=
  mjM_of Ja_161 (Nat.le_of_ble_eq_true rfl) (mjG.fg (lo' := [some (.ref a0), some (.int a1), some (.int a2), some (.long a3), none]) (And.intro rfl (And.intro rfl (And.intro rfl (And.intro rfl True.intro)))) ((t_161_0 hR (Nat.le_refl 0) (Nat.le_refl 0)) a0 a1 a2 a3 hp q h))
def J_164 : mjI := (⟨"OwnerHeap$Tokens", "is", "(I)Z"⟩, 9, prog_11_method_15_code, 2, (some .boolean), 1, false)
theorem Ja_164 : mjMt 164 = some J_164 := by rfl
theorem D_164_0 : decode J_164.2.2.1 0 = .ok (.aload_n 0, 1) := by decide +kernel
theorem D_164_1 : decode J_164.2.2.1 1 = .ok (.getfield 15, 3) := by decide +kernel
theorem D_164_4 : decode J_164.2.2.1 4 = .ok (.aload_n 0, 1) := by decide +kernel
theorem D_164_5 : decode J_164.2.2.1 5 = .ok (.getfield 50, 3) := by decide +kernel
theorem D_164_8 : decode J_164.2.2.1 8 = .ok (.iaload, 1) := by decide +kernel
theorem D_164_9 : decode J_164.2.2.1 9 = .ok (.iload_n 1, 1) := by decide +kernel
theorem D_164_10 : decode J_164.2.2.1 10 = .ok (.if_icmp .ne 7, 3) := by decide +kernel
theorem D_164_13 : decode J_164.2.2.1 13 = .ok (.iconst 1, 1) := by decide +kernel
theorem D_164_14 : decode J_164.2.2.1 14 = .ok (.goto 4, 3) := by decide +kernel
theorem D_164_17 : decode J_164.2.2.1 17 = .ok (.iconst 0, 1) := by decide +kernel
theorem D_164_18 : decode J_164.2.2.1 18 = .ok (.ireturn, 1) := by decide +kernel
def P_164_0 (X : mjX) (d C S kc ks : Nat) (k : Nat → Int32 → mjH → mjU) : Prop := ∀ (l0 : Nat) (l1 : Int32) (hp : mjH) (q : Option Value × mjH), k l0 l1 hp = some q → mjG X d C S J_164 (mjEq q) 0 [some (.ref l0), some (.int l1)] [] hp kc ks
noncomputable def b_164_0 (R : mjR) (l0 : Nat) (l1 : Int32) (hp : mjH) : mjU := gR hp l0 9 1 (fun v1 => gI hp l0 9 6 (fun v2 => aI hp v1 v2 (fun v3 => (if v3 = l1 then some (some (.int (1 : Int32)), hp) else some (some (.int (0 : Int32)), hp)))))
theorem t_164_0 {X : mjX} {d C S kc ks : Nat} {R : mjR} (hR : mjC R d) (h1 : kc ≤ C) (h2 : ks ≤ S) : P_164_0 X (d + 1) C S kc ks (b_164_0 R) := by
  intro l0 l1 hp q h
  unfold b_164_0 at h
  refine mjr_aload_n (x := l0) D_164_0 rfl ?_
  refine mjq_gR D_164_1 fr_9_15 h (fun v1 h => ?_)
  refine mjr_aload_n (x := l0) D_164_4 rfl ?_
  refine mjq_gI D_164_5 fr_9_50 h (fun v2 h => ?_)
  refine mjq_aI D_164_8 h (fun v3 h => ?_)
  refine mjr_iload_n (x := l1) D_164_9 rfl ?_
  refine mjq_icmp_ne (tgt := 17) D_164_10 rfl h (fun h => ?_) (fun h => ?_)
  · refine mjq_ic (v := (0 : Int32)) D_164_17 rfl ?_
    exact mjr_ireturn D_164_18 rfl rfl h1 h2 (Option.some.inj h)
  · refine mjq_ic (v := (1 : Int32)) D_164_13 rfl ?_
    refine mjr_goto (tgt := 18) D_164_14 rfl ?_
    exact mjr_ireturn D_164_18 rfl rfl h1 h2 (Option.some.inj h)
noncomputable def f_164 (R : mjR) (a0 : Nat) (a1 : Int32) (hp : mjH) : mjU := b_164_0 R a0 a1 hp
theorem c_164 {R : mjR} {d : Nat} (hR : mjC R d) {a0 : Nat} {a1 : Int32} {hp : mjH} {q : Option Value × mjH} (h : f_164 R a0 a1 hp = some q) : mjM (d + 1) 0 0 164 [.ref a0, .int a1] hp (mjEq q) :=
  mjM_of Ja_164 (Nat.le_of_ble_eq_true rfl) (mjG.fg (lo' := [some (.ref a0), some (.int a1)]) (And.intro rfl (And.intro rfl True.intro)) ((t_164_0 hR (Nat.le_refl 0) (Nat.le_refl 0)) a0 a1 hp q h))
def J_165 : mjI := (⟨"OwnerHeap$Tokens", "refuse", "(I)V"⟩, 9, prog_11_method_29_code, 2, none, 1, false)
theorem Ja_165 : mjMt 165 = some J_165 := by rfl
theorem D_165_0 : decode J_165.2.2.1 0 = .ok (.aload_n 0, 1) := by decide +kernel
theorem D_165_1 : decode J_165.2.2.1 1 = .ok (.getfield 53, 3) := by decide +kernel
theorem D_165_4 : decode J_165.2.2.1 4 = .ok (.ifCond .ne 38, 3) := by decide +kernel
theorem D_165_7 : decode J_165.2.2.1 7 = .ok (.aload_n 0, 1) := by decide +kernel
theorem D_165_8 : decode J_165.2.2.1 8 = .ok (.aload_n 0, 1) := by decide +kernel
theorem D_165_9 : decode J_165.2.2.1 9 = .ok (.getfield 15, 3) := by decide +kernel
theorem D_165_12 : decode J_165.2.2.1 12 = .ok (.aload_n 0, 1) := by decide +kernel
theorem D_165_13 : decode J_165.2.2.1 13 = .ok (.getfield 50, 3) := by decide +kernel
theorem D_165_16 : decode J_165.2.2.1 16 = .ok (.iaload, 1) := by decide +kernel
theorem D_165_17 : decode J_165.2.2.1 17 = .ok (.iconst 1, 1) := by decide +kernel
theorem D_165_18 : decode J_165.2.2.1 18 = .ok (.if_icmp .ne 7, 3) := by decide +kernel
theorem D_165_21 : decode J_165.2.2.1 21 = .ok (.iconst 1, 1) := by decide +kernel
theorem D_165_22 : decode J_165.2.2.1 22 = .ok (.goto 4, 3) := by decide +kernel
theorem D_165_25 : decode J_165.2.2.1 25 = .ok (.iload_n 1, 1) := by decide +kernel
theorem D_165_26 : decode J_165.2.2.1 26 = .ok (.putfield 53, 3) := by decide +kernel
theorem D_165_29 : decode J_165.2.2.1 29 = .ok (.aload_n 0, 1) := by decide +kernel
theorem D_165_30 : decode J_165.2.2.1 30 = .ok (.aload_n 0, 1) := by decide +kernel
theorem D_165_31 : decode J_165.2.2.1 31 = .ok (.getfield 19, 3) := by decide +kernel
theorem D_165_34 : decode J_165.2.2.1 34 = .ok (.aload_n 0, 1) := by decide +kernel
theorem D_165_35 : decode J_165.2.2.1 35 = .ok (.getfield 50, 3) := by decide +kernel
theorem D_165_38 : decode J_165.2.2.1 38 = .ok (.iaload, 1) := by decide +kernel
theorem D_165_39 : decode J_165.2.2.1 39 = .ok (.putfield 56, 3) := by decide +kernel
theorem D_165_42 : decode J_165.2.2.1 42 = .ok (.aload_n 0, 1) := by decide +kernel
theorem D_165_43 : decode J_165.2.2.1 43 = .ok (.aload_n 0, 1) := by decide +kernel
theorem D_165_44 : decode J_165.2.2.1 44 = .ok (.getfield 46, 3) := by decide +kernel
theorem D_165_47 : decode J_165.2.2.1 47 = .ok (.iconst 1, 1) := by decide +kernel
theorem D_165_48 : decode J_165.2.2.1 48 = .ok (.isub, 1) := by decide +kernel
theorem D_165_49 : decode J_165.2.2.1 49 = .ok (.putfield 50, 3) := by decide +kernel
theorem D_165_52 : decode J_165.2.2.1 52 = .ok (.return_, 1) := by decide +kernel
def P_165_42 (X : mjX) (d C S kc ks : Nat) (k : Nat → mjH → mjU) : Prop := ∀ (l0 : Nat) (hp : mjH) (q : Option Value × mjH), k l0 hp = some q → mjG X d C S J_165 (mjEq q) 42 [some (.ref l0), none] [] hp kc ks
def P_165_26 (X : mjX) (d C S kc ks : Nat) (k : Nat → Nat → Int32 → mjH → mjU) : Prop := ∀ (l0 : Nat) (s0 : Nat) (s1 : Int32) (hp : mjH) (q : Option Value × mjH), k l0 s0 s1 hp = some q → mjG X d C S J_165 (mjEq q) 26 [some (.ref l0), none] [.int s1, .ref s0] hp kc ks
def P_165_0 (X : mjX) (d C S kc ks : Nat) (k : Nat → Int32 → mjH → mjU) : Prop := ∀ (l0 : Nat) (l1 : Int32) (hp : mjH) (q : Option Value × mjH), k l0 l1 hp = some q → mjG X d C S J_165 (mjEq q) 0 [some (.ref l0), some (.int l1)] [] hp kc ks
noncomputable def b_165_42 (R : mjR) (l0 : Nat) (hp : mjH) : mjU := gI hp l0 9 5 (fun v1 => pI hp l0 9 6 (v1 - (1 : Int32)) (fun hp2 => some (none, hp2)))
theorem t_165_42 {X : mjX} {d C S kc ks : Nat} {R : mjR} (hR : mjC R d) (h1 : kc ≤ C) (h2 : ks ≤ S) : P_165_42 X (d + 1) C S kc ks (b_165_42 R) := by
  intro l0 hp q h
  unfold b_165_42 at h
  refine mjr_aload_n (x := l0) D_165_42 rfl ?_
  refine mjr_aload_n (x := l0) D_165_43 rfl ?_
  refine mjq_gI D_165_44 fr_9_46 h (fun v1 h => ?_)
  refine mjq_ic (v := (1 : Int32)) D_165_47 rfl ?_
  refine mjr_isub D_165_48 ?_
  refine mjq_pI D_165_49 fr_9_50 rfl rfl h (fun hp2 h => ?_)
  exact mjq_nret D_165_52 rfl h1 h2 h
noncomputable def b_165_26 (R : mjR) (l0 : Nat) (s0 : Nat) (s1 : Int32) (hp : mjH) : mjU := pI hp s0 9 7 s1 (fun hp1 => gR hp1 l0 9 2 (fun v2 => gI hp1 l0 9 6 (fun v3 => aI hp1 v2 v3 (fun v4 => pI hp1 l0 9 8 v4 (fun hp5 => b_165_42 R l0 hp5)))))
theorem t_165_26 {X : mjX} {d C S kc ks : Nat} {R : mjR} (hR : mjC R d) (h1 : kc ≤ C) (h2 : ks ≤ S) : P_165_26 X (d + 1) C S kc ks (b_165_26 R) := by
  intro l0 s0 s1 hp q h
  unfold b_165_26 at h
  refine mjq_pI D_165_26 fr_9_53 rfl rfl h (fun hp1 h => ?_)
  refine mjr_aload_n (x := l0) D_165_29 rfl ?_
  refine mjr_aload_n (x := l0) D_165_30 rfl ?_
  refine mjq_gR D_165_31 fr_9_19 h (fun v2 h => ?_)
  refine mjr_aload_n (x := l0) D_165_34 rfl ?_
  refine mjq_gI D_165_35 fr_9_50 h (fun v3 h => ?_)
  refine mjq_aI D_165_38 h (fun v4 h => ?_)
  refine mjq_pI D_165_39 fr_9_56 rfl rfl h (fun hp5 h => ?_)
  exact (t_165_42 hR h1 h2) _ _ _ h
noncomputable def b_165_0 (R : mjR) (l0 : Nat) (l1 : Int32) (hp : mjH) : mjU := gI hp l0 9 7 (fun v1 => (if v1 = 0 then gR hp l0 9 1 (fun v2 => gI hp l0 9 6 (fun v3 => aI hp v2 v3 (fun v4 => (if v4 = (1 : Int32) then b_165_26 R l0 l0 (1 : Int32) hp else b_165_26 R l0 l0 l1 hp)))) else b_165_42 R l0 hp))
theorem t_165_0 {X : mjX} {d C S kc ks : Nat} {R : mjR} (hR : mjC R d) (h1 : kc ≤ C) (h2 : ks ≤ S) : P_165_0 X (d + 1) C S kc ks (b_165_0 R) := by
  intro l0 l1 hp q h
  unfold b_165_0 at h
  refine mjr_aload_n (x := l0) D_165_0 rfl ?_
  refine mjq_gI D_165_1 fr_9_53 h (fun v1 h => ?_)
  refine mjq_if_ne (tgt := 42) D_165_4 rfl h (fun h => ?_) (fun h => ?_)
  · exact mjG.fg (lo' := [some (.ref l0), none]) (And.intro rfl True.intro) ((t_165_42 hR h1 h2) _ _ _ h)
  · refine mjr_aload_n (x := l0) D_165_7 rfl ?_
    refine mjr_aload_n (x := l0) D_165_8 rfl ?_
    refine mjq_gR D_165_9 fr_9_15 h (fun v2 h => ?_)
    refine mjr_aload_n (x := l0) D_165_12 rfl ?_
    refine mjq_gI D_165_13 fr_9_50 h (fun v3 h => ?_)
    refine mjq_aI D_165_16 h (fun v4 h => ?_)
    refine mjq_ic (v := (1 : Int32)) D_165_17 rfl ?_
    refine mjq_icmp_ne (tgt := 25) D_165_18 rfl h (fun h => ?_) (fun h => ?_)
    · refine mjr_iload_n (x := l1) D_165_25 rfl ?_
      exact mjG.fg (lo' := [some (.ref l0), none]) (And.intro rfl True.intro) ((t_165_26 hR h1 h2) _ _ _ _ _ h)
    · refine mjq_ic (v := (1 : Int32)) D_165_21 rfl ?_
      refine mjr_goto (tgt := 26) D_165_22 rfl ?_
      exact mjG.fg (lo' := [some (.ref l0), none]) (And.intro rfl True.intro) ((t_165_26 hR h1 h2) _ _ _ _ _ h)
noncomputable def f_165 (R : mjR) (a0 : Nat) (a1 : Int32) (hp : mjH) : mjU := b_165_0 R a0 a1 hp
theorem c_165 {R : mjR} {d : Nat} (hR : mjC R d) {a0 : Nat} {a1 : Int32} {hp : mjH} {q : Option Value × mjH} (h : f_165 R a0 a1 hp = some q) : mjM (d + 1) 0 0 165 [.ref a0, .int a1] hp (mjEq q) :=
  mjM_of Ja_165 (Nat.le_of_ble_eq_true rfl) (mjG.fg (lo' := [some (.ref a0), some (.int a1)]) (And.intro rfl (And.intro rfl True.intro)) ((t_165_0 hR (Nat.le_refl 0) (Nat.le_refl 0)) a0 a1 hp q h))
def J_166 : mjI := (⟨"OwnerHeap$Tokens", "skip", "()V"⟩, 9, prog_11_method_22_code, 1, none, 0, false)
theorem Ja_166 : mjMt 166 = some J_166 := by rfl
theorem D_166_0 : decode J_166.2.2.1 0 = .ok (.aload_n 0, 1) := by decide +kernel
theorem D_166_1 : decode J_166.2.2.1 1 = .ok (.getfield 50, 3) := by decide +kernel
theorem D_166_4 : decode J_166.2.2.1 4 = .ok (.aload_n 0, 1) := by decide +kernel
theorem D_166_5 : decode J_166.2.2.1 5 = .ok (.getfield 46, 3) := by decide +kernel
theorem D_166_8 : decode J_166.2.2.1 8 = .ok (.iconst 1, 1) := by decide +kernel
theorem D_166_9 : decode J_166.2.2.1 9 = .ok (.isub, 1) := by decide +kernel
theorem D_166_10 : decode J_166.2.2.1 10 = .ok (.if_icmp .ge 13, 3) := by decide +kernel
theorem D_166_13 : decode J_166.2.2.1 13 = .ok (.aload_n 0, 1) := by decide +kernel
theorem D_166_14 : decode J_166.2.2.1 14 = .ok (.dup, 1) := by decide +kernel
theorem D_166_15 : decode J_166.2.2.1 15 = .ok (.getfield 50, 3) := by decide +kernel
theorem D_166_18 : decode J_166.2.2.1 18 = .ok (.iconst 1, 1) := by decide +kernel
theorem D_166_19 : decode J_166.2.2.1 19 = .ok (.iadd, 1) := by decide +kernel
theorem D_166_20 : decode J_166.2.2.1 20 = .ok (.putfield 50, 3) := by decide +kernel
theorem D_166_23 : decode J_166.2.2.1 23 = .ok (.return_, 1) := by decide +kernel
def P_166_0 (X : mjX) (d C S kc ks : Nat) (k : Nat → mjH → mjU) : Prop := ∀ (l0 : Nat) (hp : mjH) (q : Option Value × mjH), k l0 hp = some q → mjG X d C S J_166 (mjEq q) 0 [some (.ref l0)] [] hp kc ks
noncomputable def b_166_0 (R : mjR) (l0 : Nat) (hp : mjH) : mjU := gI hp l0 9 6 (fun v1 => gI hp l0 9 5 (fun v2 => (if (v2 - (1 : Int32)) ≤ v1 then some (none, hp) else gI hp l0 9 6 (fun v3 => pI hp l0 9 6 (v3 + (1 : Int32)) (fun hp4 => some (none, hp4))))))
theorem t_166_0 {X : mjX} {d C S kc ks : Nat} {R : mjR} (hR : mjC R d) (h1 : kc ≤ C) (h2 : ks ≤ S) : P_166_0 X (d + 1) C S kc ks (b_166_0 R) := by
  intro l0 hp q h
  unfold b_166_0 at h
  refine mjr_aload_n (x := l0) D_166_0 rfl ?_
  refine mjq_gI D_166_1 fr_9_50 h (fun v1 h => ?_)
  refine mjr_aload_n (x := l0) D_166_4 rfl ?_
  refine mjq_gI D_166_5 fr_9_46 h (fun v2 h => ?_)
  refine mjq_ic (v := (1 : Int32)) D_166_8 rfl ?_
  refine mjr_isub D_166_9 ?_
  refine mjq_icmp_ge (tgt := 23) D_166_10 rfl h (fun h => ?_) (fun h => ?_)
  · exact mjq_nret D_166_23 rfl h1 h2 h
  · refine mjr_aload_n (x := l0) D_166_13 rfl ?_
    refine mjr_dup D_166_14 rfl ?_
    refine mjq_gI D_166_15 fr_9_50 h (fun v3 h => ?_)
    refine mjq_ic (v := (1 : Int32)) D_166_18 rfl ?_
    refine mjr_iadd D_166_19 ?_
    refine mjq_pI D_166_20 fr_9_50 rfl rfl h (fun hp4 h => ?_)
    exact mjq_nret D_166_23 rfl h1 h2 h
noncomputable def f_166 (R : mjR) (a0 : Nat) (hp : mjH) : mjU := b_166_0 R a0 hp
theorem c_166 {R : mjR} {d : Nat} (hR : mjC R d) {a0 : Nat} {hp : mjH} {q : Option Value × mjH} (h : f_166 R a0 hp = some q) : mjM (d + 1) 0 0 166 [.ref a0] hp (mjEq q) :=
  mjM_of Ja_166 (Nat.le_of_ble_eq_true rfl) (mjG.fg (lo' := [some (.ref a0)]) (And.intro rfl True.intro) ((t_166_0 hR (Nat.le_refl 0) (Nat.le_refl 0)) a0 hp q h))
def J_167 : mjI := (⟨"OwnerHeap$Tokens", "now", "()I"⟩, 9, prog_11_method_14_code, 1, (some .int), 0, false)
theorem Ja_167 : mjMt 167 = some J_167 := by rfl
theorem D_167_0 : decode J_167.2.2.1 0 = .ok (.aload_n 0, 1) := by decide +kernel
theorem D_167_1 : decode J_167.2.2.1 1 = .ok (.getfield 50, 3) := by decide +kernel
theorem D_167_4 : decode J_167.2.2.1 4 = .ok (.ireturn, 1) := by decide +kernel
def P_167_0 (X : mjX) (d C S kc ks : Nat) (k : Nat → mjH → mjU) : Prop := ∀ (l0 : Nat) (hp : mjH) (q : Option Value × mjH), k l0 hp = some q → mjG X d C S J_167 (mjEq q) 0 [some (.ref l0)] [] hp kc ks
noncomputable def b_167_0 (R : mjR) (l0 : Nat) (hp : mjH) : mjU := gI hp l0 9 6 (fun v1 => some (some (.int v1), hp))
theorem t_167_0 {X : mjX} {d C S kc ks : Nat} {R : mjR} (hR : mjC R d) (h1 : kc ≤ C) (h2 : ks ≤ S) : P_167_0 X (d + 1) C S kc ks (b_167_0 R) := by
  intro l0 hp q h
  unfold b_167_0 at h
  refine mjr_aload_n (x := l0) D_167_0 rfl ?_
  refine mjq_gI D_167_1 fr_9_50 h (fun v1 h => ?_)
  exact mjq_ret D_167_4 rfl h1 h2 h
noncomputable def f_167 (R : mjR) (a0 : Nat) (hp : mjH) : mjU := b_167_0 R a0 hp
theorem c_167 {R : mjR} {d : Nat} (hR : mjC R d) {a0 : Nat} {hp : mjH} {q : Option Value × mjH} (h : f_167 R a0 hp = some q) : mjM (d + 1) 0 0 167 [.ref a0] hp (mjEq q) :=
  mjM_of Ja_167 (Nat.le_of_ble_eq_true rfl) (mjG.fg (lo' := [some (.ref a0)]) (And.intro rfl True.intro) ((t_167_0 hR (Nat.le_refl 0) (Nat.le_refl 0)) a0 hp q h))
def J_169 : mjI := (⟨"OwnerHeap$Tokens", "need", "(I)V"⟩, 9, prog_11_method_24_code, 2, none, 1, false)
theorem Ja_169 : mjMt 169 = some J_169 := by rfl
theorem D_169_0 : decode J_169.2.2.1 0 = .ok (.aload_n 0, 1) := by decide +kernel
theorem D_169_1 : decode J_169.2.2.1 1 = .ok (.getfield 15, 3) := by decide +kernel
theorem D_169_4 : decode J_169.2.2.1 4 = .ok (.aload_n 0, 1) := by decide +kernel
theorem D_169_5 : decode J_169.2.2.1 5 = .ok (.getfield 50, 3) := by decide +kernel
theorem D_169_8 : decode J_169.2.2.1 8 = .ok (.iaload, 1) := by decide +kernel
theorem D_169_9 : decode J_169.2.2.1 9 = .ok (.iload_n 1, 1) := by decide +kernel
theorem D_169_10 : decode J_169.2.2.1 10 = .ok (.if_icmp .ne 20, 3) := by decide +kernel
theorem D_169_13 : decode J_169.2.2.1 13 = .ok (.iload_n 1, 1) := by decide +kernel
theorem D_169_14 : decode J_169.2.2.1 14 = .ok (.ifCond .eq 16, 3) := by decide +kernel
theorem D_169_17 : decode J_169.2.2.1 17 = .ok (.aload_n 0, 1) := by decide +kernel
theorem D_169_18 : decode J_169.2.2.1 18 = .ok (.dup, 1) := by decide +kernel
theorem D_169_19 : decode J_169.2.2.1 19 = .ok (.getfield 50, 3) := by decide +kernel
theorem D_169_22 : decode J_169.2.2.1 22 = .ok (.iconst 1, 1) := by decide +kernel
theorem D_169_23 : decode J_169.2.2.1 23 = .ok (.iadd, 1) := by decide +kernel
theorem D_169_24 : decode J_169.2.2.1 24 = .ok (.putfield 50, 3) := by decide +kernel
theorem D_169_27 : decode J_169.2.2.1 27 = .ok (.goto 8, 3) := by decide +kernel
theorem D_169_30 : decode J_169.2.2.1 30 = .ok (.aload_n 0, 1) := by decide +kernel
theorem D_169_31 : decode J_169.2.2.1 31 = .ok (.iconst 2, 1) := by decide +kernel
theorem D_169_32 : decode J_169.2.2.1 32 = .ok (.invokevirtual 98, 3) := by decide +kernel
theorem D_169_35 : decode J_169.2.2.1 35 = .ok (.return_, 1) := by decide +kernel
def P_169_30 (X : mjX) (d C S kc ks : Nat) (k : Nat → mjH → mjU) : Prop := ∀ (l0 : Nat) (hp : mjH) (q : Option Value × mjH), k l0 hp = some q → mjG X d C S J_169 (mjEq q) 30 [some (.ref l0), none] [] hp kc ks
def P_169_0 (X : mjX) (d C S kc ks : Nat) (k : Nat → Int32 → mjH → mjU) : Prop := ∀ (l0 : Nat) (l1 : Int32) (hp : mjH) (q : Option Value × mjH), k l0 l1 hp = some q → mjG X d C S J_169 (mjEq q) 0 [some (.ref l0), some (.int l1)] [] hp kc ks
noncomputable def b_169_30 (R : mjR) (l0 : Nat) (hp : mjH) : mjU := rV hp l0 9 (bN (R 165 [.ref l0, .int (2 : Int32)] hp) (fun  hp1 => some (none, hp1)))
theorem t_169_30 {X : mjX} {d C S kc ks : Nat} {R : mjR} (hR : mjC R d) (h1 : kc ≤ C) (h2 : ks ≤ S) : P_169_30 X (d + 1) C S kc ks (b_169_30 R) := by
  intro l0 hp q h
  unfold b_169_30 at h
  refine mjr_aload_n (x := l0) D_169_30 rfl ?_
  refine mjq_ic (v := (2 : Int32)) D_169_31 rfl ?_
  refine mjq_vN (As := [.int (2 : Int32)]) (rest := []) D_169_32 mr_9_98 V_165 rfl rfl rfl hR (Nat.le_refl _) h1 h2 h (fun  hp1 h => ?_)
  exact mjq_nret D_169_35 rfl h1 h2 h
noncomputable def b_169_0 (R : mjR) (l0 : Nat) (l1 : Int32) (hp : mjH) : mjU := gR hp l0 9 1 (fun v1 => gI hp l0 9 6 (fun v2 => aI hp v1 v2 (fun v3 => (if v3 = l1 then (if l1 = 0 then b_169_30 R l0 hp else gI hp l0 9 6 (fun v4 => pI hp l0 9 6 (v4 + (1 : Int32)) (fun hp5 => some (none, hp5)))) else b_169_30 R l0 hp))))
theorem t_169_0 {X : mjX} {d C S kc ks : Nat} {R : mjR} (hR : mjC R d) (h1 : kc ≤ C) (h2 : ks ≤ S) : P_169_0 X (d + 1) C S kc ks (b_169_0 R) := by
  intro l0 l1 hp q h
  unfold b_169_0 at h
  refine mjr_aload_n (x := l0) D_169_0 rfl ?_
  refine mjq_gR D_169_1 fr_9_15 h (fun v1 h => ?_)
  refine mjr_aload_n (x := l0) D_169_4 rfl ?_
  refine mjq_gI D_169_5 fr_9_50 h (fun v2 h => ?_)
  refine mjq_aI D_169_8 h (fun v3 h => ?_)
  refine mjr_iload_n (x := l1) D_169_9 rfl ?_
  refine mjq_icmp_ne (tgt := 30) D_169_10 rfl h (fun h => ?_) (fun h => ?_)
  · exact mjG.fg (lo' := [some (.ref l0), none]) (And.intro rfl True.intro) ((t_169_30 hR h1 h2) _ _ _ h)
  · refine mjr_iload_n (x := l1) D_169_13 rfl ?_
    refine mjq_if_eq (tgt := 30) D_169_14 rfl h (fun h => ?_) (fun h => ?_)
    · exact mjG.fg (lo' := [some (.ref l0), none]) (And.intro rfl True.intro) ((t_169_30 hR h1 h2) _ _ _ h)
    · refine mjr_aload_n (x := l0) D_169_17 rfl ?_
      refine mjr_dup D_169_18 rfl ?_
      refine mjq_gI D_169_19 fr_9_50 h (fun v4 h => ?_)
      refine mjq_ic (v := (1 : Int32)) D_169_22 rfl ?_
      refine mjr_iadd D_169_23 ?_
      refine mjq_pI D_169_24 fr_9_50 rfl rfl h (fun hp5 h => ?_)
      refine mjr_goto (tgt := 35) D_169_27 rfl ?_
      exact mjq_nret D_169_35 rfl h1 h2 h
noncomputable def f_169 (R : mjR) (a0 : Nat) (a1 : Int32) (hp : mjH) : mjU := b_169_0 R a0 a1 hp
theorem c_169 {R : mjR} {d : Nat} (hR : mjC R d) {a0 : Nat} {a1 : Int32} {hp : mjH} {q : Option Value × mjH} (h : f_169 R a0 a1 hp = some q) : mjM (d + 1) 0 0 169 [.ref a0, .int a1] hp (mjEq q) :=
  mjM_of Ja_169 (Nat.le_of_ble_eq_true rfl) (mjG.fg (lo' := [some (.ref a0), some (.int a1)]) (And.intro rfl (And.intro rfl True.intro)) ((t_169_0 hR (Nat.le_refl 0) (Nat.le_refl 0)) a0 a1 hp q h))
def J_171 : mjI := (⟨"OwnerHeap$Tokens", "size", "()I"⟩, 9, prog_11_method_13_code, 1, (some .int), 0, false)
theorem Ja_171 : mjMt 171 = some J_171 := by rfl
theorem D_171_0 : decode J_171.2.2.1 0 = .ok (.aload_n 0, 1) := by decide +kernel
theorem D_171_1 : decode J_171.2.2.1 1 = .ok (.getfield 46, 3) := by decide +kernel
theorem D_171_4 : decode J_171.2.2.1 4 = .ok (.ireturn, 1) := by decide +kernel
def P_171_0 (X : mjX) (d C S kc ks : Nat) (k : Nat → mjH → mjU) : Prop := ∀ (l0 : Nat) (hp : mjH) (q : Option Value × mjH), k l0 hp = some q → mjG X d C S J_171 (mjEq q) 0 [some (.ref l0)] [] hp kc ks
noncomputable def b_171_0 (R : mjR) (l0 : Nat) (hp : mjH) : mjU := gI hp l0 9 5 (fun v1 => some (some (.int v1), hp))
theorem t_171_0 {X : mjX} {d C S kc ks : Nat} {R : mjR} (hR : mjC R d) (h1 : kc ≤ C) (h2 : ks ≤ S) : P_171_0 X (d + 1) C S kc ks (b_171_0 R) := by
  intro l0 hp q h
  unfold b_171_0 at h
  refine mjr_aload_n (x := l0) D_171_0 rfl ?_
  refine mjq_gI D_171_1 fr_9_46 h (fun v1 h => ?_)
  exact mjq_ret D_171_4 rfl h1 h2 h
noncomputable def f_171 (R : mjR) (a0 : Nat) (hp : mjH) : mjU := b_171_0 R a0 hp
theorem c_171 {R : mjR} {d : Nat} (hR : mjC R d) {a0 : Nat} {hp : mjH} {q : Option Value × mjH} (h : f_171 R a0 hp = some q) : mjM (d + 1) 0 0 171 [.ref a0] hp (mjEq q) :=
  mjM_of Ja_171 (Nat.le_of_ble_eq_true rfl) (mjG.fg (lo' := [some (.ref a0)]) (And.intro rfl True.intro) ((t_171_0 hR (Nat.le_refl 0) (Nat.le_refl 0)) a0 hp q h))
def J_172 : mjI := (⟨"OwnerHeap$Tokens", "isFine", "()Z"⟩, 9, prog_11_method_28_code, 1, (some .boolean), 0, false)
theorem Ja_172 : mjMt 172 = some J_172 := by rfl
theorem D_172_0 : decode J_172.2.2.1 0 = .ok (.aload_n 0, 1) := by decide +kernel
theorem D_172_1 : decode J_172.2.2.1 1 = .ok (.getfield 53, 3) := by decide +kernel
theorem D_172_4 : decode J_172.2.2.1 4 = .ok (.ifCond .ne 7, 3) := by decide +kernel
theorem D_172_7 : decode J_172.2.2.1 7 = .ok (.iconst 1, 1) := by decide +kernel
theorem D_172_8 : decode J_172.2.2.1 8 = .ok (.goto 4, 3) := by decide +kernel
theorem D_172_11 : decode J_172.2.2.1 11 = .ok (.iconst 0, 1) := by decide +kernel
theorem D_172_12 : decode J_172.2.2.1 12 = .ok (.ireturn, 1) := by decide +kernel
def P_172_0 (X : mjX) (d C S kc ks : Nat) (k : Nat → mjH → mjU) : Prop := ∀ (l0 : Nat) (hp : mjH) (q : Option Value × mjH), k l0 hp = some q → mjG X d C S J_172 (mjEq q) 0 [some (.ref l0)] [] hp kc ks
noncomputable def b_172_0 (R : mjR) (l0 : Nat) (hp : mjH) : mjU := gI hp l0 9 7 (fun v1 => (if v1 = 0 then some (some (.int (1 : Int32)), hp) else some (some (.int (0 : Int32)), hp)))
theorem t_172_0 {X : mjX} {d C S kc ks : Nat} {R : mjR} (hR : mjC R d) (h1 : kc ≤ C) (h2 : ks ≤ S) : P_172_0 X (d + 1) C S kc ks (b_172_0 R) := by
  intro l0 hp q h
  unfold b_172_0 at h
  refine mjr_aload_n (x := l0) D_172_0 rfl ?_
  refine mjq_gI D_172_1 fr_9_53 h (fun v1 h => ?_)
  refine mjq_if_ne (tgt := 11) D_172_4 rfl h (fun h => ?_) (fun h => ?_)
  · refine mjq_ic (v := (0 : Int32)) D_172_11 rfl ?_
    exact mjr_ireturn D_172_12 rfl rfl h1 h2 (Option.some.inj h)
  · refine mjq_ic (v := (1 : Int32)) D_172_7 rfl ?_
    refine mjr_goto (tgt := 12) D_172_8 rfl ?_
    exact mjr_ireturn D_172_12 rfl rfl h1 h2 (Option.some.inj h)
noncomputable def f_172 (R : mjR) (a0 : Nat) (hp : mjH) : mjU := b_172_0 R a0 hp
theorem c_172 {R : mjR} {d : Nat} (hR : mjC R d) {a0 : Nat} {hp : mjH} {q : Option Value × mjH} (h : f_172 R a0 hp = some q) : mjM (d + 1) 0 0 172 [.ref a0] hp (mjEq q) :=
  mjM_of Ja_172 (Nat.le_of_ble_eq_true rfl) (mjG.fg (lo' := [some (.ref a0)]) (And.intro rfl True.intro) ((t_172_0 hR (Nat.le_refl 0) (Nat.le_refl 0)) a0 hp q h))
def J_183 : mjI := (⟨"OwnerHeap$Walker", "forget", "()V"⟩, 10, prog_12_method_3_code, 1, none, 0, false)
theorem Ja_183 : mjMt 183 = some J_183 := by rfl
theorem D_183_0 : decode J_183.2.2.1 0 = .ok (.aload_n 0, 1) := by decide +kernel
theorem D_183_1 : decode J_183.2.2.1 1 = .ok (.iconst 0, 1) := by decide +kernel
theorem D_183_2 : decode J_183.2.2.1 2 = .ok (.putfield 37, 3) := by decide +kernel
theorem D_183_5 : decode J_183.2.2.1 5 = .ok (.return_, 1) := by decide +kernel
def P_183_0 (X : mjX) (d C S kc ks : Nat) (k : Nat → mjH → mjU) : Prop := ∀ (l0 : Nat) (hp : mjH) (q : Option Value × mjH), k l0 hp = some q → mjG X d C S J_183 (mjEq q) 0 [some (.ref l0)] [] hp kc ks
noncomputable def b_183_0 (R : mjR) (l0 : Nat) (hp : mjH) : mjU := pZ hp l0 10 5 (0 : Int32) (fun hp1 => some (none, hp1))
theorem t_183_0 {X : mjX} {d C S kc ks : Nat} {R : mjR} (hR : mjC R d) (h1 : kc ≤ C) (h2 : ks ≤ S) : P_183_0 X (d + 1) C S kc ks (b_183_0 R) := by
  intro l0 hp q h
  unfold b_183_0 at h
  refine mjr_aload_n (x := l0) D_183_0 rfl ?_
  refine mjq_ic (v := (0 : Int32)) D_183_1 rfl ?_
  refine mjq_pZ D_183_2 fr_10_37 rfl rfl h (fun hp1 h => ?_)
  exact mjq_nret D_183_5 rfl h1 h2 h
noncomputable def f_183 (R : mjR) (a0 : Nat) (hp : mjH) : mjU := b_183_0 R a0 hp
theorem c_183 {R : mjR} {d : Nat} (hR : mjC R d) {a0 : Nat} {hp : mjH} {q : Option Value × mjH} (h : f_183 R a0 hp = some q) : mjM (d + 1) 0 0 183 [.ref a0] hp (mjEq q) :=
  mjM_of Ja_183 (Nat.le_of_ble_eq_true rfl) (mjG.fg (lo' := [some (.ref a0)]) (And.intro rfl True.intro) ((t_183_0 hR (Nat.le_refl 0) (Nat.le_refl 0)) a0 hp q h))
def J_186 : mjI := (⟨"OwnerHeap$Walker", "spread", "(II)V"⟩, 10, prog_12_method_4_code, 4, none, 2, false)
theorem Ja_186 : mjMt 186 = some J_186 := by rfl
theorem D_186_0 : decode J_186.2.2.1 0 = .ok (.aload_n 0, 1) := by decide +kernel
theorem D_186_1 : decode J_186.2.2.1 1 = .ok (.iconst 0, 1) := by decide +kernel
theorem D_186_2 : decode J_186.2.2.1 2 = .ok (.putfield 41, 3) := by decide +kernel
theorem D_186_5 : decode J_186.2.2.1 5 = .ok (.aload_n 0, 1) := by decide +kernel
theorem D_186_6 : decode J_186.2.2.1 6 = .ok (.getfield 25, 3) := by decide +kernel
theorem D_186_9 : decode J_186.2.2.1 9 = .ok (.iconst 0, 1) := by decide +kernel
theorem D_186_10 : decode J_186.2.2.1 10 = .ok (.aload_n 0, 1) := by decide +kernel
theorem D_186_11 : decode J_186.2.2.1 11 = .ok (.getfield 9, 3) := by decide +kernel
theorem D_186_14 : decode J_186.2.2.1 14 = .ok (.getfield 45, 3) := by decide +kernel
theorem D_186_17 : decode J_186.2.2.1 17 = .ok (.iconst 1, 1) := by decide +kernel
theorem D_186_18 : decode J_186.2.2.1 18 = .ok (.iadd, 1) := by decide +kernel
theorem D_186_19 : decode J_186.2.2.1 19 = .ok (.iconst (-1), 1) := by decide +kernel
theorem D_186_20 : decode J_186.2.2.1 20 = .ok (.invokestatic 48, 3) := by decide +kernel
theorem D_186_23 : decode J_186.2.2.1 23 = .ok (.iload_n 1, 1) := by decide +kernel
theorem D_186_24 : decode J_186.2.2.1 24 = .ok (.ifCond .eq 9, 3) := by decide +kernel
theorem D_186_27 : decode J_186.2.2.1 27 = .ok (.aload_n 0, 1) := by decide +kernel
theorem D_186_28 : decode J_186.2.2.1 28 = .ok (.iload_n 1, 1) := by decide +kernel
theorem D_186_29 : decode J_186.2.2.1 29 = .ok (.iconst 0, 1) := by decide +kernel
theorem D_186_30 : decode J_186.2.2.1 30 = .ok (.invokevirtual 54, 3) := by decide +kernel
theorem D_186_33 : decode J_186.2.2.1 33 = .ok (.iconst 1, 1) := by decide +kernel
theorem D_186_34 : decode J_186.2.2.1 34 = .ok (.istore_n 3, 1) := by decide +kernel
theorem D_186_35 : decode J_186.2.2.1 35 = .ok (.iload_n 3, 1) := by decide +kernel
theorem D_186_36 : decode J_186.2.2.1 36 = .ok (.aload_n 0, 1) := by decide +kernel
theorem D_186_37 : decode J_186.2.2.1 37 = .ok (.getfield 9, 3) := by decide +kernel
theorem D_186_40 : decode J_186.2.2.1 40 = .ok (.getfield 45, 3) := by decide +kernel
theorem D_186_43 : decode J_186.2.2.1 43 = .ok (.if_icmp .gt 36, 3) := by decide +kernel
theorem D_186_46 : decode J_186.2.2.1 46 = .ok (.iload_n 1, 1) := by decide +kernel
theorem D_186_47 : decode J_186.2.2.1 47 = .ok (.ifCond .ne 32, 3) := by decide +kernel
theorem D_186_50 : decode J_186.2.2.1 50 = .ok (.aload_n 0, 1) := by decide +kernel
theorem D_186_51 : decode J_186.2.2.1 51 = .ok (.getfield 9, 3) := by decide +kernel
theorem D_186_54 : decode J_186.2.2.1 54 = .ok (.iload_n 3, 1) := by decide +kernel
theorem D_186_55 : decode J_186.2.2.1 55 = .ok (.iconst 0, 1) := by decide +kernel
theorem D_186_56 : decode J_186.2.2.1 56 = .ok (.invokevirtual 58, 3) := by decide +kernel
theorem D_186_59 : decode J_186.2.2.1 59 = .ok (.ifCond .ne 14, 3) := by decide +kernel
theorem D_186_62 : decode J_186.2.2.1 62 = .ok (.iload_n 3, 1) := by decide +kernel
theorem D_186_63 : decode J_186.2.2.1 63 = .ok (.iload_n 2, 1) := by decide +kernel
theorem D_186_64 : decode J_186.2.2.1 64 = .ok (.if_icmp .eq 9, 3) := by decide +kernel
theorem D_186_67 : decode J_186.2.2.1 67 = .ok (.aload_n 0, 1) := by decide +kernel
theorem D_186_68 : decode J_186.2.2.1 68 = .ok (.iload_n 3, 1) := by decide +kernel
theorem D_186_69 : decode J_186.2.2.1 69 = .ok (.iconst 0, 1) := by decide +kernel
theorem D_186_70 : decode J_186.2.2.1 70 = .ok (.invokevirtual 54, 3) := by decide +kernel
theorem D_186_73 : decode J_186.2.2.1 73 = .ok (.iinc 3 1, 3) := by decide +kernel
theorem D_186_76 : decode J_186.2.2.1 76 = .ok (.goto (-41), 3) := by decide +kernel
theorem D_186_79 : decode J_186.2.2.1 79 = .ok (.iconst 0, 1) := by decide +kernel
theorem D_186_80 : decode J_186.2.2.1 80 = .ok (.istore_n 3, 1) := by decide +kernel
theorem D_186_81 : decode J_186.2.2.1 81 = .ok (.iload_n 3, 1) := by decide +kernel
theorem D_186_82 : decode J_186.2.2.1 82 = .ok (.aload_n 0, 1) := by decide +kernel
theorem D_186_83 : decode J_186.2.2.1 83 = .ok (.getfield 9, 3) := by decide +kernel
theorem D_186_86 : decode J_186.2.2.1 86 = .ok (.getfield 45, 3) := by decide +kernel
theorem D_186_89 : decode J_186.2.2.1 89 = .ok (.if_icmp .ge 28, 3) := by decide +kernel
theorem D_186_92 : decode J_186.2.2.1 92 = .ok (.iload_n 3, 1) := by decide +kernel
theorem D_186_93 : decode J_186.2.2.1 93 = .ok (.aload_n 0, 1) := by decide +kernel
theorem D_186_94 : decode J_186.2.2.1 94 = .ok (.getfield 41, 3) := by decide +kernel
theorem D_186_97 : decode J_186.2.2.1 97 = .ok (.if_icmp .ge 20, 3) := by decide +kernel
theorem D_186_100 : decode J_186.2.2.1 100 = .ok (.aload_n 0, 1) := by decide +kernel
theorem D_186_101 : decode J_186.2.2.1 101 = .ok (.aload_n 0, 1) := by decide +kernel
theorem D_186_102 : decode J_186.2.2.1 102 = .ok (.getfield 21, 3) := by decide +kernel
theorem D_186_105 : decode J_186.2.2.1 105 = .ok (.iload_n 3, 1) := by decide +kernel
theorem D_186_106 : decode J_186.2.2.1 106 = .ok (.iaload, 1) := by decide +kernel
theorem D_186_107 : decode J_186.2.2.1 107 = .ok (.iload_n 2, 1) := by decide +kernel
theorem D_186_108 : decode J_186.2.2.1 108 = .ok (.invokevirtual 62, 3) := by decide +kernel
theorem D_186_111 : decode J_186.2.2.1 111 = .ok (.iinc 3 1, 3) := by decide +kernel
theorem D_186_114 : decode J_186.2.2.1 114 = .ok (.goto (-33), 3) := by decide +kernel
theorem D_186_117 : decode J_186.2.2.1 117 = .ok (.return_, 1) := by decide +kernel
def P_186_81 (X : mjX) (d C S kc ks : Nat) (k : Nat → Int32 → Int32 → mjH → mjU) : Prop := ∀ (l0 : Nat) (l2 : Int32) (l3 : Int32) (hp : mjH) (q : Option Value × mjH), k l0 l2 l3 hp = some q → mjG X d C S J_186 (mjEq q) 81 [some (.ref l0), none, some (.int l2), some (.int l3)] [] hp kc ks
def P_186_79 (X : mjX) (d C S kc ks : Nat) (k : Nat → Int32 → mjH → mjU) : Prop := ∀ (l0 : Nat) (l2 : Int32) (hp : mjH) (q : Option Value × mjH), k l0 l2 hp = some q → mjG X d C S J_186 (mjEq q) 79 [some (.ref l0), none, some (.int l2), none] [] hp kc ks
def P_186_73 (X : mjX) (d C S kc ks : Nat) (k : Nat → Int32 → Int32 → Int32 → mjH → mjU) : Prop := ∀ (l0 : Nat) (l1 : Int32) (l2 : Int32) (l3 : Int32) (hp : mjH) (q : Option Value × mjH), k l0 l1 l2 l3 hp = some q → mjG X d C S J_186 (mjEq q) 73 [some (.ref l0), some (.int l1), some (.int l2), some (.int l3)] [] hp kc ks
def P_186_35 (X : mjX) (d C S kc ks : Nat) (k : Nat → Int32 → Int32 → Int32 → mjH → mjU) : Prop := ∀ (l0 : Nat) (l1 : Int32) (l2 : Int32) (l3 : Int32) (hp : mjH) (q : Option Value × mjH), k l0 l1 l2 l3 hp = some q → mjG X d C S J_186 (mjEq q) 35 [some (.ref l0), some (.int l1), some (.int l2), some (.int l3)] [] hp kc ks
def P_186_33 (X : mjX) (d C S kc ks : Nat) (k : Nat → Int32 → Int32 → mjH → mjU) : Prop := ∀ (l0 : Nat) (l1 : Int32) (l2 : Int32) (hp : mjH) (q : Option Value × mjH), k l0 l1 l2 hp = some q → mjG X d C S J_186 (mjEq q) 33 [some (.ref l0), some (.int l1), some (.int l2), none] [] hp kc ks
def P_186_0 (X : mjX) (d C S kc ks : Nat) (k : Nat → Int32 → Int32 → mjH → mjU) : Prop := ∀ (l0 : Nat) (l1 : Int32) (l2 : Int32) (hp : mjH) (q : Option Value × mjH), k l0 l1 l2 hp = some q → mjG X d C S J_186 (mjEq q) 0 [some (.ref l0), some (.int l1), some (.int l2), none] [] hp kc ks
noncomputable def b_186_81 (R : mjR) (k81 : Nat → Int32 → Int32 → mjH → mjU) (l0 : Nat) (l2 : Int32) (l3 : Int32) (hp : mjH) : mjU := gR hp l0 10 0 (fun v1 => gI hp v1 3 2 (fun v2 => (if v2 ≤ l3 then some (none, hp) else gI hp l0 10 3 (fun v3 => (if v3 ≤ l3 then some (none, hp) else gR hp l0 10 2 (fun v4 => aI hp v4 l3 (fun v5 => rV hp l0 10 (bN (R 188 [.ref l0, .int v5, .int l2] hp) (fun  hp6 => k81 l0 l2 (l3 + (1 : Int32)) hp6)))))))))
theorem t_186_81 {X : mjX} {d C S kc ks : Nat} {R : mjR} (hR : mjC R d) (h1 : kc ≤ C) (h2 : ks ≤ S) {k81 : Nat → Int32 → Int32 → mjH → mjU} (hk81 : P_186_81 X (d + 1) C S kc ks k81) : P_186_81 X (d + 1) C S kc ks (b_186_81 R k81) := by
  intro l0 l2 l3 hp q h
  unfold b_186_81 at h
  refine mjr_iload_n (x := l3) D_186_81 rfl ?_
  refine mjr_aload_n (x := l0) D_186_82 rfl ?_
  refine mjq_gR D_186_83 fr_10_9 h (fun v1 h => ?_)
  refine mjq_gI D_186_86 fr_10_45 h (fun v2 h => ?_)
  refine mjq_icmp_ge (tgt := 117) D_186_89 rfl h (fun h => ?_) (fun h => ?_)
  · exact mjq_nret D_186_117 rfl h1 h2 h
  · refine mjr_iload_n (x := l3) D_186_92 rfl ?_
    refine mjr_aload_n (x := l0) D_186_93 rfl ?_
    refine mjq_gI D_186_94 fr_10_41 h (fun v3 h => ?_)
    refine mjq_icmp_ge (tgt := 117) D_186_97 rfl h (fun h => ?_) (fun h => ?_)
    · exact mjq_nret D_186_117 rfl h1 h2 h
    · refine mjr_aload_n (x := l0) D_186_100 rfl ?_
      refine mjr_aload_n (x := l0) D_186_101 rfl ?_
      refine mjq_gR D_186_102 fr_10_21 h (fun v4 h => ?_)
      refine mjr_iload_n (x := l3) D_186_105 rfl ?_
      refine mjq_aI D_186_106 h (fun v5 h => ?_)
      refine mjr_iload_n (x := l2) D_186_107 rfl ?_
      refine mjq_vN (As := [.int v5, .int l2]) (rest := []) D_186_108 mr_10_62 V_188 rfl rfl rfl hR (Nat.le_refl _) h1 h2 h (fun  hp6 h => ?_)
      refine mjq_iinc (x := l3) (c := (1 : Int32)) (lo' := [some (.ref l0), none, some (.int l2), some (.int (l3 + (1 : Int32)))]) D_186_111 rfl (Nat.le_of_ble_eq_true rfl) rfl rfl ?_
      refine mjr_goto (tgt := 81) D_186_114 rfl ?_
      exact hk81 _ _ _ _ _ h
noncomputable def L_186_81 (R : mjR) (n : Nat) : Nat → Int32 → Int32 → mjH → mjU := Nat.rec (motive := fun _ => Nat → Int32 → Int32 → mjH → mjU) (fun _ _ _ _ => none) (fun _ self => b_186_81 R self) n
theorem T_186_81 {X : mjX} {d C S kc ks : Nat} {R : mjR} (hR : mjC R d) (h1 : kc ≤ C) (h2 : ks ≤ S) (n : Nat) : P_186_81 X (d + 1) C S kc ks (L_186_81 R n) := by
  induction n with
  | zero => intro _ _ _ _ _ h; exact mj_no h
  | succ n ih => exact t_186_81 hR h1 h2 ih
noncomputable def b_186_79 (R : mjR) (l0 : Nat) (l2 : Int32) (hp : mjH) : mjU := L_186_81 R mjN l0 l2 (0 : Int32) hp
theorem t_186_79 {X : mjX} {d C S kc ks : Nat} {R : mjR} (hR : mjC R d) (h1 : kc ≤ C) (h2 : ks ≤ S) : P_186_79 X (d + 1) C S kc ks (b_186_79 R) := by
  intro l0 l2 hp q h
  unfold b_186_79 at h
  refine mjq_ic (v := (0 : Int32)) D_186_79 rfl ?_
  refine mjq_istore_n (lo' := [some (.ref l0), none, some (.int l2), some (.int (0 : Int32))]) D_186_80 (Nat.le_of_ble_eq_true rfl) rfl ?_
  exact (T_186_81 hR h1 h2 mjN) _ _ _ _ _ h
noncomputable def b_186_73 (R : mjR) (k35 : Nat → Int32 → Int32 → Int32 → mjH → mjU) (l0 : Nat) (l1 : Int32) (l2 : Int32) (l3 : Int32) (hp : mjH) : mjU := k35 l0 l1 l2 (l3 + (1 : Int32)) hp
theorem t_186_73 {X : mjX} {d C S kc ks : Nat} {R : mjR} (hR : mjC R d) (h1 : kc ≤ C) (h2 : ks ≤ S) {k35 : Nat → Int32 → Int32 → Int32 → mjH → mjU} (hk35 : P_186_35 X (d + 1) C S kc ks k35) : P_186_73 X (d + 1) C S kc ks (b_186_73 R k35) := by
  intro l0 l1 l2 l3 hp q h
  unfold b_186_73 at h
  refine mjq_iinc (x := l3) (c := (1 : Int32)) (lo' := [some (.ref l0), some (.int l1), some (.int l2), some (.int (l3 + (1 : Int32)))]) D_186_73 rfl (Nat.le_of_ble_eq_true rfl) rfl rfl ?_
  refine mjr_goto (tgt := 35) D_186_76 rfl ?_
  exact hk35 _ _ _ _ _ _ h
noncomputable def b_186_35 (R : mjR) (k35 : Nat → Int32 → Int32 → Int32 → mjH → mjU) (l0 : Nat) (l1 : Int32) (l2 : Int32) (l3 : Int32) (hp : mjH) : mjU := gR hp l0 10 0 (fun v1 => gI hp v1 3 2 (fun v2 => (if v2 < l3 then b_186_79 R l0 l2 hp else (if l1 = 0 then gR hp l0 10 0 (fun v3 => rV hp v3 3 (bI (R 49 [.ref v3, .int l3, .int (0 : Int32)] hp) (fun v4 hp5 => (if v4 = 0 then (if l3 = l2 then b_186_73 R k35 l0 l1 l2 l3 hp5 else rV hp5 l0 10 (bN (R 187 [.ref l0, .int l3, .int (0 : Int32)] hp5) (fun  hp6 => b_186_73 R k35 l0 l1 l2 l3 hp6))) else b_186_73 R k35 l0 l1 l2 l3 hp5)))) else b_186_79 R l0 l2 hp))))
theorem t_186_35 {X : mjX} {d C S kc ks : Nat} {R : mjR} (hR : mjC R d) (h1 : kc ≤ C) (h2 : ks ≤ S) {k35 : Nat → Int32 → Int32 → Int32 → mjH → mjU} (hk35 : P_186_35 X (d + 1) C S kc ks k35) : P_186_35 X (d + 1) C S kc ks (b_186_35 R k35) := by
  intro l0 l1 l2 l3 hp q h
  unfold b_186_35 at h
  refine mjr_iload_n (x := l3) D_186_35 rfl ?_
  refine mjr_aload_n (x := l0) D_186_36 rfl ?_
  refine mjq_gR D_186_37 fr_10_9 h (fun v1 h => ?_)
  refine mjq_gI D_186_40 fr_10_45 h (fun v2 h => ?_)
  refine mjq_icmp_gt (tgt := 79) D_186_43 rfl h (fun h => ?_) (fun h => ?_)
  · exact mjG.fg (lo' := [some (.ref l0), none, some (.int l2), none]) (And.intro rfl (And.intro rfl True.intro)) ((t_186_79 hR h1 h2) _ _ _ _ h)
  · refine mjr_iload_n (x := l1) D_186_46 rfl ?_
    refine mjq_if_ne (tgt := 79) D_186_47 rfl h (fun h => ?_) (fun h => ?_)
    · exact mjG.fg (lo' := [some (.ref l0), none, some (.int l2), none]) (And.intro rfl (And.intro rfl True.intro)) ((t_186_79 hR h1 h2) _ _ _ _ h)
    · refine mjr_aload_n (x := l0) D_186_50 rfl ?_
      refine mjq_gR D_186_51 fr_10_9 h (fun v3 h => ?_)
      refine mjr_iload_n (x := l3) D_186_54 rfl ?_
      refine mjq_ic (v := (0 : Int32)) D_186_55 rfl ?_
      refine mjq_vI (As := [.int l3, .int (0 : Int32)]) (rest := []) D_186_56 mr_10_58 V_49 rfl rfl rfl hR (Nat.le_refl _) h1 h2 h (fun v4 hp5 h => ?_)
      refine mjq_if_ne (tgt := 73) D_186_59 rfl h (fun h => ?_) (fun h => ?_)
      · exact (t_186_73 hR h1 h2 hk35) _ _ _ _ _ _ h
      · refine mjr_iload_n (x := l3) D_186_62 rfl ?_
        refine mjr_iload_n (x := l2) D_186_63 rfl ?_
        refine mjq_icmp_eq (tgt := 73) D_186_64 rfl h (fun h => ?_) (fun h => ?_)
        · exact (t_186_73 hR h1 h2 hk35) _ _ _ _ _ _ h
        · refine mjr_aload_n (x := l0) D_186_67 rfl ?_
          refine mjr_iload_n (x := l3) D_186_68 rfl ?_
          refine mjq_ic (v := (0 : Int32)) D_186_69 rfl ?_
          refine mjq_vN (As := [.int l3, .int (0 : Int32)]) (rest := []) D_186_70 mr_10_54 V_187 rfl rfl rfl hR (Nat.le_refl _) h1 h2 h (fun  hp6 h => ?_)
          exact (t_186_73 hR h1 h2 hk35) _ _ _ _ _ _ h
noncomputable def L_186_35 (R : mjR) (n : Nat) : Nat → Int32 → Int32 → Int32 → mjH → mjU := Nat.rec (motive := fun _ => Nat → Int32 → Int32 → Int32 → mjH → mjU) (fun _ _ _ _ _ => none) (fun _ self => b_186_35 R self) n
theorem T_186_35 {X : mjX} {d C S kc ks : Nat} {R : mjR} (hR : mjC R d) (h1 : kc ≤ C) (h2 : ks ≤ S) (n : Nat) : P_186_35 X (d + 1) C S kc ks (L_186_35 R n) := by
  induction n with
  | zero => intro _ _ _ _ _ _ h; exact mj_no h
  | succ n ih => exact t_186_35 hR h1 h2 ih
noncomputable def b_186_33 (R : mjR) (l0 : Nat) (l1 : Int32) (l2 : Int32) (hp : mjH) : mjU := L_186_35 R mjN l0 l1 l2 (1 : Int32) hp
theorem t_186_33 {X : mjX} {d C S kc ks : Nat} {R : mjR} (hR : mjC R d) (h1 : kc ≤ C) (h2 : ks ≤ S) : P_186_33 X (d + 1) C S kc ks (b_186_33 R) := by
  intro l0 l1 l2 hp q h
  unfold b_186_33 at h
  refine mjq_ic (v := (1 : Int32)) D_186_33 rfl ?_
  refine mjq_istore_n (lo' := [some (.ref l0), some (.int l1), some (.int l2), some (.int (1 : Int32))]) D_186_34 (Nat.le_of_ble_eq_true rfl) rfl ?_
  exact (T_186_35 hR h1 h2 mjN) _ _ _ _ _ _ h
noncomputable def b_186_0 (R : mjR) (l0 : Nat) (l1 : Int32) (l2 : Int32) (hp : mjH) : mjU := pI hp l0 10 3 (0 : Int32) (fun hp1 => gR hp1 l0 10 4 (fun v2 => gR hp1 l0 10 0 (fun v3 => gI hp1 v3 3 2 (fun v4 => bN (R 379 [.ref v2, .int (0 : Int32), .int (v4 + (1 : Int32)), .int (-1 : Int32)] hp1) (fun  hp5 => (if l1 = 0 then b_186_33 R l0 l1 l2 hp5 else rV hp5 l0 10 (bN (R 187 [.ref l0, .int l1, .int (0 : Int32)] hp5) (fun  hp6 => b_186_33 R l0 l1 l2 hp6))))))))
theorem t_186_0 {X : mjX} {d C S kc ks : Nat} {R : mjR} (hR : mjC R d) (h1 : kc ≤ C) (h2 : ks ≤ S) : P_186_0 X (d + 1) C S kc ks (b_186_0 R) := by
  intro l0 l1 l2 hp q h
  unfold b_186_0 at h
  refine mjr_aload_n (x := l0) D_186_0 rfl ?_
  refine mjq_ic (v := (0 : Int32)) D_186_1 rfl ?_
  refine mjq_pI D_186_2 fr_10_41 rfl rfl h (fun hp1 h => ?_)
  refine mjr_aload_n (x := l0) D_186_5 rfl ?_
  refine mjq_gR D_186_6 fr_10_25 h (fun v2 h => ?_)
  refine mjq_ic (v := (0 : Int32)) D_186_9 rfl ?_
  refine mjr_aload_n (x := l0) D_186_10 rfl ?_
  refine mjq_gR D_186_11 fr_10_9 h (fun v3 h => ?_)
  refine mjq_gI D_186_14 fr_10_45 h (fun v4 h => ?_)
  refine mjq_ic (v := (1 : Int32)) D_186_17 rfl ?_
  refine mjr_iadd D_186_18 ?_
  refine mjq_ic (v := (-1 : Int32)) D_186_19 rfl ?_
  refine mjq_scN (As := [.ref v2, .int (0 : Int32), .int (v4 + (1 : Int32)), .int (-1 : Int32)]) (rest := []) D_186_20 mr_10_48 V_379 rfl rfl rfl hR (Nat.le_refl _) h1 h2 h (fun  hp5 h => ?_)
  refine mjr_iload_n (x := l1) D_186_23 rfl ?_
  refine mjq_if_eq (tgt := 33) D_186_24 rfl h (fun h => ?_) (fun h => ?_)
  · exact (t_186_33 hR h1 h2) _ _ _ _ _ h
  · refine mjr_aload_n (x := l0) D_186_27 rfl ?_
    refine mjr_iload_n (x := l1) D_186_28 rfl ?_
    refine mjq_ic (v := (0 : Int32)) D_186_29 rfl ?_
    refine mjq_vN (As := [.int l1, .int (0 : Int32)]) (rest := []) D_186_30 mr_10_54 V_187 rfl rfl rfl hR (Nat.le_refl _) h1 h2 h (fun  hp6 h => ?_)
    exact (t_186_33 hR h1 h2) _ _ _ _ _ h
noncomputable def f_186 (R : mjR) (a0 : Nat) (a1 : Int32) (a2 : Int32) (hp : mjH) : mjU := b_186_0 R a0 a1 a2 hp
theorem c_186 {R : mjR} {d : Nat} (hR : mjC R d) {a0 : Nat} {a1 : Int32} {a2 : Int32} {hp : mjH} {q : Option Value × mjH} (h : f_186 R a0 a1 a2 hp = some q) : mjM (d + 1) 0 0 186 [.ref a0, .int a1, .int a2] hp (mjEq q) :=
  mjM_of Ja_186 (Nat.le_of_ble_eq_true rfl) (mjG.fg (lo' := [some (.ref a0), some (.int a1), some (.int a2), none]) (And.intro rfl (And.intro rfl (And.intro rfl True.intro))) ((t_186_0 hR (Nat.le_refl 0) (Nat.le_refl 0)) a0 a1 a2 hp q h))
def J_193 : mjI := (⟨"OwnerHeap$Walker", "learn", "()V"⟩, 10, prog_12_method_14_code, 2, none, 0, false)
theorem Ja_193 : mjMt 193 = some J_193 := by rfl
theorem D_193_0 : decode J_193.2.2.1 0 = .ok (.aload_n 0, 1) := by decide +kernel
theorem D_193_1 : decode J_193.2.2.1 1 = .ok (.getfield 37, 3) := by decide +kernel
theorem D_193_4 : decode J_193.2.2.1 4 = .ok (.ifCond .eq 4, 3) := by decide +kernel
theorem D_193_7 : decode J_193.2.2.1 7 = .ok (.return_, 1) := by decide +kernel
theorem D_193_8 : decode J_193.2.2.1 8 = .ok (.aload_n 0, 1) := by decide +kernel
theorem D_193_9 : decode J_193.2.2.1 9 = .ok (.iconst 1, 1) := by decide +kernel
theorem D_193_10 : decode J_193.2.2.1 10 = .ok (.putfield 37, 3) := by decide +kernel
theorem D_193_13 : decode J_193.2.2.1 13 = .ok (.aload_n 0, 1) := by decide +kernel
theorem D_193_14 : decode J_193.2.2.1 14 = .ok (.iconst 0, 1) := by decide +kernel
theorem D_193_15 : decode J_193.2.2.1 15 = .ok (.iconst 0, 1) := by decide +kernel
theorem D_193_16 : decode J_193.2.2.1 16 = .ok (.invokevirtual 87, 3) := by decide +kernel
theorem D_193_19 : decode J_193.2.2.1 19 = .ok (.aload_n 0, 1) := by decide +kernel
theorem D_193_20 : decode J_193.2.2.1 20 = .ok (.invokevirtual 99, 3) := by decide +kernel
theorem D_193_23 : decode J_193.2.2.1 23 = .ok (.aload_n 0, 1) := by decide +kernel
theorem D_193_24 : decode J_193.2.2.1 24 = .ok (.iconst 0, 1) := by decide +kernel
theorem D_193_25 : decode J_193.2.2.1 25 = .ok (.putfield 96, 3) := by decide +kernel
theorem D_193_28 : decode J_193.2.2.1 28 = .ok (.iconst 1, 1) := by decide +kernel
theorem D_193_29 : decode J_193.2.2.1 29 = .ok (.istore_n 1, 1) := by decide +kernel
theorem D_193_30 : decode J_193.2.2.1 30 = .ok (.iload_n 1, 1) := by decide +kernel
theorem D_193_31 : decode J_193.2.2.1 31 = .ok (.aload_n 0, 1) := by decide +kernel
theorem D_193_32 : decode J_193.2.2.1 32 = .ok (.getfield 9, 3) := by decide +kernel
theorem D_193_35 : decode J_193.2.2.1 35 = .ok (.getfield 45, 3) := by decide +kernel
theorem D_193_38 : decode J_193.2.2.1 38 = .ok (.if_icmp .gt 37, 3) := by decide +kernel
theorem D_193_41 : decode J_193.2.2.1 41 = .ok (.aload_n 0, 1) := by decide +kernel
theorem D_193_42 : decode J_193.2.2.1 42 = .ok (.iload_n 1, 1) := by decide +kernel
theorem D_193_43 : decode J_193.2.2.1 43 = .ok (.invokevirtual 102, 3) := by decide +kernel
theorem D_193_46 : decode J_193.2.2.1 46 = .ok (.ifCond .eq 23, 3) := by decide +kernel
theorem D_193_49 : decode J_193.2.2.1 49 = .ok (.aload_n 0, 1) := by decide +kernel
theorem D_193_50 : decode J_193.2.2.1 50 = .ok (.getfield 34, 3) := by decide +kernel
theorem D_193_53 : decode J_193.2.2.1 53 = .ok (.aload_n 0, 1) := by decide +kernel
theorem D_193_54 : decode J_193.2.2.1 54 = .ok (.getfield 96, 3) := by decide +kernel
theorem D_193_57 : decode J_193.2.2.1 57 = .ok (.iload_n 1, 1) := by decide +kernel
theorem D_193_58 : decode J_193.2.2.1 58 = .ok (.iastore, 1) := by decide +kernel
theorem D_193_59 : decode J_193.2.2.1 59 = .ok (.aload_n 0, 1) := by decide +kernel
theorem D_193_60 : decode J_193.2.2.1 60 = .ok (.dup, 1) := by decide +kernel
theorem D_193_61 : decode J_193.2.2.1 61 = .ok (.getfield 96, 3) := by decide +kernel
theorem D_193_64 : decode J_193.2.2.1 64 = .ok (.iconst 1, 1) := by decide +kernel
theorem D_193_65 : decode J_193.2.2.1 65 = .ok (.iadd, 1) := by decide +kernel
theorem D_193_66 : decode J_193.2.2.1 66 = .ok (.putfield 96, 3) := by decide +kernel
theorem D_193_69 : decode J_193.2.2.1 69 = .ok (.iinc 1 1, 3) := by decide +kernel
theorem D_193_72 : decode J_193.2.2.1 72 = .ok (.goto (-42), 3) := by decide +kernel
theorem D_193_75 : decode J_193.2.2.1 75 = .ok (.return_, 1) := by decide +kernel
def P_193_69 (X : mjX) (d C S kc ks : Nat) (k : Nat → Int32 → mjH → mjU) : Prop := ∀ (l0 : Nat) (l1 : Int32) (hp : mjH) (q : Option Value × mjH), k l0 l1 hp = some q → mjG X d C S J_193 (mjEq q) 69 [some (.ref l0), some (.int l1)] [] hp kc ks
def P_193_30 (X : mjX) (d C S kc ks : Nat) (k : Nat → Int32 → mjH → mjU) : Prop := ∀ (l0 : Nat) (l1 : Int32) (hp : mjH) (q : Option Value × mjH), k l0 l1 hp = some q → mjG X d C S J_193 (mjEq q) 30 [some (.ref l0), some (.int l1)] [] hp kc ks
def P_193_0 (X : mjX) (d C S kc ks : Nat) (k : Nat → mjH → mjU) : Prop := ∀ (l0 : Nat) (hp : mjH) (q : Option Value × mjH), k l0 hp = some q → mjG X d C S J_193 (mjEq q) 0 [some (.ref l0), none] [] hp kc ks
noncomputable def b_193_69 (R : mjR) (k30 : Nat → Int32 → mjH → mjU) (l0 : Nat) (l1 : Int32) (hp : mjH) : mjU := k30 l0 (l1 + (1 : Int32)) hp
theorem t_193_69 {X : mjX} {d C S kc ks : Nat} {R : mjR} (hR : mjC R d) (h1 : kc ≤ C) (h2 : ks ≤ S) {k30 : Nat → Int32 → mjH → mjU} (hk30 : P_193_30 X (d + 1) C S kc ks k30) : P_193_69 X (d + 1) C S kc ks (b_193_69 R k30) := by
  intro l0 l1 hp q h
  unfold b_193_69 at h
  refine mjq_iinc (x := l1) (c := (1 : Int32)) (lo' := [some (.ref l0), some (.int (l1 + (1 : Int32)))]) D_193_69 rfl (Nat.le_of_ble_eq_true rfl) rfl rfl ?_
  refine mjr_goto (tgt := 30) D_193_72 rfl ?_
  exact hk30 _ _ _ _ h
noncomputable def b_193_30 (R : mjR) (k30 : Nat → Int32 → mjH → mjU) (l0 : Nat) (l1 : Int32) (hp : mjH) : mjU := gR hp l0 10 0 (fun v1 => gI hp v1 3 2 (fun v2 => (if v2 < l1 then some (none, hp) else rV hp l0 10 (bI (R 197 [.ref l0, .int l1] hp) (fun v3 hp4 => (if v3 = 0 then b_193_69 R k30 l0 l1 hp4 else gR hp4 l0 10 8 (fun v5 => gI hp4 l0 10 9 (fun v6 => sI hp4 v5 v6 l1 (fun hp7 => gI hp7 l0 10 9 (fun v8 => pI hp7 l0 10 9 (v8 + (1 : Int32)) (fun hp9 => b_193_69 R k30 l0 l1 hp9)))))))))))
theorem t_193_30 {X : mjX} {d C S kc ks : Nat} {R : mjR} (hR : mjC R d) (h1 : kc ≤ C) (h2 : ks ≤ S) {k30 : Nat → Int32 → mjH → mjU} (hk30 : P_193_30 X (d + 1) C S kc ks k30) : P_193_30 X (d + 1) C S kc ks (b_193_30 R k30) := by
  intro l0 l1 hp q h
  unfold b_193_30 at h
  refine mjr_iload_n (x := l1) D_193_30 rfl ?_
  refine mjr_aload_n (x := l0) D_193_31 rfl ?_
  refine mjq_gR D_193_32 fr_10_9 h (fun v1 h => ?_)
  refine mjq_gI D_193_35 fr_10_45 h (fun v2 h => ?_)
  refine mjq_icmp_gt (tgt := 75) D_193_38 rfl h (fun h => ?_) (fun h => ?_)
  · exact mjq_nret D_193_75 rfl h1 h2 h
  · refine mjr_aload_n (x := l0) D_193_41 rfl ?_
    refine mjr_iload_n (x := l1) D_193_42 rfl ?_
    refine mjq_vI (As := [.int l1]) (rest := []) D_193_43 mr_10_102 V_197 rfl rfl rfl hR (Nat.le_refl _) h1 h2 h (fun v3 hp4 h => ?_)
    refine mjq_if_eq (tgt := 69) D_193_46 rfl h (fun h => ?_) (fun h => ?_)
    · exact (t_193_69 hR h1 h2 hk30) _ _ _ _ h
    · refine mjr_aload_n (x := l0) D_193_49 rfl ?_
      refine mjq_gR D_193_50 fr_10_34 h (fun v5 h => ?_)
      refine mjr_aload_n (x := l0) D_193_53 rfl ?_
      refine mjq_gI D_193_54 fr_10_96 h (fun v6 h => ?_)
      refine mjr_iload_n (x := l1) D_193_57 rfl ?_
      refine mjq_sI D_193_58 h (fun hp7 h => ?_)
      refine mjr_aload_n (x := l0) D_193_59 rfl ?_
      refine mjr_dup D_193_60 rfl ?_
      refine mjq_gI D_193_61 fr_10_96 h (fun v8 h => ?_)
      refine mjq_ic (v := (1 : Int32)) D_193_64 rfl ?_
      refine mjr_iadd D_193_65 ?_
      refine mjq_pI D_193_66 fr_10_96 rfl rfl h (fun hp9 h => ?_)
      exact (t_193_69 hR h1 h2 hk30) _ _ _ _ h
noncomputable def L_193_30 (R : mjR) (n : Nat) : Nat → Int32 → mjH → mjU := Nat.rec (motive := fun _ => Nat → Int32 → mjH → mjU) (fun _ _ _ => none) (fun _ self => b_193_30 R self) n
theorem T_193_30 {X : mjX} {d C S kc ks : Nat} {R : mjR} (hR : mjC R d) (h1 : kc ≤ C) (h2 : ks ≤ S) (n : Nat) : P_193_30 X (d + 1) C S kc ks (L_193_30 R n) := by
  induction n with
  | zero => intro _ _ _ _ h; exact mj_no h
  | succ n ih => exact t_193_30 hR h1 h2 ih
noncomputable def b_193_0 (R : mjR) (l0 : Nat) (hp : mjH) : mjU := gI hp l0 10 5 (fun v1 => (if v1 = 0 then pZ hp l0 10 5 (1 : Int32) (fun hp2 => rV hp2 l0 10 (bN (R 186 [.ref l0, .int (0 : Int32), .int (0 : Int32)] hp2) (fun  hp3 => rV hp3 l0 10 (bN (R 194 [.ref l0] hp3) (fun  hp4 => pI hp4 l0 10 9 (0 : Int32) (fun hp5 => L_193_30 R mjN l0 (1 : Int32) hp5)))))) else some (none, hp)))
theorem t_193_0 {X : mjX} {d C S kc ks : Nat} {R : mjR} (hR : mjC R d) (h1 : kc ≤ C) (h2 : ks ≤ S) : P_193_0 X (d + 1) C S kc ks (b_193_0 R) := by
  intro l0 hp q h
  unfold b_193_0 at h
  refine mjr_aload_n (x := l0) D_193_0 rfl ?_
  refine mjq_gI D_193_1 fr_10_37 h (fun v1 h => ?_)
  refine mjq_if_eq (tgt := 8) D_193_4 rfl h (fun h => ?_) (fun h => ?_)
  · refine mjr_aload_n (x := l0) D_193_8 rfl ?_
    refine mjq_ic (v := (1 : Int32)) D_193_9 rfl ?_
    refine mjq_pZ D_193_10 fr_10_37 rfl rfl h (fun hp2 h => ?_)
    refine mjr_aload_n (x := l0) D_193_13 rfl ?_
    refine mjq_ic (v := (0 : Int32)) D_193_14 rfl ?_
    refine mjq_ic (v := (0 : Int32)) D_193_15 rfl ?_
    refine mjq_vN (As := [.int (0 : Int32), .int (0 : Int32)]) (rest := []) D_193_16 mr_10_87 V_186 rfl rfl rfl hR (Nat.le_refl _) h1 h2 h (fun  hp3 h => ?_)
    refine mjr_aload_n (x := l0) D_193_19 rfl ?_
    refine mjq_vN (As := []) (rest := []) D_193_20 mr_10_99 V_194 rfl rfl rfl hR (Nat.le_refl _) h1 h2 h (fun  hp4 h => ?_)
    refine mjr_aload_n (x := l0) D_193_23 rfl ?_
    refine mjq_ic (v := (0 : Int32)) D_193_24 rfl ?_
    refine mjq_pI D_193_25 fr_10_96 rfl rfl h (fun hp5 h => ?_)
    refine mjq_ic (v := (1 : Int32)) D_193_28 rfl ?_
    refine mjq_istore_n (lo' := [some (.ref l0), some (.int (1 : Int32))]) D_193_29 (Nat.le_of_ble_eq_true rfl) rfl ?_
    exact (T_193_30 hR h1 h2 mjN) _ _ _ _ h
  · exact mjq_nret D_193_7 rfl h1 h2 h
noncomputable def f_193 (R : mjR) (a0 : Nat) (hp : mjH) : mjU := b_193_0 R a0 hp
theorem c_193 {R : mjR} {d : Nat} (hR : mjC R d) {a0 : Nat} {hp : mjH} {q : Option Value × mjH} (h : f_193 R a0 hp = some q) : mjM (d + 1) 0 0 193 [.ref a0] hp (mjEq q) :=
  mjM_of Ja_193 (Nat.le_of_ble_eq_true rfl) (mjG.fg (lo' := [some (.ref a0), none]) (And.intro rfl True.intro) ((t_193_0 hR (Nat.le_refl 0) (Nat.le_refl 0)) a0 hp q h))
def J_194 : mjI := (⟨"OwnerHeap$Walker", "findNearest", "()V"⟩, 10, prog_12_method_15_code, 4, none, 0, false)
theorem Ja_194 : mjMt 194 = some J_194 := by rfl
theorem D_194_0 : decode J_194.2.2.1 0 = .ok (.aload_n 0, 1) := by decide +kernel
theorem D_194_1 : decode J_194.2.2.1 1 = .ok (.getfield 25, 3) := by decide +kernel
theorem D_194_4 : decode J_194.2.2.1 4 = .ok (.iconst 0, 1) := by decide +kernel
theorem D_194_5 : decode J_194.2.2.1 5 = .ok (.aload_n 0, 1) := by decide +kernel
theorem D_194_6 : decode J_194.2.2.1 6 = .ok (.getfield 28, 3) := by decide +kernel
theorem D_194_9 : decode J_194.2.2.1 9 = .ok (.iconst 0, 1) := by decide +kernel
theorem D_194_10 : decode J_194.2.2.1 10 = .ok (.aload_n 0, 1) := by decide +kernel
theorem D_194_11 : decode J_194.2.2.1 11 = .ok (.getfield 9, 3) := by decide +kernel
theorem D_194_14 : decode J_194.2.2.1 14 = .ok (.getfield 45, 3) := by decide +kernel
theorem D_194_17 : decode J_194.2.2.1 17 = .ok (.iconst 1, 1) := by decide +kernel
theorem D_194_18 : decode J_194.2.2.1 18 = .ok (.iadd, 1) := by decide +kernel
theorem D_194_19 : decode J_194.2.2.1 19 = .ok (.invokestatic 106, 3) := by decide +kernel
theorem D_194_22 : decode J_194.2.2.1 22 = .ok (.aload_n 0, 1) := by decide +kernel
theorem D_194_23 : decode J_194.2.2.1 23 = .ok (.getfield 28, 3) := by decide +kernel
theorem D_194_26 : decode J_194.2.2.1 26 = .ok (.iconst 0, 1) := by decide +kernel
theorem D_194_27 : decode J_194.2.2.1 27 = .ok (.iconst 0, 1) := by decide +kernel
theorem D_194_28 : decode J_194.2.2.1 28 = .ok (.iastore, 1) := by decide +kernel
theorem D_194_29 : decode J_194.2.2.1 29 = .ok (.aload_n 0, 1) := by decide +kernel
theorem D_194_30 : decode J_194.2.2.1 30 = .ok (.getfield 31, 3) := by decide +kernel
theorem D_194_33 : decode J_194.2.2.1 33 = .ok (.iconst 0, 1) := by decide +kernel
theorem D_194_34 : decode J_194.2.2.1 34 = .ok (.iconst 0, 1) := by decide +kernel
theorem D_194_35 : decode J_194.2.2.1 35 = .ok (.iastore, 1) := by decide +kernel
theorem D_194_36 : decode J_194.2.2.1 36 = .ok (.iconst 0, 1) := by decide +kernel
theorem D_194_37 : decode J_194.2.2.1 37 = .ok (.istore_n 1, 1) := by decide +kernel
theorem D_194_38 : decode J_194.2.2.1 38 = .ok (.iload_n 1, 1) := by decide +kernel
theorem D_194_39 : decode J_194.2.2.1 39 = .ok (.aload_n 0, 1) := by decide +kernel
theorem D_194_40 : decode J_194.2.2.1 40 = .ok (.getfield 41, 3) := by decide +kernel
theorem D_194_43 : decode J_194.2.2.1 43 = .ok (.if_icmp .ge 23, 3) := by decide +kernel
theorem D_194_46 : decode J_194.2.2.1 46 = .ok (.aload_n 0, 1) := by decide +kernel
theorem D_194_47 : decode J_194.2.2.1 47 = .ok (.getfield 31, 3) := by decide +kernel
theorem D_194_50 : decode J_194.2.2.1 50 = .ok (.aload_n 0, 1) := by decide +kernel
theorem D_194_51 : decode J_194.2.2.1 51 = .ok (.getfield 21, 3) := by decide +kernel
theorem D_194_54 : decode J_194.2.2.1 54 = .ok (.iload_n 1, 1) := by decide +kernel
theorem D_194_55 : decode J_194.2.2.1 55 = .ok (.iaload, 1) := by decide +kernel
theorem D_194_56 : decode J_194.2.2.1 56 = .ok (.iload_n 1, 1) := by decide +kernel
theorem D_194_57 : decode J_194.2.2.1 57 = .ok (.iconst 1, 1) := by decide +kernel
theorem D_194_58 : decode J_194.2.2.1 58 = .ok (.iadd, 1) := by decide +kernel
theorem D_194_59 : decode J_194.2.2.1 59 = .ok (.iastore, 1) := by decide +kernel
theorem D_194_60 : decode J_194.2.2.1 60 = .ok (.iinc 1 1, 3) := by decide +kernel
theorem D_194_63 : decode J_194.2.2.1 63 = .ok (.goto (-25), 3) := by decide +kernel
theorem D_194_66 : decode J_194.2.2.1 66 = .ok (.iconst 1, 1) := by decide +kernel
theorem D_194_67 : decode J_194.2.2.1 67 = .ok (.istore_n 1, 1) := by decide +kernel
theorem D_194_68 : decode J_194.2.2.1 68 = .ok (.iconst 0, 1) := by decide +kernel
theorem D_194_69 : decode J_194.2.2.1 69 = .ok (.istore_n 2, 1) := by decide +kernel
theorem D_194_70 : decode J_194.2.2.1 70 = .ok (.iload_n 2, 1) := by decide +kernel
theorem D_194_71 : decode J_194.2.2.1 71 = .ok (.ldc 112, 2) := by decide +kernel
theorem D_194_73 : decode J_194.2.2.1 73 = .ok (.if_icmp .ge 54, 3) := by decide +kernel
theorem D_194_76 : decode J_194.2.2.1 76 = .ok (.iload_n 1, 1) := by decide +kernel
theorem D_194_77 : decode J_194.2.2.1 77 = .ok (.ifCond .eq 50, 3) := by decide +kernel
theorem D_194_80 : decode J_194.2.2.1 80 = .ok (.iconst 0, 1) := by decide +kernel
theorem D_194_81 : decode J_194.2.2.1 81 = .ok (.istore_n 1, 1) := by decide +kernel
theorem D_194_82 : decode J_194.2.2.1 82 = .ok (.iconst 0, 1) := by decide +kernel
theorem D_194_83 : decode J_194.2.2.1 83 = .ok (.istore_n 3, 1) := by decide +kernel
theorem D_194_84 : decode J_194.2.2.1 84 = .ok (.iload_n 3, 1) := by decide +kernel
theorem D_194_85 : decode J_194.2.2.1 85 = .ok (.aload_n 0, 1) := by decide +kernel
theorem D_194_86 : decode J_194.2.2.1 86 = .ok (.getfield 41, 3) := by decide +kernel
theorem D_194_89 : decode J_194.2.2.1 89 = .ok (.if_icmp .ge 32, 3) := by decide +kernel
theorem D_194_92 : decode J_194.2.2.1 92 = .ok (.aload_n 0, 1) := by decide +kernel
theorem D_194_93 : decode J_194.2.2.1 93 = .ok (.aload_n 0, 1) := by decide +kernel
theorem D_194_94 : decode J_194.2.2.1 94 = .ok (.getfield 21, 3) := by decide +kernel
theorem D_194_97 : decode J_194.2.2.1 97 = .ok (.iload_n 3, 1) := by decide +kernel
theorem D_194_98 : decode J_194.2.2.1 98 = .ok (.iaload, 1) := by decide +kernel
theorem D_194_99 : decode J_194.2.2.1 99 = .ok (.invokevirtual 113, 3) := by decide +kernel
theorem D_194_102 : decode J_194.2.2.1 102 = .ok (.ifCond .ne 7, 3) := by decide +kernel
theorem D_194_105 : decode J_194.2.2.1 105 = .ok (.iload_n 1, 1) := by decide +kernel
theorem D_194_106 : decode J_194.2.2.1 106 = .ok (.ifCond .eq 7, 3) := by decide +kernel
theorem D_194_109 : decode J_194.2.2.1 109 = .ok (.iconst 1, 1) := by decide +kernel
theorem D_194_110 : decode J_194.2.2.1 110 = .ok (.goto 4, 3) := by decide +kernel
theorem D_194_113 : decode J_194.2.2.1 113 = .ok (.iconst 0, 1) := by decide +kernel
theorem D_194_114 : decode J_194.2.2.1 114 = .ok (.istore_n 1, 1) := by decide +kernel
theorem D_194_115 : decode J_194.2.2.1 115 = .ok (.iinc 3 1, 3) := by decide +kernel
theorem D_194_118 : decode J_194.2.2.1 118 = .ok (.goto (-34), 3) := by decide +kernel
theorem D_194_121 : decode J_194.2.2.1 121 = .ok (.iinc 2 1, 3) := by decide +kernel
theorem D_194_124 : decode J_194.2.2.1 124 = .ok (.goto (-54), 3) := by decide +kernel
theorem D_194_127 : decode J_194.2.2.1 127 = .ok (.return_, 1) := by decide +kernel
def P_194_114 (X : mjX) (d C S kc ks : Nat) (k : Nat → Int32 → Int32 → Int32 → mjH → mjU) : Prop := ∀ (l0 : Nat) (l2 : Int32) (l3 : Int32) (s0 : Int32) (hp : mjH) (q : Option Value × mjH), k l0 l2 l3 s0 hp = some q → mjG X d C S J_194 (mjEq q) 114 [some (.ref l0), none, some (.int l2), some (.int l3)] [.int s0] hp kc ks
def P_194_109 (X : mjX) (d C S kc ks : Nat) (k : Nat → Int32 → Int32 → mjH → mjU) : Prop := ∀ (l0 : Nat) (l2 : Int32) (l3 : Int32) (hp : mjH) (q : Option Value × mjH), k l0 l2 l3 hp = some q → mjG X d C S J_194 (mjEq q) 109 [some (.ref l0), none, some (.int l2), some (.int l3)] [] hp kc ks
def P_194_84 (X : mjX) (d C S kc ks : Nat) (k : Nat → Int32 → Int32 → Int32 → mjH → mjU) : Prop := ∀ (l0 : Nat) (l1 : Int32) (l2 : Int32) (l3 : Int32) (hp : mjH) (q : Option Value × mjH), k l0 l1 l2 l3 hp = some q → mjG X d C S J_194 (mjEq q) 84 [some (.ref l0), some (.int l1), some (.int l2), some (.int l3)] [] hp kc ks
def P_194_70 (X : mjX) (d C S kc ks : Nat) (k : Nat → Int32 → Int32 → mjH → mjU) : Prop := ∀ (l0 : Nat) (l1 : Int32) (l2 : Int32) (hp : mjH) (q : Option Value × mjH), k l0 l1 l2 hp = some q → mjG X d C S J_194 (mjEq q) 70 [some (.ref l0), some (.int l1), some (.int l2), none] [] hp kc ks
def P_194_38 (X : mjX) (d C S kc ks : Nat) (k : Nat → Int32 → mjH → mjU) : Prop := ∀ (l0 : Nat) (l1 : Int32) (hp : mjH) (q : Option Value × mjH), k l0 l1 hp = some q → mjG X d C S J_194 (mjEq q) 38 [some (.ref l0), some (.int l1), none, none] [] hp kc ks
def P_194_0 (X : mjX) (d C S kc ks : Nat) (k : Nat → mjH → mjU) : Prop := ∀ (l0 : Nat) (hp : mjH) (q : Option Value × mjH), k l0 hp = some q → mjG X d C S J_194 (mjEq q) 0 [some (.ref l0), none, none, none] [] hp kc ks
noncomputable def b_194_114 (R : mjR) (k70 : Nat → Int32 → Int32 → mjH → mjU) (k84 : Nat → Int32 → Int32 → Int32 → mjH → mjU) (l0 : Nat) (l2 : Int32) (l3 : Int32) (s0 : Int32) (hp : mjH) : mjU := k84 l0 s0 l2 (l3 + (1 : Int32)) hp
theorem t_194_114 {X : mjX} {d C S kc ks : Nat} {R : mjR} (hR : mjC R d) (h1 : kc ≤ C) (h2 : ks ≤ S) {k70 : Nat → Int32 → Int32 → mjH → mjU} (hk70 : P_194_70 X (d + 1) C S kc ks k70) {k84 : Nat → Int32 → Int32 → Int32 → mjH → mjU} (hk84 : P_194_84 X (d + 1) C S kc ks k84) : P_194_114 X (d + 1) C S kc ks (b_194_114 R k70 k84) := by
  intro l0 l2 l3 s0 hp q h
  unfold b_194_114 at h
  refine mjq_istore_n (lo' := [some (.ref l0), some (.int s0), some (.int l2), some (.int l3)]) D_194_114 (Nat.le_of_ble_eq_true rfl) rfl ?_
  refine mjq_iinc (x := l3) (c := (1 : Int32)) (lo' := [some (.ref l0), some (.int s0), some (.int l2), some (.int (l3 + (1 : Int32)))]) D_194_115 rfl (Nat.le_of_ble_eq_true rfl) rfl rfl ?_
  refine mjr_goto (tgt := 84) D_194_118 rfl ?_
  exact hk84 _ _ _ _ _ _ h
noncomputable def b_194_109 (R : mjR) (k70 : Nat → Int32 → Int32 → mjH → mjU) (k84 : Nat → Int32 → Int32 → Int32 → mjH → mjU) (l0 : Nat) (l2 : Int32) (l3 : Int32) (hp : mjH) : mjU := b_194_114 R k70 k84 l0 l2 l3 (1 : Int32) hp
theorem t_194_109 {X : mjX} {d C S kc ks : Nat} {R : mjR} (hR : mjC R d) (h1 : kc ≤ C) (h2 : ks ≤ S) {k70 : Nat → Int32 → Int32 → mjH → mjU} (hk70 : P_194_70 X (d + 1) C S kc ks k70) {k84 : Nat → Int32 → Int32 → Int32 → mjH → mjU} (hk84 : P_194_84 X (d + 1) C S kc ks k84) : P_194_109 X (d + 1) C S kc ks (b_194_109 R k70 k84) := by
  intro l0 l2 l3 hp q h
  unfold b_194_109 at h
  refine mjq_ic (v := (1 : Int32)) D_194_109 rfl ?_
  refine mjr_goto (tgt := 114) D_194_110 rfl ?_
  exact (t_194_114 hR h1 h2 hk70 hk84) _ _ _ _ _ _ h
noncomputable def b_194_84 (R : mjR) (k70 : Nat → Int32 → Int32 → mjH → mjU) (k84 : Nat → Int32 → Int32 → Int32 → mjH → mjU) (l0 : Nat) (l1 : Int32) (l2 : Int32) (l3 : Int32) (hp : mjH) : mjU := gI hp l0 10 3 (fun v1 => (if v1 ≤ l3 then k70 l0 l1 (l2 + (1 : Int32)) hp else gR hp l0 10 2 (fun v2 => aI hp v2 l3 (fun v3 => rV hp l0 10 (bI (R 195 [.ref l0, .int v3] hp) (fun v4 hp5 => (if v4 = 0 then (if l1 = 0 then b_194_114 R k70 k84 l0 l2 l3 (0 : Int32) hp5 else b_194_109 R k70 k84 l0 l2 l3 hp5) else b_194_109 R k70 k84 l0 l2 l3 hp5)))))))
theorem t_194_84 {X : mjX} {d C S kc ks : Nat} {R : mjR} (hR : mjC R d) (h1 : kc ≤ C) (h2 : ks ≤ S) {k70 : Nat → Int32 → Int32 → mjH → mjU} (hk70 : P_194_70 X (d + 1) C S kc ks k70) {k84 : Nat → Int32 → Int32 → Int32 → mjH → mjU} (hk84 : P_194_84 X (d + 1) C S kc ks k84) : P_194_84 X (d + 1) C S kc ks (b_194_84 R k70 k84) := by
  intro l0 l1 l2 l3 hp q h
  unfold b_194_84 at h
  refine mjr_iload_n (x := l3) D_194_84 rfl ?_
  refine mjr_aload_n (x := l0) D_194_85 rfl ?_
  refine mjq_gI D_194_86 fr_10_41 h (fun v1 h => ?_)
  refine mjq_icmp_ge (tgt := 121) D_194_89 rfl h (fun h => ?_) (fun h => ?_)
  · refine mjq_iinc (x := l2) (c := (1 : Int32)) (lo' := [some (.ref l0), some (.int l1), some (.int (l2 + (1 : Int32))), some (.int l3)]) D_194_121 rfl (Nat.le_of_ble_eq_true rfl) rfl rfl ?_
    refine mjr_goto (tgt := 70) D_194_124 rfl ?_
    exact mjG.fg (lo' := [some (.ref l0), some (.int l1), some (.int (l2 + (1 : Int32))), none]) (And.intro rfl (And.intro rfl (And.intro rfl True.intro))) (hk70 _ _ _ _ _ h)
  · refine mjr_aload_n (x := l0) D_194_92 rfl ?_
    refine mjr_aload_n (x := l0) D_194_93 rfl ?_
    refine mjq_gR D_194_94 fr_10_21 h (fun v2 h => ?_)
    refine mjr_iload_n (x := l3) D_194_97 rfl ?_
    refine mjq_aI D_194_98 h (fun v3 h => ?_)
    refine mjq_vI (As := [.int v3]) (rest := []) D_194_99 mr_10_113 V_195 rfl rfl rfl hR (Nat.le_refl _) h1 h2 h (fun v4 hp5 h => ?_)
    refine mjq_if_ne (tgt := 109) D_194_102 rfl h (fun h => ?_) (fun h => ?_)
    · exact mjG.fg (lo' := [some (.ref l0), none, some (.int l2), some (.int l3)]) (And.intro rfl (And.intro rfl (And.intro rfl True.intro))) ((t_194_109 hR h1 h2 hk70 hk84) _ _ _ _ _ h)
    · refine mjr_iload_n (x := l1) D_194_105 rfl ?_
      refine mjq_if_eq (tgt := 113) D_194_106 rfl h (fun h => ?_) (fun h => ?_)
      · refine mjq_ic (v := (0 : Int32)) D_194_113 rfl ?_
        exact mjG.fg (lo' := [some (.ref l0), none, some (.int l2), some (.int l3)]) (And.intro rfl (And.intro rfl (And.intro rfl True.intro))) ((t_194_114 hR h1 h2 hk70 hk84) _ _ _ _ _ _ h)
      · exact mjG.fg (lo' := [some (.ref l0), none, some (.int l2), some (.int l3)]) (And.intro rfl (And.intro rfl (And.intro rfl True.intro))) ((t_194_109 hR h1 h2 hk70 hk84) _ _ _ _ _ h)
noncomputable def L_194_84 (R : mjR) (k70 : Nat → Int32 → Int32 → mjH → mjU) (n : Nat) : Nat → Int32 → Int32 → Int32 → mjH → mjU := Nat.rec (motive := fun _ => Nat → Int32 → Int32 → Int32 → mjH → mjU) (fun _ _ _ _ _ => none) (fun _ self => b_194_84 R k70 self) n
theorem T_194_84 {X : mjX} {d C S kc ks : Nat} {R : mjR} (hR : mjC R d) (h1 : kc ≤ C) (h2 : ks ≤ S) {k70 : Nat → Int32 → Int32 → mjH → mjU} (hk70 : P_194_70 X (d + 1) C S kc ks k70) (n : Nat) : P_194_84 X (d + 1) C S kc ks (L_194_84 R k70 n) := by
  induction n with
  | zero => intro _ _ _ _ _ _ h; exact mj_no h
  | succ n ih => exact t_194_84 hR h1 h2 hk70 ih
noncomputable def b_194_70 (R : mjR) (k70 : Nat → Int32 → Int32 → mjH → mjU) (l0 : Nat) (l1 : Int32) (l2 : Int32) (hp : mjH) : mjU := (if (1000000 : Int32) ≤ l2 then some (none, hp) else (if l1 = 0 then some (none, hp) else L_194_84 R k70 mjN l0 (0 : Int32) l2 (0 : Int32) hp))
theorem t_194_70 {X : mjX} {d C S kc ks : Nat} {R : mjR} (hR : mjC R d) (h1 : kc ≤ C) (h2 : ks ≤ S) {k70 : Nat → Int32 → Int32 → mjH → mjU} (hk70 : P_194_70 X (d + 1) C S kc ks k70) : P_194_70 X (d + 1) C S kc ks (b_194_70 R k70) := by
  intro l0 l1 l2 hp q h
  unfold b_194_70 at h
  refine mjr_iload_n (x := l2) D_194_70 rfl ?_
  refine mjr_ldc (v := (1000000 : Int32)) D_194_71 (by decide +kernel) ?_
  refine mjq_icmp_ge (tgt := 127) D_194_73 rfl h (fun h => ?_) (fun h => ?_)
  · exact mjq_nret D_194_127 rfl h1 h2 h
  · refine mjr_iload_n (x := l1) D_194_76 rfl ?_
    refine mjq_if_eq (tgt := 127) D_194_77 rfl h (fun h => ?_) (fun h => ?_)
    · exact mjq_nret D_194_127 rfl h1 h2 h
    · refine mjq_ic (v := (0 : Int32)) D_194_80 rfl ?_
      refine mjq_istore_n (lo' := [some (.ref l0), some (.int (0 : Int32)), some (.int l2), none]) D_194_81 (Nat.le_of_ble_eq_true rfl) rfl ?_
      refine mjq_ic (v := (0 : Int32)) D_194_82 rfl ?_
      refine mjq_istore_n (lo' := [some (.ref l0), some (.int (0 : Int32)), some (.int l2), some (.int (0 : Int32))]) D_194_83 (Nat.le_of_ble_eq_true rfl) rfl ?_
      exact (T_194_84 hR h1 h2 hk70 mjN) _ _ _ _ _ _ h
noncomputable def L_194_70 (R : mjR) (n : Nat) : Nat → Int32 → Int32 → mjH → mjU := Nat.rec (motive := fun _ => Nat → Int32 → Int32 → mjH → mjU) (fun _ _ _ _ => none) (fun _ self => b_194_70 R self) n
theorem T_194_70 {X : mjX} {d C S kc ks : Nat} {R : mjR} (hR : mjC R d) (h1 : kc ≤ C) (h2 : ks ≤ S) (n : Nat) : P_194_70 X (d + 1) C S kc ks (L_194_70 R n) := by
  induction n with
  | zero => intro _ _ _ _ _ h; exact mj_no h
  | succ n ih => exact t_194_70 hR h1 h2 ih
noncomputable def b_194_38 (R : mjR) (k38 : Nat → Int32 → mjH → mjU) (l0 : Nat) (l1 : Int32) (hp : mjH) : mjU := gI hp l0 10 3 (fun v1 => (if v1 ≤ l1 then L_194_70 R mjN l0 (1 : Int32) (0 : Int32) hp else gR hp l0 10 7 (fun v2 => gR hp l0 10 2 (fun v3 => aI hp v3 l1 (fun v4 => sI hp v2 v4 (l1 + (1 : Int32)) (fun hp5 => k38 l0 (l1 + (1 : Int32)) hp5))))))
theorem t_194_38 {X : mjX} {d C S kc ks : Nat} {R : mjR} (hR : mjC R d) (h1 : kc ≤ C) (h2 : ks ≤ S) {k38 : Nat → Int32 → mjH → mjU} (hk38 : P_194_38 X (d + 1) C S kc ks k38) : P_194_38 X (d + 1) C S kc ks (b_194_38 R k38) := by
  intro l0 l1 hp q h
  unfold b_194_38 at h
  refine mjr_iload_n (x := l1) D_194_38 rfl ?_
  refine mjr_aload_n (x := l0) D_194_39 rfl ?_
  refine mjq_gI D_194_40 fr_10_41 h (fun v1 h => ?_)
  refine mjq_icmp_ge (tgt := 66) D_194_43 rfl h (fun h => ?_) (fun h => ?_)
  · refine mjq_ic (v := (1 : Int32)) D_194_66 rfl ?_
    refine mjq_istore_n (lo' := [some (.ref l0), some (.int (1 : Int32)), none, none]) D_194_67 (Nat.le_of_ble_eq_true rfl) rfl ?_
    refine mjq_ic (v := (0 : Int32)) D_194_68 rfl ?_
    refine mjq_istore_n (lo' := [some (.ref l0), some (.int (1 : Int32)), some (.int (0 : Int32)), none]) D_194_69 (Nat.le_of_ble_eq_true rfl) rfl ?_
    exact (T_194_70 hR h1 h2 mjN) _ _ _ _ _ h
  · refine mjr_aload_n (x := l0) D_194_46 rfl ?_
    refine mjq_gR D_194_47 fr_10_31 h (fun v2 h => ?_)
    refine mjr_aload_n (x := l0) D_194_50 rfl ?_
    refine mjq_gR D_194_51 fr_10_21 h (fun v3 h => ?_)
    refine mjr_iload_n (x := l1) D_194_54 rfl ?_
    refine mjq_aI D_194_55 h (fun v4 h => ?_)
    refine mjr_iload_n (x := l1) D_194_56 rfl ?_
    refine mjq_ic (v := (1 : Int32)) D_194_57 rfl ?_
    refine mjr_iadd D_194_58 ?_
    refine mjq_sI D_194_59 h (fun hp5 h => ?_)
    refine mjq_iinc (x := l1) (c := (1 : Int32)) (lo' := [some (.ref l0), some (.int (l1 + (1 : Int32))), none, none]) D_194_60 rfl (Nat.le_of_ble_eq_true rfl) rfl rfl ?_
    refine mjr_goto (tgt := 38) D_194_63 rfl ?_
    exact hk38 _ _ _ _ h
noncomputable def L_194_38 (R : mjR) (n : Nat) : Nat → Int32 → mjH → mjU := Nat.rec (motive := fun _ => Nat → Int32 → mjH → mjU) (fun _ _ _ => none) (fun _ self => b_194_38 R self) n
theorem T_194_38 {X : mjX} {d C S kc ks : Nat} {R : mjR} (hR : mjC R d) (h1 : kc ≤ C) (h2 : ks ≤ S) (n : Nat) : P_194_38 X (d + 1) C S kc ks (L_194_38 R n) := by
  induction n with
  | zero => intro _ _ _ _ h; exact mj_no h
  | succ n ih => exact t_194_38 hR h1 h2 ih
noncomputable def b_194_0 (R : mjR) (l0 : Nat) (hp : mjH) : mjU := gR hp l0 10 4 (fun v1 => gR hp l0 10 6 (fun v2 => gR hp l0 10 0 (fun v3 => gI hp v3 3 2 (fun v4 => cpY hp v1 (0 : Int32) v2 (0 : Int32) (v4 + (1 : Int32)) (fun hp5 => gR hp5 l0 10 6 (fun v6 => sI hp5 v6 (0 : Int32) (0 : Int32) (fun hp7 => gR hp7 l0 10 7 (fun v8 => sI hp7 v8 (0 : Int32) (0 : Int32) (fun hp9 => L_194_38 R mjN l0 (0 : Int32) hp9)))))))))
theorem t_194_0 {X : mjX} {d C S kc ks : Nat} {R : mjR} (hR : mjC R d) (h1 : kc ≤ C) (h2 : ks ≤ S) : P_194_0 X (d + 1) C S kc ks (b_194_0 R) := by
  intro l0 hp q h
  unfold b_194_0 at h
  refine mjr_aload_n (x := l0) D_194_0 rfl ?_
  refine mjq_gR D_194_1 fr_10_25 h (fun v1 h => ?_)
  refine mjq_ic (v := (0 : Int32)) D_194_4 rfl ?_
  refine mjr_aload_n (x := l0) D_194_5 rfl ?_
  refine mjq_gR D_194_6 fr_10_28 h (fun v2 h => ?_)
  refine mjq_ic (v := (0 : Int32)) D_194_9 rfl ?_
  refine mjr_aload_n (x := l0) D_194_10 rfl ?_
  refine mjq_gR D_194_11 fr_10_9 h (fun v3 h => ?_)
  refine mjq_gI D_194_14 fr_10_45 h (fun v4 h => ?_)
  refine mjq_ic (v := (1 : Int32)) D_194_17 rfl ?_
  refine mjr_iadd D_194_18 ?_
  refine mjq_copy D_194_19 (by decide +kernel) rfl (Nat.le_add_left 1 d) h (fun hp5 h => ?_)
  refine mjr_aload_n (x := l0) D_194_22 rfl ?_
  refine mjq_gR D_194_23 fr_10_28 h (fun v6 h => ?_)
  refine mjq_ic (v := (0 : Int32)) D_194_26 rfl ?_
  refine mjq_ic (v := (0 : Int32)) D_194_27 rfl ?_
  refine mjq_sI D_194_28 h (fun hp7 h => ?_)
  refine mjr_aload_n (x := l0) D_194_29 rfl ?_
  refine mjq_gR D_194_30 fr_10_31 h (fun v8 h => ?_)
  refine mjq_ic (v := (0 : Int32)) D_194_33 rfl ?_
  refine mjq_ic (v := (0 : Int32)) D_194_34 rfl ?_
  refine mjq_sI D_194_35 h (fun hp9 h => ?_)
  refine mjq_ic (v := (0 : Int32)) D_194_36 rfl ?_
  refine mjq_istore_n (lo' := [some (.ref l0), some (.int (0 : Int32)), none, none]) D_194_37 (Nat.le_of_ble_eq_true rfl) rfl ?_
  exact (T_194_38 hR h1 h2 mjN) _ _ _ _ h
noncomputable def f_194 (R : mjR) (a0 : Nat) (hp : mjH) : mjU := b_194_0 R a0 hp
theorem c_194 {R : mjR} {d : Nat} (hR : mjC R d) {a0 : Nat} {hp : mjH} {q : Option Value × mjH} (h : f_194 R a0 hp = some q) : mjM (d + 1) 0 0 194 [.ref a0] hp (mjEq q) :=
  mjM_of Ja_194 (Nat.le_of_ble_eq_true rfl) (mjG.fg (lo' := [some (.ref a0), none, none, none]) (And.intro rfl True.intro) ((t_194_0 hR (Nat.le_refl 0) (Nat.le_refl 0)) a0 hp q h))
def J_198 : mjI := (⟨"OwnerHeap$Walker", "leakCount", "()I"⟩, 10, prog_12_method_12_code, 1, (some .int), 0, false)
theorem Ja_198 : mjMt 198 = some J_198 := by rfl
theorem D_198_0 : decode J_198.2.2.1 0 = .ok (.aload_n 0, 1) := by decide +kernel
theorem D_198_1 : decode J_198.2.2.1 1 = .ok (.invokevirtual 93, 3) := by decide +kernel
theorem D_198_4 : decode J_198.2.2.1 4 = .ok (.aload_n 0, 1) := by decide +kernel
theorem D_198_5 : decode J_198.2.2.1 5 = .ok (.getfield 96, 3) := by decide +kernel
theorem D_198_8 : decode J_198.2.2.1 8 = .ok (.ireturn, 1) := by decide +kernel
def P_198_0 (X : mjX) (d C S kc ks : Nat) (k : Nat → mjH → mjU) : Prop := ∀ (l0 : Nat) (hp : mjH) (q : Option Value × mjH), k l0 hp = some q → mjG X d C S J_198 (mjEq q) 0 [some (.ref l0)] [] hp kc ks
noncomputable def b_198_0 (R : mjR) (l0 : Nat) (hp : mjH) : mjU := rV hp l0 10 (bN (R 193 [.ref l0] hp) (fun  hp1 => gI hp1 l0 10 9 (fun v2 => some (some (.int v2), hp1))))
theorem t_198_0 {X : mjX} {d C S kc ks : Nat} {R : mjR} (hR : mjC R d) (h1 : kc ≤ C) (h2 : ks ≤ S) : P_198_0 X (d + 1) C S kc ks (b_198_0 R) := by
  intro l0 hp q h
  unfold b_198_0 at h
  refine mjr_aload_n (x := l0) D_198_0 rfl ?_
  refine mjq_vN (As := []) (rest := []) D_198_1 mr_10_93 V_193 rfl rfl rfl hR (Nat.le_refl _) h1 h2 h (fun  hp1 h => ?_)
  refine mjr_aload_n (x := l0) D_198_4 rfl ?_
  refine mjq_gI D_198_5 fr_10_96 h (fun v2 h => ?_)
  exact mjq_ret D_198_8 rfl h1 h2 h
noncomputable def f_198 (R : mjR) (a0 : Nat) (hp : mjH) : mjU := b_198_0 R a0 hp
theorem c_198 {R : mjR} {d : Nat} (hR : mjC R d) {a0 : Nat} {hp : mjH} {q : Option Value × mjH} (h : f_198 R a0 hp = some q) : mjM (d + 1) 0 0 198 [.ref a0] hp (mjEq q) :=
  mjM_of Ja_198 (Nat.le_of_ble_eq_true rfl) (mjG.fg (lo' := [some (.ref a0)]) (And.intro rfl True.intro) ((t_198_0 hR (Nat.le_refl 0) (Nat.le_refl 0)) a0 hp q h))
def J_199 : mjI := (⟨"OwnerHeap$Walker", "leakAt", "(I)I"⟩, 10, prog_12_method_13_code, 2, (some .int), 1, false)
theorem Ja_199 : mjMt 199 = some J_199 := by rfl
theorem D_199_0 : decode J_199.2.2.1 0 = .ok (.aload_n 0, 1) := by decide +kernel
theorem D_199_1 : decode J_199.2.2.1 1 = .ok (.invokevirtual 93, 3) := by decide +kernel
theorem D_199_4 : decode J_199.2.2.1 4 = .ok (.iload_n 1, 1) := by decide +kernel
theorem D_199_5 : decode J_199.2.2.1 5 = .ok (.ifCond .lt 20, 3) := by decide +kernel
theorem D_199_8 : decode J_199.2.2.1 8 = .ok (.iload_n 1, 1) := by decide +kernel
theorem D_199_9 : decode J_199.2.2.1 9 = .ok (.aload_n 0, 1) := by decide +kernel
theorem D_199_10 : decode J_199.2.2.1 10 = .ok (.getfield 96, 3) := by decide +kernel
theorem D_199_13 : decode J_199.2.2.1 13 = .ok (.if_icmp .ge 12, 3) := by decide +kernel
theorem D_199_16 : decode J_199.2.2.1 16 = .ok (.aload_n 0, 1) := by decide +kernel
theorem D_199_17 : decode J_199.2.2.1 17 = .ok (.getfield 34, 3) := by decide +kernel
theorem D_199_20 : decode J_199.2.2.1 20 = .ok (.iload_n 1, 1) := by decide +kernel
theorem D_199_21 : decode J_199.2.2.1 21 = .ok (.iaload, 1) := by decide +kernel
theorem D_199_22 : decode J_199.2.2.1 22 = .ok (.goto 4, 3) := by decide +kernel
theorem D_199_25 : decode J_199.2.2.1 25 = .ok (.iconst (-1), 1) := by decide +kernel
theorem D_199_26 : decode J_199.2.2.1 26 = .ok (.ireturn, 1) := by decide +kernel
def P_199_25 (X : mjX) (d C S kc ks : Nat) (k : mjH → mjU) : Prop := ∀  (hp : mjH) (q : Option Value × mjH), k  hp = some q → mjG X d C S J_199 (mjEq q) 25 [none, none] [] hp kc ks
def P_199_0 (X : mjX) (d C S kc ks : Nat) (k : Nat → Int32 → mjH → mjU) : Prop := ∀ (l0 : Nat) (l1 : Int32) (hp : mjH) (q : Option Value × mjH), k l0 l1 hp = some q → mjG X d C S J_199 (mjEq q) 0 [some (.ref l0), some (.int l1)] [] hp kc ks
noncomputable def b_199_25 (R : mjR)  (hp : mjH) : mjU := some (some (.int (-1 : Int32)), hp)
theorem t_199_25 {X : mjX} {d C S kc ks : Nat} {R : mjR} (hR : mjC R d) (h1 : kc ≤ C) (h2 : ks ≤ S) : P_199_25 X (d + 1) C S kc ks (b_199_25 R) := by
  intro  hp q h
  unfold b_199_25 at h
  refine mjq_ic (v := (-1 : Int32)) D_199_25 rfl ?_
  exact mjq_ret D_199_26 rfl h1 h2 h
noncomputable def b_199_0 (R : mjR) (l0 : Nat) (l1 : Int32) (hp : mjH) : mjU := rV hp l0 10 (bN (R 193 [.ref l0] hp) (fun  hp1 => (if l1 < 0 then b_199_25 R hp1 else gI hp1 l0 10 9 (fun v2 => (if v2 ≤ l1 then b_199_25 R hp1 else gR hp1 l0 10 8 (fun v3 => aI hp1 v3 l1 (fun v4 => some (some (.int v4), hp1))))))))
theorem t_199_0 {X : mjX} {d C S kc ks : Nat} {R : mjR} (hR : mjC R d) (h1 : kc ≤ C) (h2 : ks ≤ S) : P_199_0 X (d + 1) C S kc ks (b_199_0 R) := by
  intro l0 l1 hp q h
  unfold b_199_0 at h
  refine mjr_aload_n (x := l0) D_199_0 rfl ?_
  refine mjq_vN (As := []) (rest := []) D_199_1 mr_10_93 V_193 rfl rfl rfl hR (Nat.le_refl _) h1 h2 h (fun  hp1 h => ?_)
  refine mjr_iload_n (x := l1) D_199_4 rfl ?_
  refine mjq_if_lt (tgt := 25) D_199_5 rfl h (fun h => ?_) (fun h => ?_)
  · exact mjG.fg (lo' := [none, none]) True.intro ((t_199_25 hR h1 h2) _ _ h)
  · refine mjr_iload_n (x := l1) D_199_8 rfl ?_
    refine mjr_aload_n (x := l0) D_199_9 rfl ?_
    refine mjq_gI D_199_10 fr_10_96 h (fun v2 h => ?_)
    refine mjq_icmp_ge (tgt := 25) D_199_13 rfl h (fun h => ?_) (fun h => ?_)
    · exact mjG.fg (lo' := [none, none]) True.intro ((t_199_25 hR h1 h2) _ _ h)
    · refine mjr_aload_n (x := l0) D_199_16 rfl ?_
      refine mjq_gR D_199_17 fr_10_34 h (fun v3 h => ?_)
      refine mjr_iload_n (x := l1) D_199_20 rfl ?_
      refine mjq_aI D_199_21 h (fun v4 h => ?_)
      refine mjr_goto (tgt := 26) D_199_22 rfl ?_
      exact mjq_ret D_199_26 rfl h1 h2 h
noncomputable def f_199 (R : mjR) (a0 : Nat) (a1 : Int32) (hp : mjH) : mjU := b_199_0 R a0 a1 hp
theorem c_199 {R : mjR} {d : Nat} (hR : mjC R d) {a0 : Nat} {a1 : Int32} {hp : mjH} {q : Option Value × mjH} (h : f_199 R a0 a1 hp = some q) : mjM (d + 1) 0 0 199 [.ref a0, .int a1] hp (mjEq q) :=
  mjM_of Ja_199 (Nat.le_of_ble_eq_true rfl) (mjG.fg (lo' := [some (.ref a0), some (.int a1)]) (And.intro rfl (And.intro rfl True.intro)) ((t_199_0 hR (Nat.le_refl 0) (Nat.le_refl 0)) a0 a1 hp q h))
def J_202 : mjI := (⟨"OwnerHeap", "feed", "(IIIII)I"⟩, 11, prog_1_method_2_code, 6, (some .int), 5, false)
theorem Ja_202 : mjMt 202 = some J_202 := by rfl
theorem D_202_0 : decode J_202.2.2.1 0 = .ok (.aload_n 0, 1) := by decide +kernel
theorem D_202_1 : decode J_202.2.2.1 1 = .ok (.getfield 87, 3) := by decide +kernel
theorem D_202_4 : decode J_202.2.2.1 4 = .ok (.bipush 20, 2) := by decide +kernel
theorem D_202_6 : decode J_202.2.2.1 6 = .ok (.iadd, 1) := by decide +kernel
theorem D_202_7 : decode J_202.2.2.1 7 = .ok (.sipush 3000, 3) := by decide +kernel
theorem D_202_10 : decode J_202.2.2.1 10 = .ok (.if_icmp .le 5, 3) := by decide +kernel
theorem D_202_13 : decode J_202.2.2.1 13 = .ok (.iconst (-1), 1) := by decide +kernel
theorem D_202_14 : decode J_202.2.2.1 14 = .ok (.ireturn, 1) := by decide +kernel
theorem D_202_15 : decode J_202.2.2.1 15 = .ok (.aload_n 0, 1) := by decide +kernel
theorem D_202_16 : decode J_202.2.2.1 16 = .ok (.iload_n 1, 1) := by decide +kernel
theorem D_202_17 : decode J_202.2.2.1 17 = .ok (.invokevirtual 90, 3) := by decide +kernel
theorem D_202_20 : decode J_202.2.2.1 20 = .ok (.aload_n 0, 1) := by decide +kernel
theorem D_202_21 : decode J_202.2.2.1 21 = .ok (.iload_n 2, 1) := by decide +kernel
theorem D_202_22 : decode J_202.2.2.1 22 = .ok (.invokevirtual 90, 3) := by decide +kernel
theorem D_202_25 : decode J_202.2.2.1 25 = .ok (.aload_n 0, 1) := by decide +kernel
theorem D_202_26 : decode J_202.2.2.1 26 = .ok (.iload_n 3, 1) := by decide +kernel
theorem D_202_27 : decode J_202.2.2.1 27 = .ok (.invokevirtual 90, 3) := by decide +kernel
theorem D_202_30 : decode J_202.2.2.1 30 = .ok (.aload_n 0, 1) := by decide +kernel
theorem D_202_31 : decode J_202.2.2.1 31 = .ok (.iload 4, 2) := by decide +kernel
theorem D_202_33 : decode J_202.2.2.1 33 = .ok (.invokevirtual 90, 3) := by decide +kernel
theorem D_202_36 : decode J_202.2.2.1 36 = .ok (.aload_n 0, 1) := by decide +kernel
theorem D_202_37 : decode J_202.2.2.1 37 = .ok (.iload 5, 2) := by decide +kernel
theorem D_202_39 : decode J_202.2.2.1 39 = .ok (.invokevirtual 90, 3) := by decide +kernel
theorem D_202_42 : decode J_202.2.2.1 42 = .ok (.aload_n 0, 1) := by decide +kernel
theorem D_202_43 : decode J_202.2.2.1 43 = .ok (.getfield 87, 3) := by decide +kernel
theorem D_202_46 : decode J_202.2.2.1 46 = .ok (.ireturn, 1) := by decide +kernel
def P_202_0 (X : mjX) (d C S kc ks : Nat) (k : Nat → Int32 → Int32 → Int32 → Int32 → Int32 → mjH → mjU) : Prop := ∀ (l0 : Nat) (l1 : Int32) (l2 : Int32) (l3 : Int32) (l4 : Int32) (l5 : Int32) (hp : mjH) (q : Option Value × mjH), k l0 l1 l2 l3 l4 l5 hp = some q → mjG X d C S J_202 (mjEq q) 0 [some (.ref l0), some (.int l1), some (.int l2), some (.int l3), some (.int l4), some (.int l5)] [] hp kc ks
noncomputable def b_202_0 (R : mjR) (l0 : Nat) (l1 : Int32) (l2 : Int32) (l3 : Int32) (l4 : Int32) (l5 : Int32) (hp : mjH) : mjU := gI hp l0 11 1 (fun v1 => (if (v1 + (20 : Int32)) ≤ (3000 : Int32) then rV hp l0 11 (bN (R 203 [.ref l0, .int l1] hp) (fun  hp2 => rV hp2 l0 11 (bN (R 203 [.ref l0, .int l2] hp2) (fun  hp3 => rV hp3 l0 11 (bN (R 203 [.ref l0, .int l3] hp3) (fun  hp4 => rV hp4 l0 11 (bN (R 203 [.ref l0, .int l4] hp4) (fun  hp5 => rV hp5 l0 11 (bN (R 203 [.ref l0, .int l5] hp5) (fun  hp6 => gI hp6 l0 11 1 (fun v7 => some (some (.int v7), hp6)))))))))))) else some (some (.int (-1 : Int32)), hp)))
theorem t_202_0 {X : mjX} {d C S kc ks : Nat} {R : mjR} (hR : mjC R d) (h1 : kc ≤ C) (h2 : ks ≤ S) : P_202_0 X (d + 1) C S kc ks (b_202_0 R) := by
  intro l0 l1 l2 l3 l4 l5 hp q h
  unfold b_202_0 at h
  refine mjr_aload_n (x := l0) D_202_0 rfl ?_
  refine mjq_gI D_202_1 fr_11_87 h (fun v1 h => ?_)
  refine mjq_bi (v := (20 : Int32)) D_202_4 rfl ?_
  refine mjr_iadd D_202_6 ?_
  refine mjq_si (v := (3000 : Int32)) D_202_7 rfl ?_
  refine mjq_icmp_le (tgt := 15) D_202_10 rfl h (fun h => ?_) (fun h => ?_)
  · refine mjr_aload_n (x := l0) D_202_15 rfl ?_
    refine mjr_iload_n (x := l1) D_202_16 rfl ?_
    refine mjq_vN (As := [.int l1]) (rest := []) D_202_17 mr_11_90 V_203 rfl rfl rfl hR (Nat.le_refl _) h1 h2 h (fun  hp2 h => ?_)
    refine mjr_aload_n (x := l0) D_202_20 rfl ?_
    refine mjr_iload_n (x := l2) D_202_21 rfl ?_
    refine mjq_vN (As := [.int l2]) (rest := []) D_202_22 mr_11_90 V_203 rfl rfl rfl hR (Nat.le_refl _) h1 h2 h (fun  hp3 h => ?_)
    refine mjr_aload_n (x := l0) D_202_25 rfl ?_
    refine mjr_iload_n (x := l3) D_202_26 rfl ?_
    refine mjq_vN (As := [.int l3]) (rest := []) D_202_27 mr_11_90 V_203 rfl rfl rfl hR (Nat.le_refl _) h1 h2 h (fun  hp4 h => ?_)
    refine mjr_aload_n (x := l0) D_202_30 rfl ?_
    refine mjr_iload (x := l4) D_202_31 rfl ?_
    refine mjq_vN (As := [.int l4]) (rest := []) D_202_33 mr_11_90 V_203 rfl rfl rfl hR (Nat.le_refl _) h1 h2 h (fun  hp5 h => ?_)
    refine mjr_aload_n (x := l0) D_202_36 rfl ?_
    refine mjr_iload (x := l5) D_202_37 rfl ?_
    refine mjq_vN (As := [.int l5]) (rest := []) D_202_39 mr_11_90 V_203 rfl rfl rfl hR (Nat.le_refl _) h1 h2 h (fun  hp6 h => ?_)
    refine mjr_aload_n (x := l0) D_202_42 rfl ?_
    refine mjq_gI D_202_43 fr_11_87 h (fun v7 h => ?_)
    exact mjq_ret D_202_46 rfl h1 h2 h
  · refine mjq_ic (v := (-1 : Int32)) D_202_13 rfl ?_
    exact mjq_ret D_202_14 rfl h1 h2 h
noncomputable def f_202 (R : mjR) (a0 : Nat) (a1 : Int32) (a2 : Int32) (a3 : Int32) (a4 : Int32) (a5 : Int32) (hp : mjH) : mjU := b_202_0 R a0 a1 a2 a3 a4 a5 hp
theorem c_202 {R : mjR} {d : Nat} (hR : mjC R d) {a0 : Nat} {a1 : Int32} {a2 : Int32} {a3 : Int32} {a4 : Int32} {a5 : Int32} {hp : mjH} {q : Option Value × mjH} (h : f_202 R a0 a1 a2 a3 a4 a5 hp = some q) : mjM (d + 1) 0 0 202 [.ref a0, .int a1, .int a2, .int a3, .int a4, .int a5] hp (mjEq q) :=
  mjM_of Ja_202 (Nat.le_of_ble_eq_true rfl) (mjG.fg (lo' := [some (.ref a0), some (.int a1), some (.int a2), some (.int a3), some (.int a4), some (.int a5)]) (And.intro rfl (And.intro rfl (And.intro rfl (And.intro rfl (And.intro rfl (And.intro rfl True.intro)))))) ((t_202_0 hR (Nat.le_refl 0) (Nat.le_refl 0)) a0 a1 a2 a3 a4 a5 hp q h))
def J_203 : mjI := (⟨"OwnerHeap", "tapeInt", "(I)V"⟩, 11, prog_1_method_3_code, 3, none, 1, false)
theorem Ja_203 : mjMt 203 = some J_203 := by rfl
theorem D_203_0 : decode J_203.2.2.1 0 = .ok (.bipush 24, 2) := by decide +kernel
theorem D_203_2 : decode J_203.2.2.1 2 = .ok (.istore_n 2, 1) := by decide +kernel
theorem D_203_3 : decode J_203.2.2.1 3 = .ok (.iload_n 2, 1) := by decide +kernel
theorem D_203_4 : decode J_203.2.2.1 4 = .ok (.ifCond .lt 42, 3) := by decide +kernel
theorem D_203_7 : decode J_203.2.2.1 7 = .ok (.aload_n 0, 1) := by decide +kernel
theorem D_203_8 : decode J_203.2.2.1 8 = .ok (.getfield 87, 3) := by decide +kernel
theorem D_203_11 : decode J_203.2.2.1 11 = .ok (.sipush 3000, 3) := by decide +kernel
theorem D_203_14 : decode J_203.2.2.1 14 = .ok (.if_icmp .ge 32, 3) := by decide +kernel
theorem D_203_17 : decode J_203.2.2.1 17 = .ok (.aload_n 0, 1) := by decide +kernel
theorem D_203_18 : decode J_203.2.2.1 18 = .ok (.getfield 9, 3) := by decide +kernel
theorem D_203_21 : decode J_203.2.2.1 21 = .ok (.aload_n 0, 1) := by decide +kernel
theorem D_203_22 : decode J_203.2.2.1 22 = .ok (.getfield 87, 3) := by decide +kernel
theorem D_203_25 : decode J_203.2.2.1 25 = .ok (.iload_n 1, 1) := by decide +kernel
theorem D_203_26 : decode J_203.2.2.1 26 = .ok (.iload_n 2, 1) := by decide +kernel
theorem D_203_27 : decode J_203.2.2.1 27 = .ok (.ishr, 1) := by decide +kernel
theorem D_203_28 : decode J_203.2.2.1 28 = .ok (.i2b, 1) := by decide +kernel
theorem D_203_29 : decode J_203.2.2.1 29 = .ok (.bastore, 1) := by decide +kernel
theorem D_203_30 : decode J_203.2.2.1 30 = .ok (.aload_n 0, 1) := by decide +kernel
theorem D_203_31 : decode J_203.2.2.1 31 = .ok (.dup, 1) := by decide +kernel
theorem D_203_32 : decode J_203.2.2.1 32 = .ok (.getfield 87, 3) := by decide +kernel
theorem D_203_35 : decode J_203.2.2.1 35 = .ok (.iconst 1, 1) := by decide +kernel
theorem D_203_36 : decode J_203.2.2.1 36 = .ok (.iadd, 1) := by decide +kernel
theorem D_203_37 : decode J_203.2.2.1 37 = .ok (.putfield 87, 3) := by decide +kernel
theorem D_203_40 : decode J_203.2.2.1 40 = .ok (.iinc 2 (-8), 3) := by decide +kernel
theorem D_203_43 : decode J_203.2.2.1 43 = .ok (.goto (-40), 3) := by decide +kernel
theorem D_203_46 : decode J_203.2.2.1 46 = .ok (.return_, 1) := by decide +kernel
def P_203_3 (X : mjX) (d C S kc ks : Nat) (k : Nat → Int32 → Int32 → mjH → mjU) : Prop := ∀ (l0 : Nat) (l1 : Int32) (l2 : Int32) (hp : mjH) (q : Option Value × mjH), k l0 l1 l2 hp = some q → mjG X d C S J_203 (mjEq q) 3 [some (.ref l0), some (.int l1), some (.int l2)] [] hp kc ks
def P_203_0 (X : mjX) (d C S kc ks : Nat) (k : Nat → Int32 → mjH → mjU) : Prop := ∀ (l0 : Nat) (l1 : Int32) (hp : mjH) (q : Option Value × mjH), k l0 l1 hp = some q → mjG X d C S J_203 (mjEq q) 0 [some (.ref l0), some (.int l1), none] [] hp kc ks
noncomputable def b_203_3 (R : mjR) (k3 : Nat → Int32 → Int32 → mjH → mjU) (l0 : Nat) (l1 : Int32) (l2 : Int32) (hp : mjH) : mjU := (if l2 < 0 then some (none, hp) else gI hp l0 11 1 (fun v1 => (if (3000 : Int32) ≤ v1 then some (none, hp) else gR hp l0 11 0 (fun v2 => gI hp l0 11 1 (fun v3 => sB hp v2 v3 ((l1 >>> (l2 &&& 31))).toInt8.toInt32 (fun hp4 => gI hp4 l0 11 1 (fun v5 => pI hp4 l0 11 1 (v5 + (1 : Int32)) (fun hp6 => k3 l0 l1 (l2 + (-8 : Int32)) hp6))))))))
theorem t_203_3 {X : mjX} {d C S kc ks : Nat} {R : mjR} (hR : mjC R d) (h1 : kc ≤ C) (h2 : ks ≤ S) {k3 : Nat → Int32 → Int32 → mjH → mjU} (hk3 : P_203_3 X (d + 1) C S kc ks k3) : P_203_3 X (d + 1) C S kc ks (b_203_3 R k3) := by
  intro l0 l1 l2 hp q h
  unfold b_203_3 at h
  refine mjr_iload_n (x := l2) D_203_3 rfl ?_
  refine mjq_if_lt (tgt := 46) D_203_4 rfl h (fun h => ?_) (fun h => ?_)
  · exact mjq_nret D_203_46 rfl h1 h2 h
  · refine mjr_aload_n (x := l0) D_203_7 rfl ?_
    refine mjq_gI D_203_8 fr_11_87 h (fun v1 h => ?_)
    refine mjq_si (v := (3000 : Int32)) D_203_11 rfl ?_
    refine mjq_icmp_ge (tgt := 46) D_203_14 rfl h (fun h => ?_) (fun h => ?_)
    · exact mjq_nret D_203_46 rfl h1 h2 h
    · refine mjr_aload_n (x := l0) D_203_17 rfl ?_
      refine mjq_gR D_203_18 fr_11_9 h (fun v2 h => ?_)
      refine mjr_aload_n (x := l0) D_203_21 rfl ?_
      refine mjq_gI D_203_22 fr_11_87 h (fun v3 h => ?_)
      refine mjr_iload_n (x := l1) D_203_25 rfl ?_
      refine mjr_iload_n (x := l2) D_203_26 rfl ?_
      refine mjr_ishr D_203_27 ?_
      refine mjr_i2b D_203_28 ?_
      refine mjq_sB D_203_29 h (fun hp4 h => ?_)
      refine mjr_aload_n (x := l0) D_203_30 rfl ?_
      refine mjr_dup D_203_31 rfl ?_
      refine mjq_gI D_203_32 fr_11_87 h (fun v5 h => ?_)
      refine mjq_ic (v := (1 : Int32)) D_203_35 rfl ?_
      refine mjr_iadd D_203_36 ?_
      refine mjq_pI D_203_37 fr_11_87 rfl rfl h (fun hp6 h => ?_)
      refine mjq_iinc (x := l2) (c := (-8 : Int32)) (lo' := [some (.ref l0), some (.int l1), some (.int (l2 + (-8 : Int32)))]) D_203_40 rfl (Nat.le_of_ble_eq_true rfl) rfl rfl ?_
      refine mjr_goto (tgt := 3) D_203_43 rfl ?_
      exact hk3 _ _ _ _ _ h
noncomputable def L_203_3 (R : mjR) (n : Nat) : Nat → Int32 → Int32 → mjH → mjU := Nat.rec (motive := fun _ => Nat → Int32 → Int32 → mjH → mjU) (fun _ _ _ _ => none) (fun _ self => b_203_3 R self) n
theorem T_203_3 {X : mjX} {d C S kc ks : Nat} {R : mjR} (hR : mjC R d) (h1 : kc ≤ C) (h2 : ks ≤ S) (n : Nat) : P_203_3 X (d + 1) C S kc ks (L_203_3 R n) := by
  induction n with
  | zero => intro _ _ _ _ _ h; exact mj_no h
  | succ n ih => exact t_203_3 hR h1 h2 ih
noncomputable def b_203_0 (R : mjR) (l0 : Nat) (l1 : Int32) (hp : mjH) : mjU := L_203_3 R mjN l0 l1 (24 : Int32) hp
theorem t_203_0 {X : mjX} {d C S kc ks : Nat} {R : mjR} (hR : mjC R d) (h1 : kc ≤ C) (h2 : ks ≤ S) : P_203_0 X (d + 1) C S kc ks (b_203_0 R) := by
  intro l0 l1 hp q h
  unfold b_203_0 at h
  refine mjq_bi (v := (24 : Int32)) D_203_0 rfl ?_
  refine mjq_istore_n (lo' := [some (.ref l0), some (.int l1), some (.int (24 : Int32))]) D_203_2 (Nat.le_of_ble_eq_true rfl) rfl ?_
  exact (T_203_3 hR h1 h2 mjN) _ _ _ _ _ h
noncomputable def f_203 (R : mjR) (a0 : Nat) (a1 : Int32) (hp : mjH) : mjU := b_203_0 R a0 a1 hp
theorem c_203 {R : mjR} {d : Nat} (hR : mjC R d) {a0 : Nat} {a1 : Int32} {hp : mjH} {q : Option Value × mjH} (h : f_203 R a0 a1 hp = some q) : mjM (d + 1) 0 0 203 [.ref a0, .int a1] hp (mjEq q) :=
  mjM_of Ja_203 (Nat.le_of_ble_eq_true rfl) (mjG.fg (lo' := [some (.ref a0), some (.int a1), none]) (And.intro rfl (And.intro rfl True.intro)) ((t_203_0 hR (Nat.le_refl 0) (Nat.le_refl 0)) a0 a1 hp q h))
def J_204 : mjI := (⟨"OwnerHeap", "load", "(IZ)I"⟩, 11, prog_1_method_4_code, 3, (some .int), 2, false)
theorem Ja_204 : mjMt 204 = some J_204 := by rfl
theorem D_204_0 : decode J_204.2.2.1 0 = .ok (.iload_n 1, 1) := by decide +kernel
theorem D_204_1 : decode J_204.2.2.1 1 = .ok (.ifCond .lt 11, 3) := by decide +kernel
theorem D_204_4 : decode J_204.2.2.1 4 = .ok (.iload_n 1, 1) := by decide +kernel
theorem D_204_5 : decode J_204.2.2.1 5 = .ok (.aload_n 0, 1) := by decide +kernel
theorem D_204_6 : decode J_204.2.2.1 6 = .ok (.getfield 87, 3) := by decide +kernel
theorem D_204_9 : decode J_204.2.2.1 9 = .ok (.if_icmp .le 5, 3) := by decide +kernel
theorem D_204_12 : decode J_204.2.2.1 12 = .ok (.iconst (-1), 1) := by decide +kernel
theorem D_204_13 : decode J_204.2.2.1 13 = .ok (.ireturn, 1) := by decide +kernel
theorem D_204_14 : decode J_204.2.2.1 14 = .ok (.aload_n 0, 1) := by decide +kernel
theorem D_204_15 : decode J_204.2.2.1 15 = .ok (.iconst 0, 1) := by decide +kernel
theorem D_204_16 : decode J_204.2.2.1 16 = .ok (.putfield 87, 3) := by decide +kernel
theorem D_204_19 : decode J_204.2.2.1 19 = .ok (.aload_n 0, 1) := by decide +kernel
theorem D_204_20 : decode J_204.2.2.1 20 = .ok (.getfield 26, 3) := by decide +kernel
theorem D_204_23 : decode J_204.2.2.1 23 = .ok (.aload_n 0, 1) := by decide +kernel
theorem D_204_24 : decode J_204.2.2.1 24 = .ok (.getfield 9, 3) := by decide +kernel
theorem D_204_27 : decode J_204.2.2.1 27 = .ok (.iload_n 1, 1) := by decide +kernel
theorem D_204_28 : decode J_204.2.2.1 28 = .ok (.invokevirtual 94, 3) := by decide +kernel
theorem D_204_31 : decode J_204.2.2.1 31 = .ok (.aload_n 0, 1) := by decide +kernel
theorem D_204_32 : decode J_204.2.2.1 32 = .ok (.getfield 20, 3) := by decide +kernel
theorem D_204_35 : decode J_204.2.2.1 35 = .ok (.invokevirtual 98, 3) := by decide +kernel
theorem D_204_38 : decode J_204.2.2.1 38 = .ok (.aload_n 0, 1) := by decide +kernel
theorem D_204_39 : decode J_204.2.2.1 39 = .ok (.getfield 35, 3) := by decide +kernel
theorem D_204_42 : decode J_204.2.2.1 42 = .ok (.aload_n 0, 1) := by decide +kernel
theorem D_204_43 : decode J_204.2.2.1 43 = .ok (.getfield 20, 3) := by decide +kernel
theorem D_204_46 : decode J_204.2.2.1 46 = .ok (.invokevirtual 101, 3) := by decide +kernel
theorem D_204_49 : decode J_204.2.2.1 49 = .ok (.aload_n 0, 1) := by decide +kernel
theorem D_204_50 : decode J_204.2.2.1 50 = .ok (.getfield 26, 3) := by decide +kernel
theorem D_204_53 : decode J_204.2.2.1 53 = .ok (.invokevirtual 105, 3) := by decide +kernel
theorem D_204_56 : decode J_204.2.2.1 56 = .ok (.ifCond .eq 15, 3) := by decide +kernel
theorem D_204_59 : decode J_204.2.2.1 59 = .ok (.aload_n 0, 1) := by decide +kernel
theorem D_204_60 : decode J_204.2.2.1 60 = .ok (.getfield 44, 3) := by decide +kernel
theorem D_204_63 : decode J_204.2.2.1 63 = .ok (.aload_n 0, 1) := by decide +kernel
theorem D_204_64 : decode J_204.2.2.1 64 = .ok (.getfield 20, 3) := by decide +kernel
theorem D_204_67 : decode J_204.2.2.1 67 = .ok (.iload_n 2, 1) := by decide +kernel
theorem D_204_68 : decode J_204.2.2.1 68 = .ok (.invokevirtual 109, 3) := by decide +kernel
theorem D_204_71 : decode J_204.2.2.1 71 = .ok (.aload_n 0, 1) := by decide +kernel
theorem D_204_72 : decode J_204.2.2.1 72 = .ok (.getfield 26, 3) := by decide +kernel
theorem D_204_75 : decode J_204.2.2.1 75 = .ok (.invokevirtual 105, 3) := by decide +kernel
theorem D_204_78 : decode J_204.2.2.1 78 = .ok (.ifCond .eq 14, 3) := by decide +kernel
theorem D_204_81 : decode J_204.2.2.1 81 = .ok (.aload_n 0, 1) := by decide +kernel
theorem D_204_82 : decode J_204.2.2.1 82 = .ok (.getfield 53, 3) := by decide +kernel
theorem D_204_85 : decode J_204.2.2.1 85 = .ok (.aload_n 0, 1) := by decide +kernel
theorem D_204_86 : decode J_204.2.2.1 86 = .ok (.getfield 20, 3) := by decide +kernel
theorem D_204_89 : decode J_204.2.2.1 89 = .ok (.invokevirtual 113, 3) := by decide +kernel
theorem D_204_92 : decode J_204.2.2.1 92 = .ok (.aload_n 0, 1) := by decide +kernel
theorem D_204_93 : decode J_204.2.2.1 93 = .ok (.aload_n 0, 1) := by decide +kernel
theorem D_204_94 : decode J_204.2.2.1 94 = .ok (.getfield 26, 3) := by decide +kernel
theorem D_204_97 : decode J_204.2.2.1 97 = .ok (.getfield 116, 3) := by decide +kernel
theorem D_204_100 : decode J_204.2.2.1 100 = .ok (.putfield 57, 3) := by decide +kernel
theorem D_204_103 : decode J_204.2.2.1 103 = .ok (.aload_n 0, 1) := by decide +kernel
theorem D_204_104 : decode J_204.2.2.1 104 = .ok (.aload_n 0, 1) := by decide +kernel
theorem D_204_105 : decode J_204.2.2.1 105 = .ok (.getfield 26, 3) := by decide +kernel
theorem D_204_108 : decode J_204.2.2.1 108 = .ok (.getfield 117, 3) := by decide +kernel
theorem D_204_111 : decode J_204.2.2.1 111 = .ok (.putfield 61, 3) := by decide +kernel
theorem D_204_114 : decode J_204.2.2.1 114 = .ok (.aload_n 0, 1) := by decide +kernel
theorem D_204_115 : decode J_204.2.2.1 115 = .ok (.getfield 57, 3) := by decide +kernel
theorem D_204_118 : decode J_204.2.2.1 118 = .ok (.ifCond .ne 7, 3) := by decide +kernel
theorem D_204_121 : decode J_204.2.2.1 121 = .ok (.aload_n 0, 1) := by decide +kernel
theorem D_204_122 : decode J_204.2.2.1 122 = .ok (.invokevirtual 118, 3) := by decide +kernel
theorem D_204_125 : decode J_204.2.2.1 125 = .ok (.aload_n 0, 1) := by decide +kernel
theorem D_204_126 : decode J_204.2.2.1 126 = .ok (.getfield 57, 3) := by decide +kernel
theorem D_204_129 : decode J_204.2.2.1 129 = .ok (.ireturn, 1) := by decide +kernel
def P_204_12 (X : mjX) (d C S kc ks : Nat) (k : mjH → mjU) : Prop := ∀  (hp : mjH) (q : Option Value × mjH), k  hp = some q → mjG X d C S J_204 (mjEq q) 12 [none, none, none] [] hp kc ks
def P_204_125 (X : mjX) (d C S kc ks : Nat) (k : Nat → mjH → mjU) : Prop := ∀ (l0 : Nat) (hp : mjH) (q : Option Value × mjH), k l0 hp = some q → mjG X d C S J_204 (mjEq q) 125 [some (.ref l0), none, none] [] hp kc ks
def P_204_92 (X : mjX) (d C S kc ks : Nat) (k : Nat → mjH → mjU) : Prop := ∀ (l0 : Nat) (hp : mjH) (q : Option Value × mjH), k l0 hp = some q → mjG X d C S J_204 (mjEq q) 92 [some (.ref l0), none, none] [] hp kc ks
def P_204_71 (X : mjX) (d C S kc ks : Nat) (k : Nat → mjH → mjU) : Prop := ∀ (l0 : Nat) (hp : mjH) (q : Option Value × mjH), k l0 hp = some q → mjG X d C S J_204 (mjEq q) 71 [some (.ref l0), none, none] [] hp kc ks
def P_204_0 (X : mjX) (d C S kc ks : Nat) (k : Nat → Int32 → Int32 → mjH → mjU) : Prop := ∀ (l0 : Nat) (l1 : Int32) (l2 : Int32) (hp : mjH) (q : Option Value × mjH), k l0 l1 l2 hp = some q → mjG X d C S J_204 (mjEq q) 0 [some (.ref l0), some (.int l1), some (.int l2)] [] hp kc ks
noncomputable def b_204_12 (R : mjR)  (hp : mjH) : mjU := some (some (.int (-1 : Int32)), hp)
theorem t_204_12 {X : mjX} {d C S kc ks : Nat} {R : mjR} (hR : mjC R d) (h1 : kc ≤ C) (h2 : ks ≤ S) : P_204_12 X (d + 1) C S kc ks (b_204_12 R) := by
  intro  hp q h
  unfold b_204_12 at h
  refine mjq_ic (v := (-1 : Int32)) D_204_12 rfl ?_
  exact mjq_ret D_204_13 rfl h1 h2 h
noncomputable def b_204_125 (R : mjR) (l0 : Nat) (hp : mjH) : mjU := gI hp l0 11 9 (fun v1 => some (some (.int v1), hp))
theorem t_204_125 {X : mjX} {d C S kc ks : Nat} {R : mjR} (hR : mjC R d) (h1 : kc ≤ C) (h2 : ks ≤ S) : P_204_125 X (d + 1) C S kc ks (b_204_125 R) := by
  intro l0 hp q h
  unfold b_204_125 at h
  refine mjr_aload_n (x := l0) D_204_125 rfl ?_
  refine mjq_gI D_204_126 fr_11_57 h (fun v1 h => ?_)
  exact mjq_ret D_204_129 rfl h1 h2 h
noncomputable def b_204_92 (R : mjR) (l0 : Nat) (hp : mjH) : mjU := gR hp l0 11 2 (fun v1 => gI hp v1 9 7 (fun v2 => pI hp l0 11 9 v2 (fun hp3 => gR hp3 l0 11 2 (fun v4 => gI hp3 v4 9 8 (fun v5 => pI hp3 l0 11 10 v5 (fun hp6 => gI hp6 l0 11 9 (fun v7 => (if v7 = 0 then rV hp6 l0 11 (bN (R 205 [.ref l0] hp6) (fun  hp8 => b_204_125 R l0 hp8)) else b_204_125 R l0 hp6))))))))
theorem t_204_92 {X : mjX} {d C S kc ks : Nat} {R : mjR} (hR : mjC R d) (h1 : kc ≤ C) (h2 : ks ≤ S) : P_204_92 X (d + 1) C S kc ks (b_204_92 R) := by
  intro l0 hp q h
  unfold b_204_92 at h
  refine mjr_aload_n (x := l0) D_204_92 rfl ?_
  refine mjr_aload_n (x := l0) D_204_93 rfl ?_
  refine mjq_gR D_204_94 fr_11_26 h (fun v1 h => ?_)
  refine mjq_gI D_204_97 fr_11_116 h (fun v2 h => ?_)
  refine mjq_pI D_204_100 fr_11_57 rfl rfl h (fun hp3 h => ?_)
  refine mjr_aload_n (x := l0) D_204_103 rfl ?_
  refine mjr_aload_n (x := l0) D_204_104 rfl ?_
  refine mjq_gR D_204_105 fr_11_26 h (fun v4 h => ?_)
  refine mjq_gI D_204_108 fr_11_117 h (fun v5 h => ?_)
  refine mjq_pI D_204_111 fr_11_61 rfl rfl h (fun hp6 h => ?_)
  refine mjr_aload_n (x := l0) D_204_114 rfl ?_
  refine mjq_gI D_204_115 fr_11_57 h (fun v7 h => ?_)
  refine mjq_if_ne (tgt := 125) D_204_118 rfl h (fun h => ?_) (fun h => ?_)
  · exact (t_204_125 hR h1 h2) _ _ _ h
  · refine mjr_aload_n (x := l0) D_204_121 rfl ?_
    refine mjq_vN (As := []) (rest := []) D_204_122 mr_11_118 V_205 rfl rfl rfl hR (Nat.le_refl _) h1 h2 h (fun  hp8 h => ?_)
    exact (t_204_125 hR h1 h2) _ _ _ h
noncomputable def b_204_71 (R : mjR) (l0 : Nat) (hp : mjH) : mjU := gR hp l0 11 2 (fun v1 => rV hp v1 9 (bI (R 172 [.ref v1] hp) (fun v2 hp3 => (if v2 = 0 then b_204_92 R l0 hp3 else gR hp3 l0 11 5 (fun v4 => gR hp3 l0 11 7 (fun v5 => rV hp3 v4 1 (bN (R 4 [.ref v4, .ref v5] hp3) (fun  hp6 => b_204_92 R l0 hp6))))))))
theorem t_204_71 {X : mjX} {d C S kc ks : Nat} {R : mjR} (hR : mjC R d) (h1 : kc ≤ C) (h2 : ks ≤ S) : P_204_71 X (d + 1) C S kc ks (b_204_71 R) := by
  intro l0 hp q h
  unfold b_204_71 at h
  refine mjr_aload_n (x := l0) D_204_71 rfl ?_
  refine mjq_gR D_204_72 fr_11_26 h (fun v1 h => ?_)
  refine mjq_vI (As := []) (rest := []) D_204_75 mr_11_105 V_172 rfl rfl rfl hR (Nat.le_refl _) h1 h2 h (fun v2 hp3 h => ?_)
  refine mjq_if_eq (tgt := 92) D_204_78 rfl h (fun h => ?_) (fun h => ?_)
  · exact (t_204_92 hR h1 h2) _ _ _ h
  · refine mjr_aload_n (x := l0) D_204_81 rfl ?_
    refine mjq_gR D_204_82 fr_11_53 h (fun v4 h => ?_)
    refine mjr_aload_n (x := l0) D_204_85 rfl ?_
    refine mjq_gR D_204_86 fr_11_20 h (fun v5 h => ?_)
    refine mjq_vN (As := [.ref v5]) (rest := []) D_204_89 mr_11_113 V_4 rfl rfl rfl hR (Nat.le_refl _) h1 h2 h (fun  hp6 h => ?_)
    exact (t_204_92 hR h1 h2) _ _ _ h
noncomputable def b_204_0 (R : mjR) (l0 : Nat) (l1 : Int32) (l2 : Int32) (hp : mjH) : mjU := (if l1 < 0 then b_204_12 R hp else gI hp l0 11 1 (fun v1 => (if l1 ≤ v1 then pI hp l0 11 1 (0 : Int32) (fun hp2 => gR hp2 l0 11 2 (fun v3 => gR hp2 l0 11 0 (fun v4 => rV hp2 v3 9 (bN (R 154 [.ref v3, .ref v4, .int l1] hp2) (fun  hp5 => gR hp5 l0 11 7 (fun v6 => rV hp5 v6 7 (bN (R 101 [.ref v6] hp5) (fun  hp7 => gR hp7 l0 11 3 (fun v8 => gR hp7 l0 11 7 (fun v9 => rV hp7 v8 8 (bN (R 126 [.ref v8, .ref v9] hp7) (fun  hp10 => gR hp10 l0 11 2 (fun v11 => rV hp10 v11 9 (bI (R 172 [.ref v11] hp10) (fun v12 hp13 => (if v12 = 0 then b_204_71 R l0 hp13 else gR hp13 l0 11 4 (fun v14 => gR hp13 l0 11 7 (fun v15 => rV hp13 v14 4 (bN (R 54 [.ref v14, .ref v15, .int l2] hp13) (fun  hp16 => b_204_71 R l0 hp16)))))))))))))))))))) else b_204_12 R hp)))
theorem t_204_0 {X : mjX} {d C S kc ks : Nat} {R : mjR} (hR : mjC R d) (h1 : kc ≤ C) (h2 : ks ≤ S) : P_204_0 X (d + 1) C S kc ks (b_204_0 R) := by
  intro l0 l1 l2 hp q h
  unfold b_204_0 at h
  refine mjr_iload_n (x := l1) D_204_0 rfl ?_
  refine mjq_if_lt (tgt := 12) D_204_1 rfl h (fun h => ?_) (fun h => ?_)
  · exact mjG.fg (lo' := [none, none, none]) True.intro ((t_204_12 hR h1 h2) _ _ h)
  · refine mjr_iload_n (x := l1) D_204_4 rfl ?_
    refine mjr_aload_n (x := l0) D_204_5 rfl ?_
    refine mjq_gI D_204_6 fr_11_87 h (fun v1 h => ?_)
    refine mjq_icmp_le (tgt := 14) D_204_9 rfl h (fun h => ?_) (fun h => ?_)
    · refine mjr_aload_n (x := l0) D_204_14 rfl ?_
      refine mjq_ic (v := (0 : Int32)) D_204_15 rfl ?_
      refine mjq_pI D_204_16 fr_11_87 rfl rfl h (fun hp2 h => ?_)
      refine mjr_aload_n (x := l0) D_204_19 rfl ?_
      refine mjq_gR D_204_20 fr_11_26 h (fun v3 h => ?_)
      refine mjr_aload_n (x := l0) D_204_23 rfl ?_
      refine mjq_gR D_204_24 fr_11_9 h (fun v4 h => ?_)
      refine mjr_iload_n (x := l1) D_204_27 rfl ?_
      refine mjq_vN (As := [.ref v4, .int l1]) (rest := []) D_204_28 mr_11_94 V_154 rfl rfl rfl hR (Nat.le_refl _) h1 h2 h (fun  hp5 h => ?_)
      refine mjr_aload_n (x := l0) D_204_31 rfl ?_
      refine mjq_gR D_204_32 fr_11_20 h (fun v6 h => ?_)
      refine mjq_vN (As := []) (rest := []) D_204_35 mr_11_98 V_101 rfl rfl rfl hR (Nat.le_refl _) h1 h2 h (fun  hp7 h => ?_)
      refine mjr_aload_n (x := l0) D_204_38 rfl ?_
      refine mjq_gR D_204_39 fr_11_35 h (fun v8 h => ?_)
      refine mjr_aload_n (x := l0) D_204_42 rfl ?_
      refine mjq_gR D_204_43 fr_11_20 h (fun v9 h => ?_)
      refine mjq_vN (As := [.ref v9]) (rest := []) D_204_46 mr_11_101 V_126 rfl rfl rfl hR (Nat.le_refl _) h1 h2 h (fun  hp10 h => ?_)
      refine mjr_aload_n (x := l0) D_204_49 rfl ?_
      refine mjq_gR D_204_50 fr_11_26 h (fun v11 h => ?_)
      refine mjq_vI (As := []) (rest := []) D_204_53 mr_11_105 V_172 rfl rfl rfl hR (Nat.le_refl _) h1 h2 h (fun v12 hp13 h => ?_)
      refine mjq_if_eq (tgt := 71) D_204_56 rfl h (fun h => ?_) (fun h => ?_)
      · exact mjG.fg (lo' := [some (.ref l0), none, none]) (And.intro rfl True.intro) ((t_204_71 hR h1 h2) _ _ _ h)
      · refine mjr_aload_n (x := l0) D_204_59 rfl ?_
        refine mjq_gR D_204_60 fr_11_44 h (fun v14 h => ?_)
        refine mjr_aload_n (x := l0) D_204_63 rfl ?_
        refine mjq_gR D_204_64 fr_11_20 h (fun v15 h => ?_)
        refine mjr_iload_n (x := l2) D_204_67 rfl ?_
        refine mjq_vN (As := [.ref v15, .int l2]) (rest := []) D_204_68 mr_11_109 V_54 rfl rfl rfl hR (Nat.le_refl _) h1 h2 h (fun  hp16 h => ?_)
        exact mjG.fg (lo' := [some (.ref l0), none, none]) (And.intro rfl True.intro) ((t_204_71 hR h1 h2) _ _ _ h)
    · exact mjG.fg (lo' := [none, none, none]) True.intro ((t_204_12 hR h1 h2) _ _ h)
noncomputable def f_204 (R : mjR) (a0 : Nat) (a1 : Int32) (a2 : Int32) (hp : mjH) : mjU := b_204_0 R a0 a1 a2 hp
theorem c_204 {R : mjR} {d : Nat} (hR : mjC R d) {a0 : Nat} {a1 : Int32} {a2 : Int32} {hp : mjH} {q : Option Value × mjH} (h : f_204 R a0 a1 a2 hp = some q) : mjM (d + 1) 0 0 204 [.ref a0, .int a1, .int a2] hp (mjEq q) :=
  mjM_of Ja_204 (Nat.le_of_ble_eq_true rfl) (mjG.fg (lo' := [some (.ref a0), some (.int a1), some (.int a2)]) (And.intro rfl (And.intro rfl (And.intro rfl True.intro))) ((t_204_0 hR (Nat.le_refl 0) (Nat.le_refl 0)) a0 a1 a2 hp q h))
def J_206 : mjI := (⟨"OwnerHeap", "fault", "(I)I"⟩, 11, prog_1_method_6_code, 2, (some .int), 1, false)
theorem Ja_206 : mjMt 206 = some J_206 := by rfl
theorem D_206_0 : decode J_206.2.2.1 0 = .ok (.iload_n 1, 1) := by decide +kernel
theorem D_206_1 : decode J_206.2.2.1 1 = .ok (.ifCond .ne 8, 3) := by decide +kernel
theorem D_206_4 : decode J_206.2.2.1 4 = .ok (.aload_n 0, 1) := by decide +kernel
theorem D_206_5 : decode J_206.2.2.1 5 = .ok (.getfield 57, 3) := by decide +kernel
theorem D_206_8 : decode J_206.2.2.1 8 = .ok (.ireturn, 1) := by decide +kernel
theorem D_206_9 : decode J_206.2.2.1 9 = .ok (.iload_n 1, 1) := by decide +kernel
theorem D_206_10 : decode J_206.2.2.1 10 = .ok (.iconst 1, 1) := by decide +kernel
theorem D_206_11 : decode J_206.2.2.1 11 = .ok (.if_icmp .ne 10, 3) := by decide +kernel
theorem D_206_14 : decode J_206.2.2.1 14 = .ok (.aload_n 0, 1) := by decide +kernel
theorem D_206_15 : decode J_206.2.2.1 15 = .ok (.getfield 61, 3) := by decide +kernel
theorem D_206_18 : decode J_206.2.2.1 18 = .ok (.goto 4, 3) := by decide +kernel
theorem D_206_21 : decode J_206.2.2.1 21 = .ok (.iconst (-1), 1) := by decide +kernel
theorem D_206_22 : decode J_206.2.2.1 22 = .ok (.ireturn, 1) := by decide +kernel
def P_206_0 (X : mjX) (d C S kc ks : Nat) (k : Nat → Int32 → mjH → mjU) : Prop := ∀ (l0 : Nat) (l1 : Int32) (hp : mjH) (q : Option Value × mjH), k l0 l1 hp = some q → mjG X d C S J_206 (mjEq q) 0 [some (.ref l0), some (.int l1)] [] hp kc ks
noncomputable def b_206_0 (R : mjR) (l0 : Nat) (l1 : Int32) (hp : mjH) : mjU := (if l1 = 0 then gI hp l0 11 9 (fun v2 => some (some (.int v2), hp)) else (if l1 = (1 : Int32) then gI hp l0 11 10 (fun v1 => some (some (.int v1), hp)) else some (some (.int (-1 : Int32)), hp)))
theorem t_206_0 {X : mjX} {d C S kc ks : Nat} {R : mjR} (hR : mjC R d) (h1 : kc ≤ C) (h2 : ks ≤ S) : P_206_0 X (d + 1) C S kc ks (b_206_0 R) := by
  intro l0 l1 hp q h
  unfold b_206_0 at h
  refine mjr_iload_n (x := l1) D_206_0 rfl ?_
  refine mjq_if_ne (tgt := 9) D_206_1 rfl h (fun h => ?_) (fun h => ?_)
  · refine mjr_iload_n (x := l1) D_206_9 rfl ?_
    refine mjq_ic (v := (1 : Int32)) D_206_10 rfl ?_
    refine mjq_icmp_ne (tgt := 21) D_206_11 rfl h (fun h => ?_) (fun h => ?_)
    · refine mjq_ic (v := (-1 : Int32)) D_206_21 rfl ?_
      exact mjq_ret D_206_22 rfl h1 h2 h
    · refine mjr_aload_n (x := l0) D_206_14 rfl ?_
      refine mjq_gI D_206_15 fr_11_61 h (fun v1 h => ?_)
      refine mjr_goto (tgt := 22) D_206_18 rfl ?_
      exact mjq_ret D_206_22 rfl h1 h2 h
  · refine mjr_aload_n (x := l0) D_206_4 rfl ?_
    refine mjq_gI D_206_5 fr_11_57 h (fun v2 h => ?_)
    exact mjq_ret D_206_8 rfl h1 h2 h
noncomputable def f_206 (R : mjR) (a0 : Nat) (a1 : Int32) (hp : mjH) : mjU := b_206_0 R a0 a1 hp
theorem c_206 {R : mjR} {d : Nat} (hR : mjC R d) {a0 : Nat} {a1 : Int32} {hp : mjH} {q : Option Value × mjH} (h : f_206 R a0 a1 hp = some q) : mjM (d + 1) 0 0 206 [.ref a0, .int a1] hp (mjEq q) :=
  mjM_of Ja_206 (Nat.le_of_ble_eq_true rfl) (mjG.fg (lo' := [some (.ref a0), some (.int a1)]) (And.intro rfl (And.intro rfl True.intro)) ((t_206_0 hR (Nat.le_refl 0) (Nat.le_refl 0)) a0 a1 hp q h))
def J_207 : mjI := (⟨"OwnerHeap", "type", "(II)I"⟩, 11, prog_1_method_7_code, 3, (some .int), 2, false)
theorem Ja_207 : mjMt 207 = some J_207 := by rfl
theorem D_207_0 : decode J_207.2.2.1 0 = .ok (.aload_n 0, 1) := by decide +kernel
theorem D_207_1 : decode J_207.2.2.1 1 = .ok (.getfield 121, 3) := by decide +kernel
theorem D_207_4 : decode J_207.2.2.1 4 = .ok (.ifCond .eq 18, 3) := by decide +kernel
theorem D_207_7 : decode J_207.2.2.1 7 = .ok (.iload_n 1, 1) := by decide +kernel
theorem D_207_8 : decode J_207.2.2.1 8 = .ok (.ifCond .lt 14, 3) := by decide +kernel
theorem D_207_11 : decode J_207.2.2.1 11 = .ok (.iload_n 1, 1) := by decide +kernel
theorem D_207_12 : decode J_207.2.2.1 12 = .ok (.aload_n 0, 1) := by decide +kernel
theorem D_207_13 : decode J_207.2.2.1 13 = .ok (.getfield 16, 3) := by decide +kernel
theorem D_207_16 : decode J_207.2.2.1 16 = .ok (.getfield 131, 3) := by decide +kernel
theorem D_207_19 : decode J_207.2.2.1 19 = .ok (.if_icmp .lt 5, 3) := by decide +kernel
theorem D_207_22 : decode J_207.2.2.1 22 = .ok (.iconst (-1), 1) := by decide +kernel
theorem D_207_23 : decode J_207.2.2.1 23 = .ok (.ireturn, 1) := by decide +kernel
theorem D_207_24 : decode J_207.2.2.1 24 = .ok (.iload_n 2, 1) := by decide +kernel
theorem D_207_25 : decode J_207.2.2.1 25 = .ok (.tableswitch 98 0 5 #[39, 49, 58, 68, 78, 88], 39) := by decide +kernel
theorem D_207_64 : decode J_207.2.2.1 64 = .ok (.aload_n 0, 1) := by decide +kernel
theorem D_207_65 : decode J_207.2.2.1 65 = .ok (.getfield 16, 3) := by decide +kernel
theorem D_207_68 : decode J_207.2.2.1 68 = .ok (.getfield 134, 3) := by decide +kernel
theorem D_207_71 : decode J_207.2.2.1 71 = .ok (.iload_n 1, 1) := by decide +kernel
theorem D_207_72 : decode J_207.2.2.1 72 = .ok (.iaload, 1) := by decide +kernel
theorem D_207_73 : decode J_207.2.2.1 73 = .ok (.ireturn, 1) := by decide +kernel
theorem D_207_74 : decode J_207.2.2.1 74 = .ok (.aload_n 0, 1) := by decide +kernel
theorem D_207_75 : decode J_207.2.2.1 75 = .ok (.getfield 16, 3) := by decide +kernel
theorem D_207_78 : decode J_207.2.2.1 78 = .ok (.iload_n 1, 1) := by decide +kernel
theorem D_207_79 : decode J_207.2.2.1 79 = .ok (.invokevirtual 138, 3) := by decide +kernel
theorem D_207_82 : decode J_207.2.2.1 82 = .ok (.ireturn, 1) := by decide +kernel
theorem D_207_83 : decode J_207.2.2.1 83 = .ok (.aload_n 0, 1) := by decide +kernel
theorem D_207_84 : decode J_207.2.2.1 84 = .ok (.getfield 16, 3) := by decide +kernel
theorem D_207_87 : decode J_207.2.2.1 87 = .ok (.getfield 142, 3) := by decide +kernel
theorem D_207_90 : decode J_207.2.2.1 90 = .ok (.iload_n 1, 1) := by decide +kernel
theorem D_207_91 : decode J_207.2.2.1 91 = .ok (.iaload, 1) := by decide +kernel
theorem D_207_92 : decode J_207.2.2.1 92 = .ok (.ireturn, 1) := by decide +kernel
theorem D_207_93 : decode J_207.2.2.1 93 = .ok (.aload_n 0, 1) := by decide +kernel
theorem D_207_94 : decode J_207.2.2.1 94 = .ok (.getfield 16, 3) := by decide +kernel
theorem D_207_97 : decode J_207.2.2.1 97 = .ok (.getfield 145, 3) := by decide +kernel
theorem D_207_100 : decode J_207.2.2.1 100 = .ok (.iload_n 1, 1) := by decide +kernel
theorem D_207_101 : decode J_207.2.2.1 101 = .ok (.iaload, 1) := by decide +kernel
theorem D_207_102 : decode J_207.2.2.1 102 = .ok (.ireturn, 1) := by decide +kernel
theorem D_207_103 : decode J_207.2.2.1 103 = .ok (.aload_n 0, 1) := by decide +kernel
theorem D_207_104 : decode J_207.2.2.1 104 = .ok (.getfield 16, 3) := by decide +kernel
theorem D_207_107 : decode J_207.2.2.1 107 = .ok (.getfield 148, 3) := by decide +kernel
theorem D_207_110 : decode J_207.2.2.1 110 = .ok (.iload_n 1, 1) := by decide +kernel
theorem D_207_111 : decode J_207.2.2.1 111 = .ok (.iaload, 1) := by decide +kernel
theorem D_207_112 : decode J_207.2.2.1 112 = .ok (.ireturn, 1) := by decide +kernel
theorem D_207_113 : decode J_207.2.2.1 113 = .ok (.aload_n 0, 1) := by decide +kernel
theorem D_207_114 : decode J_207.2.2.1 114 = .ok (.getfield 16, 3) := by decide +kernel
theorem D_207_117 : decode J_207.2.2.1 117 = .ok (.getfield 151, 3) := by decide +kernel
theorem D_207_120 : decode J_207.2.2.1 120 = .ok (.iload_n 1, 1) := by decide +kernel
theorem D_207_121 : decode J_207.2.2.1 121 = .ok (.iaload, 1) := by decide +kernel
theorem D_207_122 : decode J_207.2.2.1 122 = .ok (.ireturn, 1) := by decide +kernel
theorem D_207_123 : decode J_207.2.2.1 123 = .ok (.iconst (-1), 1) := by decide +kernel
theorem D_207_124 : decode J_207.2.2.1 124 = .ok (.ireturn, 1) := by decide +kernel
def P_207_22 (X : mjX) (d C S kc ks : Nat) (k : mjH → mjU) : Prop := ∀  (hp : mjH) (q : Option Value × mjH), k  hp = some q → mjG X d C S J_207 (mjEq q) 22 [none, none, none] [] hp kc ks
def P_207_0 (X : mjX) (d C S kc ks : Nat) (k : Nat → Int32 → Int32 → mjH → mjU) : Prop := ∀ (l0 : Nat) (l1 : Int32) (l2 : Int32) (hp : mjH) (q : Option Value × mjH), k l0 l1 l2 hp = some q → mjG X d C S J_207 (mjEq q) 0 [some (.ref l0), some (.int l1), some (.int l2)] [] hp kc ks
noncomputable def b_207_22 (R : mjR)  (hp : mjH) : mjU := some (some (.int (-1 : Int32)), hp)
theorem t_207_22 {X : mjX} {d C S kc ks : Nat} {R : mjR} (hR : mjC R d) (h1 : kc ≤ C) (h2 : ks ≤ S) : P_207_22 X (d + 1) C S kc ks (b_207_22 R) := by
  intro  hp q h
  unfold b_207_22 at h
  refine mjq_ic (v := (-1 : Int32)) D_207_22 rfl ?_
  exact mjq_ret D_207_23 rfl h1 h2 h
noncomputable def b_207_0 (R : mjR) (l0 : Nat) (l1 : Int32) (l2 : Int32) (hp : mjH) : mjU := gI hp l0 11 8 (fun v1 => (if v1 = 0 then b_207_22 R hp else (if l1 < 0 then b_207_22 R hp else gR hp l0 11 6 (fun v2 => gI hp v2 7 0 (fun v3 => (if l1 < v3 then (if l2 = (0 : Int32) then gR hp l0 11 6 (fun v5 => gR hp v5 7 1 (fun v6 => aI hp v6 l1 (fun v7 => some (some (.int v7), hp)))) else if l2 = (1 : Int32) then gR hp l0 11 6 (fun v9 => rV hp v9 7 (bI (R 108 [.ref v9, .int l1] hp) (fun v10 hp11 => some (some (.int v10), hp11)))) else if l2 = (2 : Int32) then gR hp l0 11 6 (fun v13 => gR hp v13 7 8 (fun v14 => aI hp v14 l1 (fun v15 => some (some (.int v15), hp)))) else if l2 = (3 : Int32) then gR hp l0 11 6 (fun v17 => gR hp v17 7 6 (fun v18 => aI hp v18 l1 (fun v19 => some (some (.int v19), hp)))) else if l2 = (4 : Int32) then gR hp l0 11 6 (fun v21 => gR hp v21 7 3 (fun v22 => aI hp v22 l1 (fun v23 => some (some (.int v23), hp)))) else if l2 = (5 : Int32) then gR hp l0 11 6 (fun v25 => gR hp v25 7 2 (fun v26 => aI hp v26 l1 (fun v27 => some (some (.int v27), hp)))) else some (some (.int (-1 : Int32)), hp)) else b_207_22 R hp))))))
theorem t_207_0 {X : mjX} {d C S kc ks : Nat} {R : mjR} (hR : mjC R d) (h1 : kc ≤ C) (h2 : ks ≤ S) : P_207_0 X (d + 1) C S kc ks (b_207_0 R) := by
  intro l0 l1 l2 hp q h
  unfold b_207_0 at h
  refine mjr_aload_n (x := l0) D_207_0 rfl ?_
  refine mjq_gI D_207_1 fr_11_121 h (fun v1 h => ?_)
  refine mjq_if_eq (tgt := 22) D_207_4 rfl h (fun h => ?_) (fun h => ?_)
  · exact mjG.fg (lo' := [none, none, none]) True.intro ((t_207_22 hR h1 h2) _ _ h)
  · refine mjr_iload_n (x := l1) D_207_7 rfl ?_
    refine mjq_if_lt (tgt := 22) D_207_8 rfl h (fun h => ?_) (fun h => ?_)
    · exact mjG.fg (lo' := [none, none, none]) True.intro ((t_207_22 hR h1 h2) _ _ h)
    · refine mjr_iload_n (x := l1) D_207_11 rfl ?_
      refine mjr_aload_n (x := l0) D_207_12 rfl ?_
      refine mjq_gR D_207_13 fr_11_16 h (fun v2 h => ?_)
      refine mjq_gI D_207_16 fr_11_131 h (fun v3 h => ?_)
      refine mjq_icmp_lt (tgt := 24) D_207_19 rfl h (fun h => ?_) (fun h => ?_)
      · refine mjr_iload_n (x := l2) D_207_24 rfl ?_
        refine mjq_tsw (c := (0 : Int32)) (tgt := 64) D_207_25 (by decide) (by decide) rfl rfl h (fun h => ?_) (fun n4 h => ?_)
        · refine mjr_aload_n (x := l0) D_207_64 rfl ?_
          refine mjq_gR D_207_65 fr_11_16 h (fun v5 h => ?_)
          refine mjq_gR D_207_68 fr_11_134 h (fun v6 h => ?_)
          refine mjr_iload_n (x := l1) D_207_71 rfl ?_
          refine mjq_aI D_207_72 h (fun v7 h => ?_)
          exact mjq_ret D_207_73 rfl h1 h2 h
        refine mjq_tsw (c := (1 : Int32)) (tgt := 74) D_207_25 (by decide) (by decide) rfl rfl h (fun h => ?_) (fun n8 h => ?_)
        · refine mjr_aload_n (x := l0) D_207_74 rfl ?_
          refine mjq_gR D_207_75 fr_11_16 h (fun v9 h => ?_)
          refine mjr_iload_n (x := l1) D_207_78 rfl ?_
          refine mjq_vI (As := [.int l1]) (rest := []) D_207_79 mr_11_138 V_108 rfl rfl rfl hR (Nat.le_refl _) h1 h2 h (fun v10 hp11 h => ?_)
          exact mjq_ret D_207_82 rfl h1 h2 h
        refine mjq_tsw (c := (2 : Int32)) (tgt := 83) D_207_25 (by decide) (by decide) rfl rfl h (fun h => ?_) (fun n12 h => ?_)
        · refine mjr_aload_n (x := l0) D_207_83 rfl ?_
          refine mjq_gR D_207_84 fr_11_16 h (fun v13 h => ?_)
          refine mjq_gR D_207_87 fr_11_142 h (fun v14 h => ?_)
          refine mjr_iload_n (x := l1) D_207_90 rfl ?_
          refine mjq_aI D_207_91 h (fun v15 h => ?_)
          exact mjq_ret D_207_92 rfl h1 h2 h
        refine mjq_tsw (c := (3 : Int32)) (tgt := 93) D_207_25 (by decide) (by decide) rfl rfl h (fun h => ?_) (fun n16 h => ?_)
        · refine mjr_aload_n (x := l0) D_207_93 rfl ?_
          refine mjq_gR D_207_94 fr_11_16 h (fun v17 h => ?_)
          refine mjq_gR D_207_97 fr_11_145 h (fun v18 h => ?_)
          refine mjr_iload_n (x := l1) D_207_100 rfl ?_
          refine mjq_aI D_207_101 h (fun v19 h => ?_)
          exact mjq_ret D_207_102 rfl h1 h2 h
        refine mjq_tsw (c := (4 : Int32)) (tgt := 103) D_207_25 (by decide) (by decide) rfl rfl h (fun h => ?_) (fun n20 h => ?_)
        · refine mjr_aload_n (x := l0) D_207_103 rfl ?_
          refine mjq_gR D_207_104 fr_11_16 h (fun v21 h => ?_)
          refine mjq_gR D_207_107 fr_11_148 h (fun v22 h => ?_)
          refine mjr_iload_n (x := l1) D_207_110 rfl ?_
          refine mjq_aI D_207_111 h (fun v23 h => ?_)
          exact mjq_ret D_207_112 rfl h1 h2 h
        refine mjq_tsw (c := (5 : Int32)) (tgt := 113) D_207_25 (by decide) (by decide) rfl rfl h (fun h => ?_) (fun n24 h => ?_)
        · refine mjr_aload_n (x := l0) D_207_113 rfl ?_
          refine mjq_gR D_207_114 fr_11_16 h (fun v25 h => ?_)
          refine mjq_gR D_207_117 fr_11_151 h (fun v26 h => ?_)
          refine mjr_iload_n (x := l1) D_207_120 rfl ?_
          refine mjq_aI D_207_121 h (fun v27 h => ?_)
          exact mjq_ret D_207_122 rfl h1 h2 h
        refine mjr_tableOut (tgt := 123) D_207_25 (mj_swout [(0 : Int32), (1 : Int32), (2 : Int32), (3 : Int32), (4 : Int32), (5 : Int32)] (by decide) (mj_all1 n4 (mj_all1 n8 (mj_all1 n12 (mj_all1 n16 (mj_all1 n20 (mj_all1 n24 mj_all0))))))) rfl ?_
        refine mjq_ic (v := (-1 : Int32)) D_207_123 rfl ?_
        exact mjq_ret D_207_124 rfl h1 h2 h
      · exact mjG.fg (lo' := [none, none, none]) True.intro ((t_207_22 hR h1 h2) _ _ h)
noncomputable def f_207 (R : mjR) (a0 : Nat) (a1 : Int32) (a2 : Int32) (hp : mjH) : mjU := b_207_0 R a0 a1 a2 hp
theorem c_207 {R : mjR} {d : Nat} (hR : mjC R d) {a0 : Nat} {a1 : Int32} {a2 : Int32} {hp : mjH} {q : Option Value × mjH} (h : f_207 R a0 a1 a2 hp = some q) : mjM (d + 1) 0 0 207 [.ref a0, .int a1, .int a2] hp (mjEq q) :=
  mjM_of Ja_207 (Nat.le_of_ble_eq_true rfl) (mjG.fg (lo' := [some (.ref a0), some (.int a1), some (.int a2)]) (And.intro rfl (And.intro rfl (And.intro rfl True.intro))) ((t_207_0 hR (Nat.le_refl 0) (Nat.le_refl 0)) a0 a1 a2 hp q h))
def J_208 : mjI := (⟨"OwnerHeap", "isIn", "(III)Z"⟩, 11, prog_1_method_8_code, 6, (some .boolean), 3, false)
theorem Ja_208 : mjMt 208 = some J_208 := by rfl
theorem D_208_0 : decode J_208.2.2.1 0 = .ok (.aload_n 0, 1) := by decide +kernel
theorem D_208_1 : decode J_208.2.2.1 1 = .ok (.getfield 121, 3) := by decide +kernel
theorem D_208_4 : decode J_208.2.2.1 4 = .ok (.ifCond .eq 18, 3) := by decide +kernel
theorem D_208_7 : decode J_208.2.2.1 7 = .ok (.iload_n 1, 1) := by decide +kernel
theorem D_208_8 : decode J_208.2.2.1 8 = .ok (.ifCond .lt 14, 3) := by decide +kernel
theorem D_208_11 : decode J_208.2.2.1 11 = .ok (.iload_n 1, 1) := by decide +kernel
theorem D_208_12 : decode J_208.2.2.1 12 = .ok (.aload_n 0, 1) := by decide +kernel
theorem D_208_13 : decode J_208.2.2.1 13 = .ok (.getfield 16, 3) := by decide +kernel
theorem D_208_16 : decode J_208.2.2.1 16 = .ok (.getfield 131, 3) := by decide +kernel
theorem D_208_19 : decode J_208.2.2.1 19 = .ok (.if_icmp .lt 5, 3) := by decide +kernel
theorem D_208_22 : decode J_208.2.2.1 22 = .ok (.iconst 0, 1) := by decide +kernel
theorem D_208_23 : decode J_208.2.2.1 23 = .ok (.ireturn, 1) := by decide +kernel
theorem D_208_24 : decode J_208.2.2.1 24 = .ok (.aload_n 0, 1) := by decide +kernel
theorem D_208_25 : decode J_208.2.2.1 25 = .ok (.iload_n 1, 1) := by decide +kernel
theorem D_208_26 : decode J_208.2.2.1 26 = .ok (.iload_n 2, 1) := by decide +kernel
theorem D_208_27 : decode J_208.2.2.1 27 = .ok (.invokevirtual 154, 3) := by decide +kernel
theorem D_208_30 : decode J_208.2.2.1 30 = .ok (.istore 4, 2) := by decide +kernel
theorem D_208_32 : decode J_208.2.2.1 32 = .ok (.aload_n 0, 1) := by decide +kernel
theorem D_208_33 : decode J_208.2.2.1 33 = .ok (.iload_n 1, 1) := by decide +kernel
theorem D_208_34 : decode J_208.2.2.1 34 = .ok (.iload_n 3, 1) := by decide +kernel
theorem D_208_35 : decode J_208.2.2.1 35 = .ok (.invokevirtual 154, 3) := by decide +kernel
theorem D_208_38 : decode J_208.2.2.1 38 = .ok (.istore 5, 2) := by decide +kernel
theorem D_208_40 : decode J_208.2.2.1 40 = .ok (.iload 4, 2) := by decide +kernel
theorem D_208_42 : decode J_208.2.2.1 42 = .ok (.iconst (-1), 1) := by decide +kernel
theorem D_208_43 : decode J_208.2.2.1 43 = .ok (.if_icmp .eq 28, 3) := by decide +kernel
theorem D_208_46 : decode J_208.2.2.1 46 = .ok (.iload 5, 2) := by decide +kernel
theorem D_208_48 : decode J_208.2.2.1 48 = .ok (.iconst (-1), 1) := by decide +kernel
theorem D_208_49 : decode J_208.2.2.1 49 = .ok (.if_icmp .eq 22, 3) := by decide +kernel
theorem D_208_52 : decode J_208.2.2.1 52 = .ok (.aload_n 0, 1) := by decide +kernel
theorem D_208_53 : decode J_208.2.2.1 53 = .ok (.getfield 16, 3) := by decide +kernel
theorem D_208_56 : decode J_208.2.2.1 56 = .ok (.iload_n 1, 1) := by decide +kernel
theorem D_208_57 : decode J_208.2.2.1 57 = .ok (.iload 4, 2) := by decide +kernel
theorem D_208_59 : decode J_208.2.2.1 59 = .ok (.iload 5, 2) := by decide +kernel
theorem D_208_61 : decode J_208.2.2.1 61 = .ok (.invokevirtual 158, 3) := by decide +kernel
theorem D_208_64 : decode J_208.2.2.1 64 = .ok (.ifCond .eq 7, 3) := by decide +kernel
theorem D_208_67 : decode J_208.2.2.1 67 = .ok (.iconst 1, 1) := by decide +kernel
theorem D_208_68 : decode J_208.2.2.1 68 = .ok (.goto 4, 3) := by decide +kernel
theorem D_208_71 : decode J_208.2.2.1 71 = .ok (.iconst 0, 1) := by decide +kernel
theorem D_208_72 : decode J_208.2.2.1 72 = .ok (.ireturn, 1) := by decide +kernel
def P_208_22 (X : mjX) (d C S kc ks : Nat) (k : mjH → mjU) : Prop := ∀  (hp : mjH) (q : Option Value × mjH), k  hp = some q → mjG X d C S J_208 (mjEq q) 22 [none, none, none, none, none, none] [] hp kc ks
def P_208_71 (X : mjX) (d C S kc ks : Nat) (k : mjH → mjU) : Prop := ∀  (hp : mjH) (q : Option Value × mjH), k  hp = some q → mjG X d C S J_208 (mjEq q) 71 [none, none, none, none, none, none] [] hp kc ks
def P_208_0 (X : mjX) (d C S kc ks : Nat) (k : Nat → Int32 → Int32 → Int32 → mjH → mjU) : Prop := ∀ (l0 : Nat) (l1 : Int32) (l2 : Int32) (l3 : Int32) (hp : mjH) (q : Option Value × mjH), k l0 l1 l2 l3 hp = some q → mjG X d C S J_208 (mjEq q) 0 [some (.ref l0), some (.int l1), some (.int l2), some (.int l3), none, none] [] hp kc ks
noncomputable def b_208_22 (R : mjR)  (hp : mjH) : mjU := some (some (.int (0 : Int32)), hp)
theorem t_208_22 {X : mjX} {d C S kc ks : Nat} {R : mjR} (hR : mjC R d) (h1 : kc ≤ C) (h2 : ks ≤ S) : P_208_22 X (d + 1) C S kc ks (b_208_22 R) := by
  intro  hp q h
  unfold b_208_22 at h
  refine mjq_ic (v := (0 : Int32)) D_208_22 rfl ?_
  exact mjr_ireturn D_208_23 rfl rfl h1 h2 (Option.some.inj h)
noncomputable def b_208_71 (R : mjR)  (hp : mjH) : mjU := some (some (.int (0 : Int32)), hp)
theorem t_208_71 {X : mjX} {d C S kc ks : Nat} {R : mjR} (hR : mjC R d) (h1 : kc ≤ C) (h2 : ks ≤ S) : P_208_71 X (d + 1) C S kc ks (b_208_71 R) := by
  intro  hp q h
  unfold b_208_71 at h
  refine mjq_ic (v := (0 : Int32)) D_208_71 rfl ?_
  exact mjr_ireturn D_208_72 rfl rfl h1 h2 (Option.some.inj h)
noncomputable def b_208_0 (R : mjR) (l0 : Nat) (l1 : Int32) (l2 : Int32) (l3 : Int32) (hp : mjH) : mjU := gI hp l0 11 8 (fun v1 => (if v1 = 0 then b_208_22 R hp else (if l1 < 0 then b_208_22 R hp else gR hp l0 11 6 (fun v2 => gI hp v2 7 0 (fun v3 => (if l1 < v3 then rV hp l0 11 (bI (R 209 [.ref l0, .int l1, .int l2] hp) (fun v4 hp5 => rV hp5 l0 11 (bI (R 209 [.ref l0, .int l1, .int l3] hp5) (fun v6 hp7 => (if v4 = (-1 : Int32) then b_208_71 R hp7 else (if v6 = (-1 : Int32) then b_208_71 R hp7 else gR hp7 l0 11 6 (fun v8 => rV hp7 v8 7 (bI (R 107 [.ref v8, .int l1, .int v4, .int v6] hp7) (fun v9 hp10 => (if v9 = 0 then b_208_71 R hp10 else some (some (.int (1 : Int32)), hp10))))))))))) else b_208_22 R hp))))))
theorem t_208_0 {X : mjX} {d C S kc ks : Nat} {R : mjR} (hR : mjC R d) (h1 : kc ≤ C) (h2 : ks ≤ S) : P_208_0 X (d + 1) C S kc ks (b_208_0 R) := by
  intro l0 l1 l2 l3 hp q h
  unfold b_208_0 at h
  refine mjr_aload_n (x := l0) D_208_0 rfl ?_
  refine mjq_gI D_208_1 fr_11_121 h (fun v1 h => ?_)
  refine mjq_if_eq (tgt := 22) D_208_4 rfl h (fun h => ?_) (fun h => ?_)
  · exact mjG.fg (lo' := [none, none, none, none, none, none]) True.intro ((t_208_22 hR h1 h2) _ _ h)
  · refine mjr_iload_n (x := l1) D_208_7 rfl ?_
    refine mjq_if_lt (tgt := 22) D_208_8 rfl h (fun h => ?_) (fun h => ?_)
    · exact mjG.fg (lo' := [none, none, none, none, none, none]) True.intro ((t_208_22 hR h1 h2) _ _ h)
    · refine mjr_iload_n (x := l1) D_208_11 rfl ?_
      refine mjr_aload_n (x := l0) D_208_12 rfl ?_
      refine mjq_gR D_208_13 fr_11_16 h (fun v2 h => ?_)
      refine mjq_gI D_208_16 fr_11_131 h (fun v3 h => ?_)
      refine mjq_icmp_lt (tgt := 24) D_208_19 rfl h (fun h => ?_) (fun h => ?_)
      · refine mjr_aload_n (x := l0) D_208_24 rfl ?_
        refine mjr_iload_n (x := l1) D_208_25 rfl ?_
        refine mjr_iload_n (x := l2) D_208_26 rfl ?_
        refine mjq_vI (As := [.int l1, .int l2]) (rest := []) D_208_27 mr_11_154 V_209 rfl rfl rfl hR (Nat.le_refl _) h1 h2 h (fun v4 hp5 h => ?_)
        refine mjq_istore (lo' := [some (.ref l0), some (.int l1), some (.int l2), some (.int l3), some (.int v4), none]) D_208_30 (Nat.le_of_ble_eq_true rfl) rfl ?_
        refine mjr_aload_n (x := l0) D_208_32 rfl ?_
        refine mjr_iload_n (x := l1) D_208_33 rfl ?_
        refine mjr_iload_n (x := l3) D_208_34 rfl ?_
        refine mjq_vI (As := [.int l1, .int l3]) (rest := []) D_208_35 mr_11_154 V_209 rfl rfl rfl hR (Nat.le_refl _) h1 h2 h (fun v6 hp7 h => ?_)
        refine mjq_istore (lo' := [some (.ref l0), some (.int l1), some (.int l2), some (.int l3), some (.int v4), some (.int v6)]) D_208_38 (Nat.le_of_ble_eq_true rfl) rfl ?_
        refine mjr_iload (x := v4) D_208_40 rfl ?_
        refine mjq_ic (v := (-1 : Int32)) D_208_42 rfl ?_
        refine mjq_icmp_eq (tgt := 71) D_208_43 rfl h (fun h => ?_) (fun h => ?_)
        · exact mjG.fg (lo' := [none, none, none, none, none, none]) True.intro ((t_208_71 hR h1 h2) _ _ h)
        · refine mjr_iload (x := v6) D_208_46 rfl ?_
          refine mjq_ic (v := (-1 : Int32)) D_208_48 rfl ?_
          refine mjq_icmp_eq (tgt := 71) D_208_49 rfl h (fun h => ?_) (fun h => ?_)
          · exact mjG.fg (lo' := [none, none, none, none, none, none]) True.intro ((t_208_71 hR h1 h2) _ _ h)
          · refine mjr_aload_n (x := l0) D_208_52 rfl ?_
            refine mjq_gR D_208_53 fr_11_16 h (fun v8 h => ?_)
            refine mjr_iload_n (x := l1) D_208_56 rfl ?_
            refine mjr_iload (x := v4) D_208_57 rfl ?_
            refine mjr_iload (x := v6) D_208_59 rfl ?_
            refine mjq_vI (As := [.int l1, .int v4, .int v6]) (rest := []) D_208_61 mr_11_158 V_107 rfl rfl rfl hR (Nat.le_refl _) h1 h2 h (fun v9 hp10 h => ?_)
            refine mjq_if_eq (tgt := 71) D_208_64 rfl h (fun h => ?_) (fun h => ?_)
            · exact mjG.fg (lo' := [none, none, none, none, none, none]) True.intro ((t_208_71 hR h1 h2) _ _ h)
            · refine mjq_ic (v := (1 : Int32)) D_208_67 rfl ?_
              refine mjr_goto (tgt := 72) D_208_68 rfl ?_
              exact mjr_ireturn D_208_72 rfl rfl h1 h2 (Option.some.inj h)
      · exact mjG.fg (lo' := [none, none, none, none, none, none]) True.intro ((t_208_22 hR h1 h2) _ _ h)
noncomputable def f_208 (R : mjR) (a0 : Nat) (a1 : Int32) (a2 : Int32) (a3 : Int32) (hp : mjH) : mjU := b_208_0 R a0 a1 a2 a3 hp
theorem c_208 {R : mjR} {d : Nat} (hR : mjC R d) {a0 : Nat} {a1 : Int32} {a2 : Int32} {a3 : Int32} {hp : mjH} {q : Option Value × mjH} (h : f_208 R a0 a1 a2 a3 hp = some q) : mjM (d + 1) 0 0 208 [.ref a0, .int a1, .int a2, .int a3] hp (mjEq q) :=
  mjM_of Ja_208 (Nat.le_of_ble_eq_true rfl) (mjG.fg (lo' := [some (.ref a0), some (.int a1), some (.int a2), some (.int a3), none, none]) (And.intro rfl (And.intro rfl (And.intro rfl (And.intro rfl True.intro)))) ((t_208_0 hR (Nat.le_refl 0) (Nat.le_refl 0)) a0 a1 a2 a3 hp q h))
def J_210 : mjI := (⟨"OwnerHeap", "start", "(II)Z"⟩, 11, prog_1_method_10_code, 3, (some .boolean), 2, false)
theorem Ja_210 : mjMt 210 = some J_210 := by rfl
theorem D_210_0 : decode J_210.2.2.1 0 = .ok (.aload_n 0, 1) := by decide +kernel
theorem D_210_1 : decode J_210.2.2.1 1 = .ok (.getfield 121, 3) := by decide +kernel
theorem D_210_4 : decode J_210.2.2.1 4 = .ok (.ifCond .eq 27, 3) := by decide +kernel
theorem D_210_7 : decode J_210.2.2.1 7 = .ok (.iload_n 1, 1) := by decide +kernel
theorem D_210_8 : decode J_210.2.2.1 8 = .ok (.bipush 8, 2) := by decide +kernel
theorem D_210_10 : decode J_210.2.2.1 10 = .ok (.if_icmp .lt 21, 3) := by decide +kernel
theorem D_210_13 : decode J_210.2.2.1 13 = .ok (.iload_n 1, 1) := by decide +kernel
theorem D_210_14 : decode J_210.2.2.1 14 = .ok (.sipush 4000, 3) := by decide +kernel
theorem D_210_17 : decode J_210.2.2.1 17 = .ok (.if_icmp .gt 14, 3) := by decide +kernel
theorem D_210_20 : decode J_210.2.2.1 20 = .ok (.iload_n 2, 1) := by decide +kernel
theorem D_210_21 : decode J_210.2.2.1 21 = .ok (.iconst 1, 1) := by decide +kernel
theorem D_210_22 : decode J_210.2.2.1 22 = .ok (.if_icmp .lt 9, 3) := by decide +kernel
theorem D_210_25 : decode J_210.2.2.1 25 = .ok (.iload_n 2, 1) := by decide +kernel
theorem D_210_26 : decode J_210.2.2.1 26 = .ok (.bipush 40, 2) := by decide +kernel
theorem D_210_28 : decode J_210.2.2.1 28 = .ok (.if_icmp .le 5, 3) := by decide +kernel
theorem D_210_31 : decode J_210.2.2.1 31 = .ok (.iconst 0, 1) := by decide +kernel
theorem D_210_32 : decode J_210.2.2.1 32 = .ok (.ireturn, 1) := by decide +kernel
theorem D_210_33 : decode J_210.2.2.1 33 = .ok (.aload_n 0, 1) := by decide +kernel
theorem D_210_34 : decode J_210.2.2.1 34 = .ok (.getfield 76, 3) := by decide +kernel
theorem D_210_37 : decode J_210.2.2.1 37 = .ok (.aload_n 0, 1) := by decide +kernel
theorem D_210_38 : decode J_210.2.2.1 38 = .ok (.getfield 16, 3) := by decide +kernel
theorem D_210_41 : decode J_210.2.2.1 41 = .ok (.iload_n 1, 1) := by decide +kernel
theorem D_210_42 : decode J_210.2.2.1 42 = .ok (.iload_n 2, 1) := by decide +kernel
theorem D_210_43 : decode J_210.2.2.1 43 = .ok (.invokevirtual 164, 3) := by decide +kernel
theorem D_210_46 : decode J_210.2.2.1 46 = .ok (.aload_n 0, 1) := by decide +kernel
theorem D_210_47 : decode J_210.2.2.1 47 = .ok (.getfield 83, 3) := by decide +kernel
theorem D_210_50 : decode J_210.2.2.1 50 = .ok (.aload_n 0, 1) := by decide +kernel
theorem D_210_51 : decode J_210.2.2.1 51 = .ok (.getfield 16, 3) := by decide +kernel
theorem D_210_54 : decode J_210.2.2.1 54 = .ok (.invokevirtual 168, 3) := by decide +kernel
theorem D_210_57 : decode J_210.2.2.1 57 = .ok (.iconst 1, 1) := by decide +kernel
theorem D_210_58 : decode J_210.2.2.1 58 = .ok (.ireturn, 1) := by decide +kernel
def P_210_31 (X : mjX) (d C S kc ks : Nat) (k : mjH → mjU) : Prop := ∀  (hp : mjH) (q : Option Value × mjH), k  hp = some q → mjG X d C S J_210 (mjEq q) 31 [none, none, none] [] hp kc ks
def P_210_0 (X : mjX) (d C S kc ks : Nat) (k : Nat → Int32 → Int32 → mjH → mjU) : Prop := ∀ (l0 : Nat) (l1 : Int32) (l2 : Int32) (hp : mjH) (q : Option Value × mjH), k l0 l1 l2 hp = some q → mjG X d C S J_210 (mjEq q) 0 [some (.ref l0), some (.int l1), some (.int l2)] [] hp kc ks
noncomputable def b_210_31 (R : mjR)  (hp : mjH) : mjU := some (some (.int (0 : Int32)), hp)
theorem t_210_31 {X : mjX} {d C S kc ks : Nat} {R : mjR} (hR : mjC R d) (h1 : kc ≤ C) (h2 : ks ≤ S) : P_210_31 X (d + 1) C S kc ks (b_210_31 R) := by
  intro  hp q h
  unfold b_210_31 at h
  refine mjq_ic (v := (0 : Int32)) D_210_31 rfl ?_
  exact mjr_ireturn D_210_32 rfl rfl h1 h2 (Option.some.inj h)
noncomputable def b_210_0 (R : mjR) (l0 : Nat) (l1 : Int32) (l2 : Int32) (hp : mjH) : mjU := gI hp l0 11 8 (fun v1 => (if v1 = 0 then b_210_31 R hp else (if l1 < (8 : Int32) then b_210_31 R hp else (if (4000 : Int32) < l1 then b_210_31 R hp else (if l2 < (1 : Int32) then b_210_31 R hp else (if l2 ≤ (40 : Int32) then gR hp l0 11 12 (fun v2 => gR hp l0 11 6 (fun v3 => rV hp v2 5 (bN (R 74 [.ref v2, .ref v3, .int l1, .int l2] hp) (fun  hp4 => gR hp4 l0 11 13 (fun v5 => gR hp4 l0 11 6 (fun v6 => rV hp4 v5 10 (bN (R 184 [.ref v5, .ref v6] hp4) (fun  hp7 => some (some (.int (1 : Int32)), hp7))))))))) else b_210_31 R hp))))))
theorem t_210_0 {X : mjX} {d C S kc ks : Nat} {R : mjR} (hR : mjC R d) (h1 : kc ≤ C) (h2 : ks ≤ S) : P_210_0 X (d + 1) C S kc ks (b_210_0 R) := by
  intro l0 l1 l2 hp q h
  unfold b_210_0 at h
  refine mjr_aload_n (x := l0) D_210_0 rfl ?_
  refine mjq_gI D_210_1 fr_11_121 h (fun v1 h => ?_)
  refine mjq_if_eq (tgt := 31) D_210_4 rfl h (fun h => ?_) (fun h => ?_)
  · exact mjG.fg (lo' := [none, none, none]) True.intro ((t_210_31 hR h1 h2) _ _ h)
  · refine mjr_iload_n (x := l1) D_210_7 rfl ?_
    refine mjq_bi (v := (8 : Int32)) D_210_8 rfl ?_
    refine mjq_icmp_lt (tgt := 31) D_210_10 rfl h (fun h => ?_) (fun h => ?_)
    · exact mjG.fg (lo' := [none, none, none]) True.intro ((t_210_31 hR h1 h2) _ _ h)
    · refine mjr_iload_n (x := l1) D_210_13 rfl ?_
      refine mjq_si (v := (4000 : Int32)) D_210_14 rfl ?_
      refine mjq_icmp_gt (tgt := 31) D_210_17 rfl h (fun h => ?_) (fun h => ?_)
      · exact mjG.fg (lo' := [none, none, none]) True.intro ((t_210_31 hR h1 h2) _ _ h)
      · refine mjr_iload_n (x := l2) D_210_20 rfl ?_
        refine mjq_ic (v := (1 : Int32)) D_210_21 rfl ?_
        refine mjq_icmp_lt (tgt := 31) D_210_22 rfl h (fun h => ?_) (fun h => ?_)
        · exact mjG.fg (lo' := [none, none, none]) True.intro ((t_210_31 hR h1 h2) _ _ h)
        · refine mjr_iload_n (x := l2) D_210_25 rfl ?_
          refine mjq_bi (v := (40 : Int32)) D_210_26 rfl ?_
          refine mjq_icmp_le (tgt := 33) D_210_28 rfl h (fun h => ?_) (fun h => ?_)
          · refine mjr_aload_n (x := l0) D_210_33 rfl ?_
            refine mjq_gR D_210_34 fr_11_76 h (fun v2 h => ?_)
            refine mjr_aload_n (x := l0) D_210_37 rfl ?_
            refine mjq_gR D_210_38 fr_11_16 h (fun v3 h => ?_)
            refine mjr_iload_n (x := l1) D_210_41 rfl ?_
            refine mjr_iload_n (x := l2) D_210_42 rfl ?_
            refine mjq_vN (As := [.ref v3, .int l1, .int l2]) (rest := []) D_210_43 mr_11_164 V_74 rfl rfl rfl hR (Nat.le_refl _) h1 h2 h (fun  hp4 h => ?_)
            refine mjr_aload_n (x := l0) D_210_46 rfl ?_
            refine mjq_gR D_210_47 fr_11_83 h (fun v5 h => ?_)
            refine mjr_aload_n (x := l0) D_210_50 rfl ?_
            refine mjq_gR D_210_51 fr_11_16 h (fun v6 h => ?_)
            refine mjq_vN (As := [.ref v6]) (rest := []) D_210_54 mr_11_168 V_184 rfl rfl rfl hR (Nat.le_refl _) h1 h2 h (fun  hp7 h => ?_)
            refine mjq_ic (v := (1 : Int32)) D_210_57 rfl ?_
            exact mjr_ireturn D_210_58 rfl rfl h1 h2 (Option.some.inj h)
          · exact mjG.fg (lo' := [none, none, none]) True.intro ((t_210_31 hR h1 h2) _ _ h)
noncomputable def f_210 (R : mjR) (a0 : Nat) (a1 : Int32) (a2 : Int32) (hp : mjH) : mjU := b_210_0 R a0 a1 a2 hp
theorem c_210 {R : mjR} {d : Nat} (hR : mjC R d) {a0 : Nat} {a1 : Int32} {a2 : Int32} {hp : mjH} {q : Option Value × mjH} (h : f_210 R a0 a1 a2 hp = some q) : mjM (d + 1) 0 0 210 [.ref a0, .int a1, .int a2] hp (mjEq q) :=
  mjM_of Ja_210 (Nat.le_of_ble_eq_true rfl) (mjG.fg (lo' := [some (.ref a0), some (.int a1), some (.int a2)]) (And.intro rfl (And.intro rfl (And.intro rfl True.intro))) ((t_210_0 hR (Nat.le_refl 0) (Nat.le_refl 0)) a0 a1 a2 hp q h))
def J_211 : mjI := (⟨"OwnerHeap", "run", "(I)I"⟩, 11, prog_1_method_11_code, 2, (some .int), 1, false)
theorem Ja_211 : mjMt 211 = some J_211 := by rfl
theorem D_211_0 : decode J_211.2.2.1 0 = .ok (.iload_n 1, 1) := by decide +kernel
theorem D_211_1 : decode J_211.2.2.1 1 = .ok (.iconst 1, 1) := by decide +kernel
theorem D_211_2 : decode J_211.2.2.1 2 = .ok (.if_icmp .lt 21, 3) := by decide +kernel
theorem D_211_5 : decode J_211.2.2.1 5 = .ok (.iload_n 1, 1) := by decide +kernel
theorem D_211_6 : decode J_211.2.2.1 6 = .ok (.sipush 2000, 3) := by decide +kernel
theorem D_211_9 : decode J_211.2.2.1 9 = .ok (.if_icmp .gt 14, 3) := by decide +kernel
theorem D_211_12 : decode J_211.2.2.1 12 = .ok (.aload_n 0, 1) := by decide +kernel
theorem D_211_13 : decode J_211.2.2.1 13 = .ok (.getfield 76, 3) := by decide +kernel
theorem D_211_16 : decode J_211.2.2.1 16 = .ok (.getfield 171, 3) := by decide +kernel
theorem D_211_19 : decode J_211.2.2.1 19 = .ok (.iconst 1, 1) := by decide +kernel
theorem D_211_20 : decode J_211.2.2.1 20 = .ok (.if_icmp .eq 5, 3) := by decide +kernel
theorem D_211_23 : decode J_211.2.2.1 23 = .ok (.iconst (-1), 1) := by decide +kernel
theorem D_211_24 : decode J_211.2.2.1 24 = .ok (.ireturn, 1) := by decide +kernel
theorem D_211_25 : decode J_211.2.2.1 25 = .ok (.aload_n 0, 1) := by decide +kernel
theorem D_211_26 : decode J_211.2.2.1 26 = .ok (.getfield 76, 3) := by decide +kernel
theorem D_211_29 : decode J_211.2.2.1 29 = .ok (.iload_n 1, 1) := by decide +kernel
theorem D_211_30 : decode J_211.2.2.1 30 = .ok (.invokevirtual 174, 3) := by decide +kernel
theorem D_211_33 : decode J_211.2.2.1 33 = .ok (.aload_n 0, 1) := by decide +kernel
theorem D_211_34 : decode J_211.2.2.1 34 = .ok (.getfield 83, 3) := by decide +kernel
theorem D_211_37 : decode J_211.2.2.1 37 = .ok (.invokevirtual 128, 3) := by decide +kernel
theorem D_211_40 : decode J_211.2.2.1 40 = .ok (.aload_n 0, 1) := by decide +kernel
theorem D_211_41 : decode J_211.2.2.1 41 = .ok (.getfield 76, 3) := by decide +kernel
theorem D_211_44 : decode J_211.2.2.1 44 = .ok (.getfield 171, 3) := by decide +kernel
theorem D_211_47 : decode J_211.2.2.1 47 = .ok (.ireturn, 1) := by decide +kernel
def P_211_23 (X : mjX) (d C S kc ks : Nat) (k : mjH → mjU) : Prop := ∀  (hp : mjH) (q : Option Value × mjH), k  hp = some q → mjG X d C S J_211 (mjEq q) 23 [none, none] [] hp kc ks
def P_211_0 (X : mjX) (d C S kc ks : Nat) (k : Nat → Int32 → mjH → mjU) : Prop := ∀ (l0 : Nat) (l1 : Int32) (hp : mjH) (q : Option Value × mjH), k l0 l1 hp = some q → mjG X d C S J_211 (mjEq q) 0 [some (.ref l0), some (.int l1)] [] hp kc ks
noncomputable def b_211_23 (R : mjR)  (hp : mjH) : mjU := some (some (.int (-1 : Int32)), hp)
theorem t_211_23 {X : mjX} {d C S kc ks : Nat} {R : mjR} (hR : mjC R d) (h1 : kc ≤ C) (h2 : ks ≤ S) : P_211_23 X (d + 1) C S kc ks (b_211_23 R) := by
  intro  hp q h
  unfold b_211_23 at h
  refine mjq_ic (v := (-1 : Int32)) D_211_23 rfl ?_
  exact mjq_ret D_211_24 rfl h1 h2 h
noncomputable def b_211_0 (R : mjR) (l0 : Nat) (l1 : Int32) (hp : mjH) : mjU := (if l1 < (1 : Int32) then b_211_23 R hp else (if (2000 : Int32) < l1 then b_211_23 R hp else gR hp l0 11 12 (fun v1 => gI hp v1 5 8 (fun v2 => (if v2 = (1 : Int32) then gR hp l0 11 12 (fun v3 => rV hp v3 5 (bN (R 75 [.ref v3, .int l1] hp) (fun  hp4 => gR hp4 l0 11 13 (fun v5 => rV hp4 v5 10 (bN (R 183 [.ref v5] hp4) (fun  hp6 => gR hp6 l0 11 12 (fun v7 => gI hp6 v7 5 8 (fun v8 => some (some (.int v8), hp6))))))))) else b_211_23 R hp)))))
theorem t_211_0 {X : mjX} {d C S kc ks : Nat} {R : mjR} (hR : mjC R d) (h1 : kc ≤ C) (h2 : ks ≤ S) : P_211_0 X (d + 1) C S kc ks (b_211_0 R) := by
  intro l0 l1 hp q h
  unfold b_211_0 at h
  refine mjr_iload_n (x := l1) D_211_0 rfl ?_
  refine mjq_ic (v := (1 : Int32)) D_211_1 rfl ?_
  refine mjq_icmp_lt (tgt := 23) D_211_2 rfl h (fun h => ?_) (fun h => ?_)
  · exact mjG.fg (lo' := [none, none]) True.intro ((t_211_23 hR h1 h2) _ _ h)
  · refine mjr_iload_n (x := l1) D_211_5 rfl ?_
    refine mjq_si (v := (2000 : Int32)) D_211_6 rfl ?_
    refine mjq_icmp_gt (tgt := 23) D_211_9 rfl h (fun h => ?_) (fun h => ?_)
    · exact mjG.fg (lo' := [none, none]) True.intro ((t_211_23 hR h1 h2) _ _ h)
    · refine mjr_aload_n (x := l0) D_211_12 rfl ?_
      refine mjq_gR D_211_13 fr_11_76 h (fun v1 h => ?_)
      refine mjq_gI D_211_16 fr_11_171 h (fun v2 h => ?_)
      refine mjq_ic (v := (1 : Int32)) D_211_19 rfl ?_
      refine mjq_icmp_eq (tgt := 25) D_211_20 rfl h (fun h => ?_) (fun h => ?_)
      · refine mjr_aload_n (x := l0) D_211_25 rfl ?_
        refine mjq_gR D_211_26 fr_11_76 h (fun v3 h => ?_)
        refine mjr_iload_n (x := l1) D_211_29 rfl ?_
        refine mjq_vN (As := [.int l1]) (rest := []) D_211_30 mr_11_174 V_75 rfl rfl rfl hR (Nat.le_refl _) h1 h2 h (fun  hp4 h => ?_)
        refine mjr_aload_n (x := l0) D_211_33 rfl ?_
        refine mjq_gR D_211_34 fr_11_83 h (fun v5 h => ?_)
        refine mjq_vN (As := []) (rest := []) D_211_37 mr_11_128 V_183 rfl rfl rfl hR (Nat.le_refl _) h1 h2 h (fun  hp6 h => ?_)
        refine mjr_aload_n (x := l0) D_211_40 rfl ?_
        refine mjq_gR D_211_41 fr_11_76 h (fun v7 h => ?_)
        refine mjq_gI D_211_44 fr_11_171 h (fun v8 h => ?_)
        exact mjq_ret D_211_47 rfl h1 h2 h
      · exact mjG.fg (lo' := [none, none]) True.intro ((t_211_23 hR h1 h2) _ _ h)
noncomputable def f_211 (R : mjR) (a0 : Nat) (a1 : Int32) (hp : mjH) : mjU := b_211_0 R a0 a1 hp
theorem c_211 {R : mjR} {d : Nat} (hR : mjC R d) {a0 : Nat} {a1 : Int32} {hp : mjH} {q : Option Value × mjH} (h : f_211 R a0 a1 hp = some q) : mjM (d + 1) 0 0 211 [.ref a0, .int a1] hp (mjEq q) :=
  mjM_of Ja_211 (Nat.le_of_ble_eq_true rfl) (mjG.fg (lo' := [some (.ref a0), some (.int a1)]) (And.intro rfl (And.intro rfl True.intro)) ((t_211_0 hR (Nat.le_refl 0) (Nat.le_refl 0)) a0 a1 hp q h))
def J_212 : mjI := (⟨"OwnerHeap", "state", "(I)I"⟩, 11, prog_1_method_12_code, 2, (some .int), 1, false)
theorem Ja_212 : mjMt 212 = some J_212 := by rfl
theorem D_212_0 : decode J_212.2.2.1 0 = .ok (.iload_n 1, 1) := by decide +kernel
theorem D_212_1 : decode J_212.2.2.1 1 = .ok (.tableswitch 141 0 9 #[55, 63, 71, 79, 87, 95, 103, 111, 122, 133], 55) := by decide +kernel
theorem D_212_56 : decode J_212.2.2.1 56 = .ok (.aload_n 0, 1) := by decide +kernel
theorem D_212_57 : decode J_212.2.2.1 57 = .ok (.getfield 76, 3) := by decide +kernel
theorem D_212_60 : decode J_212.2.2.1 60 = .ok (.getfield 171, 3) := by decide +kernel
theorem D_212_63 : decode J_212.2.2.1 63 = .ok (.ireturn, 1) := by decide +kernel
theorem D_212_64 : decode J_212.2.2.1 64 = .ok (.aload_n 0, 1) := by decide +kernel
theorem D_212_65 : decode J_212.2.2.1 65 = .ok (.getfield 76, 3) := by decide +kernel
theorem D_212_68 : decode J_212.2.2.1 68 = .ok (.getfield 177, 3) := by decide +kernel
theorem D_212_71 : decode J_212.2.2.1 71 = .ok (.ireturn, 1) := by decide +kernel
theorem D_212_72 : decode J_212.2.2.1 72 = .ok (.aload_n 0, 1) := by decide +kernel
theorem D_212_73 : decode J_212.2.2.1 73 = .ok (.getfield 76, 3) := by decide +kernel
theorem D_212_76 : decode J_212.2.2.1 76 = .ok (.getfield 180, 3) := by decide +kernel
theorem D_212_79 : decode J_212.2.2.1 79 = .ok (.ireturn, 1) := by decide +kernel
theorem D_212_80 : decode J_212.2.2.1 80 = .ok (.aload_n 0, 1) := by decide +kernel
theorem D_212_81 : decode J_212.2.2.1 81 = .ok (.getfield 76, 3) := by decide +kernel
theorem D_212_84 : decode J_212.2.2.1 84 = .ok (.getfield 183, 3) := by decide +kernel
theorem D_212_87 : decode J_212.2.2.1 87 = .ok (.ireturn, 1) := by decide +kernel
theorem D_212_88 : decode J_212.2.2.1 88 = .ok (.aload_n 0, 1) := by decide +kernel
theorem D_212_89 : decode J_212.2.2.1 89 = .ok (.getfield 76, 3) := by decide +kernel
theorem D_212_92 : decode J_212.2.2.1 92 = .ok (.getfield 186, 3) := by decide +kernel
theorem D_212_95 : decode J_212.2.2.1 95 = .ok (.ireturn, 1) := by decide +kernel
theorem D_212_96 : decode J_212.2.2.1 96 = .ok (.aload_n 0, 1) := by decide +kernel
theorem D_212_97 : decode J_212.2.2.1 97 = .ok (.getfield 67, 3) := by decide +kernel
theorem D_212_100 : decode J_212.2.2.1 100 = .ok (.getfield 189, 3) := by decide +kernel
theorem D_212_103 : decode J_212.2.2.1 103 = .ok (.ireturn, 1) := by decide +kernel
theorem D_212_104 : decode J_212.2.2.1 104 = .ok (.aload_n 0, 1) := by decide +kernel
theorem D_212_105 : decode J_212.2.2.1 105 = .ok (.getfield 67, 3) := by decide +kernel
theorem D_212_108 : decode J_212.2.2.1 108 = .ok (.getfield 192, 3) := by decide +kernel
theorem D_212_111 : decode J_212.2.2.1 111 = .ok (.ireturn, 1) := by decide +kernel
theorem D_212_112 : decode J_212.2.2.1 112 = .ok (.aload_n 0, 1) := by decide +kernel
theorem D_212_113 : decode J_212.2.2.1 113 = .ok (.getfield 76, 3) := by decide +kernel
theorem D_212_116 : decode J_212.2.2.1 116 = .ok (.getfield 195, 3) := by decide +kernel
theorem D_212_119 : decode J_212.2.2.1 119 = .ok (.getfield 199, 3) := by decide +kernel
theorem D_212_122 : decode J_212.2.2.1 122 = .ok (.ireturn, 1) := by decide +kernel
theorem D_212_123 : decode J_212.2.2.1 123 = .ok (.aload_n 0, 1) := by decide +kernel
theorem D_212_124 : decode J_212.2.2.1 124 = .ok (.getfield 76, 3) := by decide +kernel
theorem D_212_127 : decode J_212.2.2.1 127 = .ok (.getfield 195, 3) := by decide +kernel
theorem D_212_130 : decode J_212.2.2.1 130 = .ok (.getfield 202, 3) := by decide +kernel
theorem D_212_133 : decode J_212.2.2.1 133 = .ok (.ireturn, 1) := by decide +kernel
theorem D_212_134 : decode J_212.2.2.1 134 = .ok (.aload_n 0, 1) := by decide +kernel
theorem D_212_135 : decode J_212.2.2.1 135 = .ok (.getfield 76, 3) := by decide +kernel
theorem D_212_138 : decode J_212.2.2.1 138 = .ok (.getfield 205, 3) := by decide +kernel
theorem D_212_141 : decode J_212.2.2.1 141 = .ok (.ireturn, 1) := by decide +kernel
theorem D_212_142 : decode J_212.2.2.1 142 = .ok (.iconst (-1), 1) := by decide +kernel
theorem D_212_143 : decode J_212.2.2.1 143 = .ok (.ireturn, 1) := by decide +kernel
def P_212_0 (X : mjX) (d C S kc ks : Nat) (k : Nat → Int32 → mjH → mjU) : Prop := ∀ (l0 : Nat) (l1 : Int32) (hp : mjH) (q : Option Value × mjH), k l0 l1 hp = some q → mjG X d C S J_212 (mjEq q) 0 [some (.ref l0), some (.int l1)] [] hp kc ks
noncomputable def b_212_0 (R : mjR) (l0 : Nat) (l1 : Int32) (hp : mjH) : mjU := (if l1 = (0 : Int32) then gR hp l0 11 12 (fun v2 => gI hp v2 5 8 (fun v3 => some (some (.int v3), hp))) else if l1 = (1 : Int32) then gR hp l0 11 12 (fun v5 => gI hp v5 5 9 (fun v6 => some (some (.int v6), hp))) else if l1 = (2 : Int32) then gR hp l0 11 12 (fun v8 => gI hp v8 5 10 (fun v9 => some (some (.int v9), hp))) else if l1 = (3 : Int32) then gR hp l0 11 12 (fun v11 => gI hp v11 5 11 (fun v12 => some (some (.int v12), hp))) else if l1 = (4 : Int32) then gR hp l0 11 12 (fun v14 => gI hp v14 5 12 (fun v15 => some (some (.int v15), hp))) else if l1 = (5 : Int32) then gR hp l0 11 11 (fun v17 => gI hp v17 3 3 (fun v18 => some (some (.int v18), hp))) else if l1 = (6 : Int32) then gR hp l0 11 11 (fun v20 => gI hp v20 3 2 (fun v21 => some (some (.int v21), hp))) else if l1 = (7 : Int32) then gR hp l0 11 12 (fun v23 => gR hp v23 5 1 (fun v24 => gI hp v24 2 0 (fun v25 => some (some (.int v25), hp)))) else if l1 = (8 : Int32) then gR hp l0 11 12 (fun v27 => gR hp v27 5 1 (fun v28 => gI hp v28 2 1 (fun v29 => some (some (.int v29), hp)))) else if l1 = (9 : Int32) then gR hp l0 11 12 (fun v31 => gI hp v31 5 13 (fun v32 => some (some (.int v32), hp))) else some (some (.int (-1 : Int32)), hp))
theorem t_212_0 {X : mjX} {d C S kc ks : Nat} {R : mjR} (hR : mjC R d) (h1 : kc ≤ C) (h2 : ks ≤ S) : P_212_0 X (d + 1) C S kc ks (b_212_0 R) := by
  intro l0 l1 hp q h
  unfold b_212_0 at h
  refine mjr_iload_n (x := l1) D_212_0 rfl ?_
  refine mjq_tsw (c := (0 : Int32)) (tgt := 56) D_212_1 (by decide) (by decide) rfl rfl h (fun h => ?_) (fun n1 h => ?_)
  · refine mjr_aload_n (x := l0) D_212_56 rfl ?_
    refine mjq_gR D_212_57 fr_11_76 h (fun v2 h => ?_)
    refine mjq_gI D_212_60 fr_11_171 h (fun v3 h => ?_)
    exact mjq_ret D_212_63 rfl h1 h2 h
  refine mjq_tsw (c := (1 : Int32)) (tgt := 64) D_212_1 (by decide) (by decide) rfl rfl h (fun h => ?_) (fun n4 h => ?_)
  · refine mjr_aload_n (x := l0) D_212_64 rfl ?_
    refine mjq_gR D_212_65 fr_11_76 h (fun v5 h => ?_)
    refine mjq_gI D_212_68 fr_11_177 h (fun v6 h => ?_)
    exact mjq_ret D_212_71 rfl h1 h2 h
  refine mjq_tsw (c := (2 : Int32)) (tgt := 72) D_212_1 (by decide) (by decide) rfl rfl h (fun h => ?_) (fun n7 h => ?_)
  · refine mjr_aload_n (x := l0) D_212_72 rfl ?_
    refine mjq_gR D_212_73 fr_11_76 h (fun v8 h => ?_)
    refine mjq_gI D_212_76 fr_11_180 h (fun v9 h => ?_)
    exact mjq_ret D_212_79 rfl h1 h2 h
  refine mjq_tsw (c := (3 : Int32)) (tgt := 80) D_212_1 (by decide) (by decide) rfl rfl h (fun h => ?_) (fun n10 h => ?_)
  · refine mjr_aload_n (x := l0) D_212_80 rfl ?_
    refine mjq_gR D_212_81 fr_11_76 h (fun v11 h => ?_)
    refine mjq_gI D_212_84 fr_11_183 h (fun v12 h => ?_)
    exact mjq_ret D_212_87 rfl h1 h2 h
  refine mjq_tsw (c := (4 : Int32)) (tgt := 88) D_212_1 (by decide) (by decide) rfl rfl h (fun h => ?_) (fun n13 h => ?_)
  · refine mjr_aload_n (x := l0) D_212_88 rfl ?_
    refine mjq_gR D_212_89 fr_11_76 h (fun v14 h => ?_)
    refine mjq_gI D_212_92 fr_11_186 h (fun v15 h => ?_)
    exact mjq_ret D_212_95 rfl h1 h2 h
  refine mjq_tsw (c := (5 : Int32)) (tgt := 96) D_212_1 (by decide) (by decide) rfl rfl h (fun h => ?_) (fun n16 h => ?_)
  · refine mjr_aload_n (x := l0) D_212_96 rfl ?_
    refine mjq_gR D_212_97 fr_11_67 h (fun v17 h => ?_)
    refine mjq_gI D_212_100 fr_11_189 h (fun v18 h => ?_)
    exact mjq_ret D_212_103 rfl h1 h2 h
  refine mjq_tsw (c := (6 : Int32)) (tgt := 104) D_212_1 (by decide) (by decide) rfl rfl h (fun h => ?_) (fun n19 h => ?_)
  · refine mjr_aload_n (x := l0) D_212_104 rfl ?_
    refine mjq_gR D_212_105 fr_11_67 h (fun v20 h => ?_)
    refine mjq_gI D_212_108 fr_11_192 h (fun v21 h => ?_)
    exact mjq_ret D_212_111 rfl h1 h2 h
  refine mjq_tsw (c := (7 : Int32)) (tgt := 112) D_212_1 (by decide) (by decide) rfl rfl h (fun h => ?_) (fun n22 h => ?_)
  · refine mjr_aload_n (x := l0) D_212_112 rfl ?_
    refine mjq_gR D_212_113 fr_11_76 h (fun v23 h => ?_)
    refine mjq_gR D_212_116 fr_11_195 h (fun v24 h => ?_)
    refine mjq_gI D_212_119 fr_11_199 h (fun v25 h => ?_)
    exact mjq_ret D_212_122 rfl h1 h2 h
  refine mjq_tsw (c := (8 : Int32)) (tgt := 123) D_212_1 (by decide) (by decide) rfl rfl h (fun h => ?_) (fun n26 h => ?_)
  · refine mjr_aload_n (x := l0) D_212_123 rfl ?_
    refine mjq_gR D_212_124 fr_11_76 h (fun v27 h => ?_)
    refine mjq_gR D_212_127 fr_11_195 h (fun v28 h => ?_)
    refine mjq_gI D_212_130 fr_11_202 h (fun v29 h => ?_)
    exact mjq_ret D_212_133 rfl h1 h2 h
  refine mjq_tsw (c := (9 : Int32)) (tgt := 134) D_212_1 (by decide) (by decide) rfl rfl h (fun h => ?_) (fun n30 h => ?_)
  · refine mjr_aload_n (x := l0) D_212_134 rfl ?_
    refine mjq_gR D_212_135 fr_11_76 h (fun v31 h => ?_)
    refine mjq_gI D_212_138 fr_11_205 h (fun v32 h => ?_)
    exact mjq_ret D_212_141 rfl h1 h2 h
  refine mjr_tableOut (tgt := 142) D_212_1 (mj_swout [(0 : Int32), (1 : Int32), (2 : Int32), (3 : Int32), (4 : Int32), (5 : Int32), (6 : Int32), (7 : Int32), (8 : Int32), (9 : Int32)] (by decide) (mj_all1 n1 (mj_all1 n4 (mj_all1 n7 (mj_all1 n10 (mj_all1 n13 (mj_all1 n16 (mj_all1 n19 (mj_all1 n22 (mj_all1 n26 (mj_all1 n30 mj_all0))))))))))) rfl ?_
  refine mjq_ic (v := (-1 : Int32)) D_212_142 rfl ?_
  exact mjq_ret D_212_143 rfl h1 h2 h
noncomputable def f_212 (R : mjR) (a0 : Nat) (a1 : Int32) (hp : mjH) : mjU := b_212_0 R a0 a1 hp
theorem c_212 {R : mjR} {d : Nat} (hR : mjC R d) {a0 : Nat} {a1 : Int32} {hp : mjH} {q : Option Value × mjH} (h : f_212 R a0 a1 hp = some q) : mjM (d + 1) 0 0 212 [.ref a0, .int a1] hp (mjEq q) :=
  mjM_of Ja_212 (Nat.le_of_ble_eq_true rfl) (mjG.fg (lo' := [some (.ref a0), some (.int a1)]) (And.intro rfl (And.intro rfl True.intro)) ((t_212_0 hR (Nat.le_refl 0) (Nat.le_refl 0)) a0 a1 hp q h))
def J_213 : mjI := (⟨"OwnerHeap", "said", "(I)I"⟩, 11, prog_1_method_13_code, 2, (some .int), 1, false)
theorem Ja_213 : mjMt 213 = some J_213 := by rfl
theorem D_213_0 : decode J_213.2.2.1 0 = .ok (.iload_n 1, 1) := by decide +kernel
theorem D_213_1 : decode J_213.2.2.1 1 = .ok (.ifCond .lt 33, 3) := by decide +kernel
theorem D_213_4 : decode J_213.2.2.1 4 = .ok (.iload_n 1, 1) := by decide +kernel
theorem D_213_5 : decode J_213.2.2.1 5 = .ok (.sipush 200, 3) := by decide +kernel
theorem D_213_8 : decode J_213.2.2.1 8 = .ok (.if_icmp .ge 26, 3) := by decide +kernel
theorem D_213_11 : decode J_213.2.2.1 11 = .ok (.iload_n 1, 1) := by decide +kernel
theorem D_213_12 : decode J_213.2.2.1 12 = .ok (.aload_n 0, 1) := by decide +kernel
theorem D_213_13 : decode J_213.2.2.1 13 = .ok (.getfield 76, 3) := by decide +kernel
theorem D_213_16 : decode J_213.2.2.1 16 = .ok (.getfield 205, 3) := by decide +kernel
theorem D_213_19 : decode J_213.2.2.1 19 = .ok (.if_icmp .ge 15, 3) := by decide +kernel
theorem D_213_22 : decode J_213.2.2.1 22 = .ok (.aload_n 0, 1) := by decide +kernel
theorem D_213_23 : decode J_213.2.2.1 23 = .ok (.getfield 76, 3) := by decide +kernel
theorem D_213_26 : decode J_213.2.2.1 26 = .ok (.getfield 208, 3) := by decide +kernel
theorem D_213_29 : decode J_213.2.2.1 29 = .ok (.iload_n 1, 1) := by decide +kernel
theorem D_213_30 : decode J_213.2.2.1 30 = .ok (.iaload, 1) := by decide +kernel
theorem D_213_31 : decode J_213.2.2.1 31 = .ok (.goto 4, 3) := by decide +kernel
theorem D_213_34 : decode J_213.2.2.1 34 = .ok (.iconst 0, 1) := by decide +kernel
theorem D_213_35 : decode J_213.2.2.1 35 = .ok (.ireturn, 1) := by decide +kernel
def P_213_34 (X : mjX) (d C S kc ks : Nat) (k : mjH → mjU) : Prop := ∀  (hp : mjH) (q : Option Value × mjH), k  hp = some q → mjG X d C S J_213 (mjEq q) 34 [none, none] [] hp kc ks
def P_213_0 (X : mjX) (d C S kc ks : Nat) (k : Nat → Int32 → mjH → mjU) : Prop := ∀ (l0 : Nat) (l1 : Int32) (hp : mjH) (q : Option Value × mjH), k l0 l1 hp = some q → mjG X d C S J_213 (mjEq q) 0 [some (.ref l0), some (.int l1)] [] hp kc ks
noncomputable def b_213_34 (R : mjR)  (hp : mjH) : mjU := some (some (.int (0 : Int32)), hp)
theorem t_213_34 {X : mjX} {d C S kc ks : Nat} {R : mjR} (hR : mjC R d) (h1 : kc ≤ C) (h2 : ks ≤ S) : P_213_34 X (d + 1) C S kc ks (b_213_34 R) := by
  intro  hp q h
  unfold b_213_34 at h
  refine mjq_ic (v := (0 : Int32)) D_213_34 rfl ?_
  exact mjq_ret D_213_35 rfl h1 h2 h
noncomputable def b_213_0 (R : mjR) (l0 : Nat) (l1 : Int32) (hp : mjH) : mjU := (if l1 < 0 then b_213_34 R hp else (if (200 : Int32) ≤ l1 then b_213_34 R hp else gR hp l0 11 12 (fun v1 => gI hp v1 5 13 (fun v2 => (if v2 ≤ l1 then b_213_34 R hp else gR hp l0 11 12 (fun v3 => gR hp v3 5 14 (fun v4 => aI hp v4 l1 (fun v5 => some (some (.int v5), hp)))))))))
theorem t_213_0 {X : mjX} {d C S kc ks : Nat} {R : mjR} (hR : mjC R d) (h1 : kc ≤ C) (h2 : ks ≤ S) : P_213_0 X (d + 1) C S kc ks (b_213_0 R) := by
  intro l0 l1 hp q h
  unfold b_213_0 at h
  refine mjr_iload_n (x := l1) D_213_0 rfl ?_
  refine mjq_if_lt (tgt := 34) D_213_1 rfl h (fun h => ?_) (fun h => ?_)
  · exact mjG.fg (lo' := [none, none]) True.intro ((t_213_34 hR h1 h2) _ _ h)
  · refine mjr_iload_n (x := l1) D_213_4 rfl ?_
    refine mjq_si (v := (200 : Int32)) D_213_5 rfl ?_
    refine mjq_icmp_ge (tgt := 34) D_213_8 rfl h (fun h => ?_) (fun h => ?_)
    · exact mjG.fg (lo' := [none, none]) True.intro ((t_213_34 hR h1 h2) _ _ h)
    · refine mjr_iload_n (x := l1) D_213_11 rfl ?_
      refine mjr_aload_n (x := l0) D_213_12 rfl ?_
      refine mjq_gR D_213_13 fr_11_76 h (fun v1 h => ?_)
      refine mjq_gI D_213_16 fr_11_205 h (fun v2 h => ?_)
      refine mjq_icmp_ge (tgt := 34) D_213_19 rfl h (fun h => ?_) (fun h => ?_)
      · exact mjG.fg (lo' := [none, none]) True.intro ((t_213_34 hR h1 h2) _ _ h)
      · refine mjr_aload_n (x := l0) D_213_22 rfl ?_
        refine mjq_gR D_213_23 fr_11_76 h (fun v3 h => ?_)
        refine mjq_gR D_213_26 fr_11_208 h (fun v4 h => ?_)
        refine mjr_iload_n (x := l1) D_213_29 rfl ?_
        refine mjq_aI D_213_30 h (fun v5 h => ?_)
        refine mjr_goto (tgt := 35) D_213_31 rfl ?_
        exact mjq_ret D_213_35 rfl h1 h2 h
noncomputable def f_213 (R : mjR) (a0 : Nat) (a1 : Int32) (hp : mjH) : mjU := b_213_0 R a0 a1 hp
theorem c_213 {R : mjR} {d : Nat} (hR : mjC R d) {a0 : Nat} {a1 : Int32} {hp : mjH} {q : Option Value × mjH} (h : f_213 R a0 a1 hp = some q) : mjM (d + 1) 0 0 213 [.ref a0, .int a1] hp (mjEq q) :=
  mjM_of Ja_213 (Nat.le_of_ble_eq_true rfl) (mjG.fg (lo' := [some (.ref a0), some (.int a1)]) (And.intro rfl (And.intro rfl True.intro)) ((t_213_0 hR (Nat.le_refl 0) (Nat.le_refl 0)) a0 a1 hp q h))
def J_214 : mjI := (⟨"OwnerHeap", "call", "(II)I"⟩, 11, prog_1_method_14_code, 5, (some .int), 2, false)
theorem Ja_214 : mjMt 214 = some J_214 := by rfl
theorem D_214_0 : decode J_214.2.2.1 0 = .ok (.aload_n 0, 1) := by decide +kernel
theorem D_214_1 : decode J_214.2.2.1 1 = .ok (.getfield 76, 3) := by decide +kernel
theorem D_214_4 : decode J_214.2.2.1 4 = .ok (.getfield 195, 3) := by decide +kernel
theorem D_214_7 : decode J_214.2.2.1 7 = .ok (.astore_n 3, 1) := by decide +kernel
theorem D_214_8 : decode J_214.2.2.1 8 = .ok (.iload_n 1, 1) := by decide +kernel
theorem D_214_9 : decode J_214.2.2.1 9 = .ok (.ifCond .lt 11, 3) := by decide +kernel
theorem D_214_12 : decode J_214.2.2.1 12 = .ok (.iload_n 1, 1) := by decide +kernel
theorem D_214_13 : decode J_214.2.2.1 13 = .ok (.aload_n 3, 1) := by decide +kernel
theorem D_214_14 : decode J_214.2.2.1 14 = .ok (.getfield 199, 3) := by decide +kernel
theorem D_214_17 : decode J_214.2.2.1 17 = .ok (.if_icmp .lt 5, 3) := by decide +kernel
theorem D_214_20 : decode J_214.2.2.1 20 = .ok (.iconst (-1), 1) := by decide +kernel
theorem D_214_21 : decode J_214.2.2.1 21 = .ok (.ireturn, 1) := by decide +kernel
theorem D_214_22 : decode J_214.2.2.1 22 = .ok (.aload_n 3, 1) := by decide +kernel
theorem D_214_23 : decode J_214.2.2.1 23 = .ok (.getfield 211, 3) := by decide +kernel
theorem D_214_26 : decode J_214.2.2.1 26 = .ok (.iload_n 1, 1) := by decide +kernel
theorem D_214_27 : decode J_214.2.2.1 27 = .ok (.iaload, 1) := by decide +kernel
theorem D_214_28 : decode J_214.2.2.1 28 = .ok (.istore 4, 2) := by decide +kernel
theorem D_214_30 : decode J_214.2.2.1 30 = .ok (.iload_n 2, 1) := by decide +kernel
theorem D_214_31 : decode J_214.2.2.1 31 = .ok (.tableswitch 95 0 3 #[29, 55, 81, 88], 29) := by decide +kernel
theorem D_214_60 : decode J_214.2.2.1 60 = .ok (.iload 4, 2) := by decide +kernel
theorem D_214_62 : decode J_214.2.2.1 62 = .ok (.sipush 384, 3) := by decide +kernel
theorem D_214_65 : decode J_214.2.2.1 65 = .ok (.if_icmp .ne 7, 3) := by decide +kernel
theorem D_214_68 : decode J_214.2.2.1 68 = .ok (.iconst (-1), 1) := by decide +kernel
theorem D_214_69 : decode J_214.2.2.1 69 = .ok (.goto 16, 3) := by decide +kernel
theorem D_214_72 : decode J_214.2.2.1 72 = .ok (.aload_n 0, 1) := by decide +kernel
theorem D_214_73 : decode J_214.2.2.1 73 = .ok (.getfield 16, 3) := by decide +kernel
theorem D_214_76 : decode J_214.2.2.1 76 = .ok (.getfield 216, 3) := by decide +kernel
theorem D_214_79 : decode J_214.2.2.1 79 = .ok (.getfield 220, 3) := by decide +kernel
theorem D_214_82 : decode J_214.2.2.1 82 = .ok (.iload 4, 2) := by decide +kernel
theorem D_214_84 : decode J_214.2.2.1 84 = .ok (.iaload, 1) := by decide +kernel
theorem D_214_85 : decode J_214.2.2.1 85 = .ok (.ireturn, 1) := by decide +kernel
theorem D_214_86 : decode J_214.2.2.1 86 = .ok (.iload 4, 2) := by decide +kernel
theorem D_214_88 : decode J_214.2.2.1 88 = .ok (.sipush 384, 3) := by decide +kernel
theorem D_214_91 : decode J_214.2.2.1 91 = .ok (.if_icmp .ne 7, 3) := by decide +kernel
theorem D_214_94 : decode J_214.2.2.1 94 = .ok (.iconst (-1), 1) := by decide +kernel
theorem D_214_95 : decode J_214.2.2.1 95 = .ok (.goto 16, 3) := by decide +kernel
theorem D_214_98 : decode J_214.2.2.1 98 = .ok (.aload_n 0, 1) := by decide +kernel
theorem D_214_99 : decode J_214.2.2.1 99 = .ok (.getfield 16, 3) := by decide +kernel
theorem D_214_102 : decode J_214.2.2.1 102 = .ok (.getfield 216, 3) := by decide +kernel
theorem D_214_105 : decode J_214.2.2.1 105 = .ok (.getfield 223, 3) := by decide +kernel
theorem D_214_108 : decode J_214.2.2.1 108 = .ok (.iload 4, 2) := by decide +kernel
theorem D_214_110 : decode J_214.2.2.1 110 = .ok (.iaload, 1) := by decide +kernel
theorem D_214_111 : decode J_214.2.2.1 111 = .ok (.ireturn, 1) := by decide +kernel
theorem D_214_112 : decode J_214.2.2.1 112 = .ok (.aload_n 3, 1) := by decide +kernel
theorem D_214_113 : decode J_214.2.2.1 113 = .ok (.getfield 226, 3) := by decide +kernel
theorem D_214_116 : decode J_214.2.2.1 116 = .ok (.iload_n 1, 1) := by decide +kernel
theorem D_214_117 : decode J_214.2.2.1 117 = .ok (.iaload, 1) := by decide +kernel
theorem D_214_118 : decode J_214.2.2.1 118 = .ok (.ireturn, 1) := by decide +kernel
theorem D_214_119 : decode J_214.2.2.1 119 = .ok (.aload_n 3, 1) := by decide +kernel
theorem D_214_120 : decode J_214.2.2.1 120 = .ok (.getfield 229, 3) := by decide +kernel
theorem D_214_123 : decode J_214.2.2.1 123 = .ok (.iload_n 1, 1) := by decide +kernel
theorem D_214_124 : decode J_214.2.2.1 124 = .ok (.iaload, 1) := by decide +kernel
theorem D_214_125 : decode J_214.2.2.1 125 = .ok (.ireturn, 1) := by decide +kernel
theorem D_214_126 : decode J_214.2.2.1 126 = .ok (.iconst (-1), 1) := by decide +kernel
theorem D_214_127 : decode J_214.2.2.1 127 = .ok (.ireturn, 1) := by decide +kernel
def P_214_20 (X : mjX) (d C S kc ks : Nat) (k : mjH → mjU) : Prop := ∀  (hp : mjH) (q : Option Value × mjH), k  hp = some q → mjG X d C S J_214 (mjEq q) 20 [none, none, none, none, none] [] hp kc ks
def P_214_0 (X : mjX) (d C S kc ks : Nat) (k : Nat → Int32 → Int32 → mjH → mjU) : Prop := ∀ (l0 : Nat) (l1 : Int32) (l2 : Int32) (hp : mjH) (q : Option Value × mjH), k l0 l1 l2 hp = some q → mjG X d C S J_214 (mjEq q) 0 [some (.ref l0), some (.int l1), some (.int l2), none, none] [] hp kc ks
noncomputable def b_214_20 (R : mjR)  (hp : mjH) : mjU := some (some (.int (-1 : Int32)), hp)
theorem t_214_20 {X : mjX} {d C S kc ks : Nat} {R : mjR} (hR : mjC R d) (h1 : kc ≤ C) (h2 : ks ≤ S) : P_214_20 X (d + 1) C S kc ks (b_214_20 R) := by
  intro  hp q h
  unfold b_214_20 at h
  refine mjq_ic (v := (-1 : Int32)) D_214_20 rfl ?_
  exact mjq_ret D_214_21 rfl h1 h2 h
noncomputable def b_214_0 (R : mjR) (l0 : Nat) (l1 : Int32) (l2 : Int32) (hp : mjH) : mjU := gR hp l0 11 12 (fun v1 => gR hp v1 5 1 (fun v2 => (if l1 < 0 then b_214_20 R hp else gI hp v2 2 0 (fun v3 => (if l1 < v3 then gR hp v2 2 2 (fun v4 => aI hp v4 l1 (fun v5 => (if l2 = (0 : Int32) then (if v5 = (384 : Int32) then some (some (.int (-1 : Int32)), hp) else gR hp l0 11 6 (fun v7 => gR hp v7 7 14 (fun v8 => gR hp v8 6 2 (fun v9 => aI hp v9 v5 (fun v10 => some (some (.int v10), hp)))))) else if l2 = (1 : Int32) then (if v5 = (384 : Int32) then some (some (.int (-1 : Int32)), hp) else gR hp l0 11 6 (fun v12 => gR hp v12 7 14 (fun v13 => gR hp v13 6 5 (fun v14 => aI hp v14 v5 (fun v15 => some (some (.int v15), hp)))))) else if l2 = (2 : Int32) then gR hp v2 2 3 (fun v17 => aI hp v17 l1 (fun v18 => some (some (.int v18), hp))) else if l2 = (3 : Int32) then gR hp v2 2 5 (fun v20 => aI hp v20 l1 (fun v21 => some (some (.int v21), hp))) else some (some (.int (-1 : Int32)), hp)))) else b_214_20 R hp)))))
theorem t_214_0 {X : mjX} {d C S kc ks : Nat} {R : mjR} (hR : mjC R d) (h1 : kc ≤ C) (h2 : ks ≤ S) : P_214_0 X (d + 1) C S kc ks (b_214_0 R) := by
  intro l0 l1 l2 hp q h
  unfold b_214_0 at h
  refine mjr_aload_n (x := l0) D_214_0 rfl ?_
  refine mjq_gR D_214_1 fr_11_76 h (fun v1 h => ?_)
  refine mjq_gR D_214_4 fr_11_195 h (fun v2 h => ?_)
  refine mjq_astore_n (lo' := [some (.ref l0), some (.int l1), some (.int l2), some (.ref v2), none]) D_214_7 (Nat.le_of_ble_eq_true rfl) rfl ?_
  refine mjr_iload_n (x := l1) D_214_8 rfl ?_
  refine mjq_if_lt (tgt := 20) D_214_9 rfl h (fun h => ?_) (fun h => ?_)
  · exact mjG.fg (lo' := [none, none, none, none, none]) True.intro ((t_214_20 hR h1 h2) _ _ h)
  · refine mjr_iload_n (x := l1) D_214_12 rfl ?_
    refine mjr_aload_n (x := v2) D_214_13 rfl ?_
    refine mjq_gI D_214_14 fr_11_199 h (fun v3 h => ?_)
    refine mjq_icmp_lt (tgt := 22) D_214_17 rfl h (fun h => ?_) (fun h => ?_)
    · refine mjr_aload_n (x := v2) D_214_22 rfl ?_
      refine mjq_gR D_214_23 fr_11_211 h (fun v4 h => ?_)
      refine mjr_iload_n (x := l1) D_214_26 rfl ?_
      refine mjq_aI D_214_27 h (fun v5 h => ?_)
      refine mjq_istore (lo' := [some (.ref l0), some (.int l1), some (.int l2), some (.ref v2), some (.int v5)]) D_214_28 (Nat.le_of_ble_eq_true rfl) rfl ?_
      refine mjr_iload_n (x := l2) D_214_30 rfl ?_
      refine mjq_tsw (c := (0 : Int32)) (tgt := 60) D_214_31 (by decide) (by decide) rfl rfl h (fun h => ?_) (fun n6 h => ?_)
      · refine mjr_iload (x := v5) D_214_60 rfl ?_
        refine mjq_si (v := (384 : Int32)) D_214_62 rfl ?_
        refine mjq_icmp_ne (tgt := 72) D_214_65 rfl h (fun h => ?_) (fun h => ?_)
        · refine mjr_aload_n (x := l0) D_214_72 rfl ?_
          refine mjq_gR D_214_73 fr_11_16 h (fun v7 h => ?_)
          refine mjq_gR D_214_76 fr_11_216 h (fun v8 h => ?_)
          refine mjq_gR D_214_79 fr_11_220 h (fun v9 h => ?_)
          refine mjr_iload (x := v5) D_214_82 rfl ?_
          refine mjq_aI D_214_84 h (fun v10 h => ?_)
          exact mjq_ret D_214_85 rfl h1 h2 h
        · refine mjq_ic (v := (-1 : Int32)) D_214_68 rfl ?_
          refine mjr_goto (tgt := 85) D_214_69 rfl ?_
          exact mjq_ret D_214_85 rfl h1 h2 h
      refine mjq_tsw (c := (1 : Int32)) (tgt := 86) D_214_31 (by decide) (by decide) rfl rfl h (fun h => ?_) (fun n11 h => ?_)
      · refine mjr_iload (x := v5) D_214_86 rfl ?_
        refine mjq_si (v := (384 : Int32)) D_214_88 rfl ?_
        refine mjq_icmp_ne (tgt := 98) D_214_91 rfl h (fun h => ?_) (fun h => ?_)
        · refine mjr_aload_n (x := l0) D_214_98 rfl ?_
          refine mjq_gR D_214_99 fr_11_16 h (fun v12 h => ?_)
          refine mjq_gR D_214_102 fr_11_216 h (fun v13 h => ?_)
          refine mjq_gR D_214_105 fr_11_223 h (fun v14 h => ?_)
          refine mjr_iload (x := v5) D_214_108 rfl ?_
          refine mjq_aI D_214_110 h (fun v15 h => ?_)
          exact mjq_ret D_214_111 rfl h1 h2 h
        · refine mjq_ic (v := (-1 : Int32)) D_214_94 rfl ?_
          refine mjr_goto (tgt := 111) D_214_95 rfl ?_
          exact mjq_ret D_214_111 rfl h1 h2 h
      refine mjq_tsw (c := (2 : Int32)) (tgt := 112) D_214_31 (by decide) (by decide) rfl rfl h (fun h => ?_) (fun n16 h => ?_)
      · refine mjr_aload_n (x := v2) D_214_112 rfl ?_
        refine mjq_gR D_214_113 fr_11_226 h (fun v17 h => ?_)
        refine mjr_iload_n (x := l1) D_214_116 rfl ?_
        refine mjq_aI D_214_117 h (fun v18 h => ?_)
        exact mjq_ret D_214_118 rfl h1 h2 h
      refine mjq_tsw (c := (3 : Int32)) (tgt := 119) D_214_31 (by decide) (by decide) rfl rfl h (fun h => ?_) (fun n19 h => ?_)
      · refine mjr_aload_n (x := v2) D_214_119 rfl ?_
        refine mjq_gR D_214_120 fr_11_229 h (fun v20 h => ?_)
        refine mjr_iload_n (x := l1) D_214_123 rfl ?_
        refine mjq_aI D_214_124 h (fun v21 h => ?_)
        exact mjq_ret D_214_125 rfl h1 h2 h
      refine mjr_tableOut (tgt := 126) D_214_31 (mj_swout [(0 : Int32), (1 : Int32), (2 : Int32), (3 : Int32)] (by decide) (mj_all1 n6 (mj_all1 n11 (mj_all1 n16 (mj_all1 n19 mj_all0))))) rfl ?_
      refine mjq_ic (v := (-1 : Int32)) D_214_126 rfl ?_
      exact mjq_ret D_214_127 rfl h1 h2 h
    · exact mjG.fg (lo' := [none, none, none, none, none]) True.intro ((t_214_20 hR h1 h2) _ _ h)
noncomputable def f_214 (R : mjR) (a0 : Nat) (a1 : Int32) (a2 : Int32) (hp : mjH) : mjU := b_214_0 R a0 a1 a2 hp
theorem c_214 {R : mjR} {d : Nat} (hR : mjC R d) {a0 : Nat} {a1 : Int32} {a2 : Int32} {hp : mjH} {q : Option Value × mjH} (h : f_214 R a0 a1 a2 hp = some q) : mjM (d + 1) 0 0 214 [.ref a0, .int a1, .int a2] hp (mjEq q) :=
  mjM_of Ja_214 (Nat.le_of_ble_eq_true rfl) (mjG.fg (lo' := [some (.ref a0), some (.int a1), some (.int a2), none, none]) (And.intro rfl (And.intro rfl (And.intro rfl True.intro))) ((t_214_0 hR (Nat.le_refl 0) (Nat.le_refl 0)) a0 a1 a2 hp q h))
def J_215 : mjI := (⟨"OwnerHeap", "variable", "(II)I"⟩, 11, prog_1_method_15_code, 5, (some .int), 2, false)
theorem Ja_215 : mjMt 215 = some J_215 := by rfl
theorem D_215_0 : decode J_215.2.2.1 0 = .ok (.aload_n 0, 1) := by decide +kernel
theorem D_215_1 : decode J_215.2.2.1 1 = .ok (.getfield 76, 3) := by decide +kernel
theorem D_215_4 : decode J_215.2.2.1 4 = .ok (.getfield 195, 3) := by decide +kernel
theorem D_215_7 : decode J_215.2.2.1 7 = .ok (.astore_n 3, 1) := by decide +kernel
theorem D_215_8 : decode J_215.2.2.1 8 = .ok (.iload_n 1, 1) := by decide +kernel
theorem D_215_9 : decode J_215.2.2.1 9 = .ok (.ifCond .lt 11, 3) := by decide +kernel
theorem D_215_12 : decode J_215.2.2.1 12 = .ok (.iload_n 1, 1) := by decide +kernel
theorem D_215_13 : decode J_215.2.2.1 13 = .ok (.aload_n 3, 1) := by decide +kernel
theorem D_215_14 : decode J_215.2.2.1 14 = .ok (.getfield 199, 3) := by decide +kernel
theorem D_215_17 : decode J_215.2.2.1 17 = .ok (.if_icmp .lt 5, 3) := by decide +kernel
theorem D_215_20 : decode J_215.2.2.1 20 = .ok (.iconst 0, 1) := by decide +kernel
theorem D_215_21 : decode J_215.2.2.1 21 = .ok (.ireturn, 1) := by decide +kernel
theorem D_215_22 : decode J_215.2.2.1 22 = .ok (.iload_n 2, 1) := by decide +kernel
theorem D_215_23 : decode J_215.2.2.1 23 = .ok (.ifCond .lt 28, 3) := by decide +kernel
theorem D_215_26 : decode J_215.2.2.1 26 = .ok (.iload_n 2, 1) := by decide +kernel
theorem D_215_27 : decode J_215.2.2.1 27 = .ok (.aload_n 0, 1) := by decide +kernel
theorem D_215_28 : decode J_215.2.2.1 28 = .ok (.getfield 16, 3) := by decide +kernel
theorem D_215_31 : decode J_215.2.2.1 31 = .ok (.getfield 216, 3) := by decide +kernel
theorem D_215_34 : decode J_215.2.2.1 34 = .ok (.getfield 232, 3) := by decide +kernel
theorem D_215_37 : decode J_215.2.2.1 37 = .ok (.aload_n 3, 1) := by decide +kernel
theorem D_215_38 : decode J_215.2.2.1 38 = .ok (.getfield 211, 3) := by decide +kernel
theorem D_215_41 : decode J_215.2.2.1 41 = .ok (.iload_n 1, 1) := by decide +kernel
theorem D_215_42 : decode J_215.2.2.1 42 = .ok (.iaload, 1) := by decide +kernel
theorem D_215_43 : decode J_215.2.2.1 43 = .ok (.iaload, 1) := by decide +kernel
theorem D_215_44 : decode J_215.2.2.1 44 = .ok (.if_icmp .ge 7, 3) := by decide +kernel
theorem D_215_47 : decode J_215.2.2.1 47 = .ok (.iconst 1, 1) := by decide +kernel
theorem D_215_48 : decode J_215.2.2.1 48 = .ok (.goto 4, 3) := by decide +kernel
theorem D_215_51 : decode J_215.2.2.1 51 = .ok (.iconst 0, 1) := by decide +kernel
theorem D_215_52 : decode J_215.2.2.1 52 = .ok (.istore 4, 2) := by decide +kernel
theorem D_215_54 : decode J_215.2.2.1 54 = .ok (.iload 4, 2) := by decide +kernel
theorem D_215_56 : decode J_215.2.2.1 56 = .ok (.ifCond .eq 12, 3) := by decide +kernel
theorem D_215_59 : decode J_215.2.2.1 59 = .ok (.aload_n 3, 1) := by decide +kernel
theorem D_215_60 : decode J_215.2.2.1 60 = .ok (.iload_n 1, 1) := by decide +kernel
theorem D_215_61 : decode J_215.2.2.1 61 = .ok (.iload_n 2, 1) := by decide +kernel
theorem D_215_62 : decode J_215.2.2.1 62 = .ok (.invokevirtual 235, 3) := by decide +kernel
theorem D_215_65 : decode J_215.2.2.1 65 = .ok (.goto 4, 3) := by decide +kernel
theorem D_215_68 : decode J_215.2.2.1 68 = .ok (.iconst 0, 1) := by decide +kernel
theorem D_215_69 : decode J_215.2.2.1 69 = .ok (.ireturn, 1) := by decide +kernel
def P_215_20 (X : mjX) (d C S kc ks : Nat) (k : mjH → mjU) : Prop := ∀  (hp : mjH) (q : Option Value × mjH), k  hp = some q → mjG X d C S J_215 (mjEq q) 20 [none, none, none, none, none] [] hp kc ks
def P_215_52 (X : mjX) (d C S kc ks : Nat) (k : Int32 → Int32 → Nat → Int32 → mjH → mjU) : Prop := ∀ (l1 : Int32) (l2 : Int32) (l3 : Nat) (s0 : Int32) (hp : mjH) (q : Option Value × mjH), k l1 l2 l3 s0 hp = some q → mjG X d C S J_215 (mjEq q) 52 [none, some (.int l1), some (.int l2), some (.ref l3), none] [.int s0] hp kc ks
def P_215_51 (X : mjX) (d C S kc ks : Nat) (k : Int32 → Int32 → Nat → mjH → mjU) : Prop := ∀ (l1 : Int32) (l2 : Int32) (l3 : Nat) (hp : mjH) (q : Option Value × mjH), k l1 l2 l3 hp = some q → mjG X d C S J_215 (mjEq q) 51 [none, some (.int l1), some (.int l2), some (.ref l3), none] [] hp kc ks
def P_215_0 (X : mjX) (d C S kc ks : Nat) (k : Nat → Int32 → Int32 → mjH → mjU) : Prop := ∀ (l0 : Nat) (l1 : Int32) (l2 : Int32) (hp : mjH) (q : Option Value × mjH), k l0 l1 l2 hp = some q → mjG X d C S J_215 (mjEq q) 0 [some (.ref l0), some (.int l1), some (.int l2), none, none] [] hp kc ks
noncomputable def b_215_20 (R : mjR)  (hp : mjH) : mjU := some (some (.int (0 : Int32)), hp)
theorem t_215_20 {X : mjX} {d C S kc ks : Nat} {R : mjR} (hR : mjC R d) (h1 : kc ≤ C) (h2 : ks ≤ S) : P_215_20 X (d + 1) C S kc ks (b_215_20 R) := by
  intro  hp q h
  unfold b_215_20 at h
  refine mjq_ic (v := (0 : Int32)) D_215_20 rfl ?_
  exact mjq_ret D_215_21 rfl h1 h2 h
noncomputable def b_215_52 (R : mjR) (l1 : Int32) (l2 : Int32) (l3 : Nat) (s0 : Int32) (hp : mjH) : mjU := (if s0 = 0 then some (some (.int (0 : Int32)), hp) else rV hp l3 2 (bI (R 39 [.ref l3, .int l1, .int l2] hp) (fun v1 hp2 => some (some (.int v1), hp2))))
theorem t_215_52 {X : mjX} {d C S kc ks : Nat} {R : mjR} (hR : mjC R d) (h1 : kc ≤ C) (h2 : ks ≤ S) : P_215_52 X (d + 1) C S kc ks (b_215_52 R) := by
  intro l1 l2 l3 s0 hp q h
  unfold b_215_52 at h
  refine mjq_istore (lo' := [none, some (.int l1), some (.int l2), some (.ref l3), some (.int s0)]) D_215_52 (Nat.le_of_ble_eq_true rfl) rfl ?_
  refine mjr_iload (x := s0) D_215_54 rfl ?_
  refine mjq_if_eq (tgt := 68) D_215_56 rfl h (fun h => ?_) (fun h => ?_)
  · refine mjq_ic (v := (0 : Int32)) D_215_68 rfl ?_
    exact mjq_ret D_215_69 rfl h1 h2 h
  · refine mjr_aload_n (x := l3) D_215_59 rfl ?_
    refine mjr_iload_n (x := l1) D_215_60 rfl ?_
    refine mjr_iload_n (x := l2) D_215_61 rfl ?_
    refine mjq_vI (As := [.int l1, .int l2]) (rest := []) D_215_62 mr_11_235 V_39 rfl rfl rfl hR (Nat.le_refl _) h1 h2 h (fun v1 hp2 h => ?_)
    refine mjr_goto (tgt := 69) D_215_65 rfl ?_
    exact mjq_ret D_215_69 rfl h1 h2 h
noncomputable def b_215_51 (R : mjR) (l1 : Int32) (l2 : Int32) (l3 : Nat) (hp : mjH) : mjU := b_215_52 R l1 l2 l3 (0 : Int32) hp
theorem t_215_51 {X : mjX} {d C S kc ks : Nat} {R : mjR} (hR : mjC R d) (h1 : kc ≤ C) (h2 : ks ≤ S) : P_215_51 X (d + 1) C S kc ks (b_215_51 R) := by
  intro l1 l2 l3 hp q h
  unfold b_215_51 at h
  refine mjq_ic (v := (0 : Int32)) D_215_51 rfl ?_
  exact (t_215_52 hR h1 h2) _ _ _ _ _ _ h
noncomputable def b_215_0 (R : mjR) (l0 : Nat) (l1 : Int32) (l2 : Int32) (hp : mjH) : mjU := gR hp l0 11 12 (fun v1 => gR hp v1 5 1 (fun v2 => (if l1 < 0 then b_215_20 R hp else gI hp v2 2 0 (fun v3 => (if l1 < v3 then (if l2 < 0 then b_215_51 R l1 l2 v2 hp else gR hp l0 11 6 (fun v4 => gR hp v4 7 14 (fun v5 => gR hp v5 6 8 (fun v6 => gR hp v2 2 2 (fun v7 => aI hp v7 l1 (fun v8 => aI hp v6 v8 (fun v9 => (if v9 ≤ l2 then b_215_51 R l1 l2 v2 hp else b_215_52 R l1 l2 v2 (1 : Int32) hp)))))))) else b_215_20 R hp)))))
theorem t_215_0 {X : mjX} {d C S kc ks : Nat} {R : mjR} (hR : mjC R d) (h1 : kc ≤ C) (h2 : ks ≤ S) : P_215_0 X (d + 1) C S kc ks (b_215_0 R) := by
  intro l0 l1 l2 hp q h
  unfold b_215_0 at h
  refine mjr_aload_n (x := l0) D_215_0 rfl ?_
  refine mjq_gR D_215_1 fr_11_76 h (fun v1 h => ?_)
  refine mjq_gR D_215_4 fr_11_195 h (fun v2 h => ?_)
  refine mjq_astore_n (lo' := [some (.ref l0), some (.int l1), some (.int l2), some (.ref v2), none]) D_215_7 (Nat.le_of_ble_eq_true rfl) rfl ?_
  refine mjr_iload_n (x := l1) D_215_8 rfl ?_
  refine mjq_if_lt (tgt := 20) D_215_9 rfl h (fun h => ?_) (fun h => ?_)
  · exact mjG.fg (lo' := [none, none, none, none, none]) True.intro ((t_215_20 hR h1 h2) _ _ h)
  · refine mjr_iload_n (x := l1) D_215_12 rfl ?_
    refine mjr_aload_n (x := v2) D_215_13 rfl ?_
    refine mjq_gI D_215_14 fr_11_199 h (fun v3 h => ?_)
    refine mjq_icmp_lt (tgt := 22) D_215_17 rfl h (fun h => ?_) (fun h => ?_)
    · refine mjr_iload_n (x := l2) D_215_22 rfl ?_
      refine mjq_if_lt (tgt := 51) D_215_23 rfl h (fun h => ?_) (fun h => ?_)
      · exact mjG.fg (lo' := [none, some (.int l1), some (.int l2), some (.ref v2), none]) (And.intro rfl (And.intro rfl (And.intro rfl True.intro))) ((t_215_51 hR h1 h2) _ _ _ _ _ h)
      · refine mjr_iload_n (x := l2) D_215_26 rfl ?_
        refine mjr_aload_n (x := l0) D_215_27 rfl ?_
        refine mjq_gR D_215_28 fr_11_16 h (fun v4 h => ?_)
        refine mjq_gR D_215_31 fr_11_216 h (fun v5 h => ?_)
        refine mjq_gR D_215_34 fr_11_232 h (fun v6 h => ?_)
        refine mjr_aload_n (x := v2) D_215_37 rfl ?_
        refine mjq_gR D_215_38 fr_11_211 h (fun v7 h => ?_)
        refine mjr_iload_n (x := l1) D_215_41 rfl ?_
        refine mjq_aI D_215_42 h (fun v8 h => ?_)
        refine mjq_aI D_215_43 h (fun v9 h => ?_)
        refine mjq_icmp_ge (tgt := 51) D_215_44 rfl h (fun h => ?_) (fun h => ?_)
        · exact mjG.fg (lo' := [none, some (.int l1), some (.int l2), some (.ref v2), none]) (And.intro rfl (And.intro rfl (And.intro rfl True.intro))) ((t_215_51 hR h1 h2) _ _ _ _ _ h)
        · refine mjq_ic (v := (1 : Int32)) D_215_47 rfl ?_
          refine mjr_goto (tgt := 52) D_215_48 rfl ?_
          exact mjG.fg (lo' := [none, some (.int l1), some (.int l2), some (.ref v2), none]) (And.intro rfl (And.intro rfl (And.intro rfl True.intro))) ((t_215_52 hR h1 h2) _ _ _ _ _ _ h)
    · exact mjG.fg (lo' := [none, none, none, none, none]) True.intro ((t_215_20 hR h1 h2) _ _ h)
noncomputable def f_215 (R : mjR) (a0 : Nat) (a1 : Int32) (a2 : Int32) (hp : mjH) : mjU := b_215_0 R a0 a1 a2 hp
theorem c_215 {R : mjR} {d : Nat} (hR : mjC R d) {a0 : Nat} {a1 : Int32} {a2 : Int32} {hp : mjH} {q : Option Value × mjH} (h : f_215 R a0 a1 a2 hp = some q) : mjM (d + 1) 0 0 215 [.ref a0, .int a1, .int a2] hp (mjEq q) :=
  mjM_of Ja_215 (Nat.le_of_ble_eq_true rfl) (mjG.fg (lo' := [some (.ref a0), some (.int a1), some (.int a2), none, none]) (And.intro rfl (And.intro rfl (And.intro rfl True.intro))) ((t_215_0 hR (Nat.le_refl 0) (Nat.le_refl 0)) a0 a1 a2 hp q h))
def J_216 : mjI := (⟨"OwnerHeap", "object", "(II)I"⟩, 11, prog_1_method_16_code, 3, (some .int), 2, false)
theorem Ja_216 : mjMt 216 = some J_216 := by rfl
theorem D_216_0 : decode J_216.2.2.1 0 = .ok (.aload_n 0, 1) := by decide +kernel
theorem D_216_1 : decode J_216.2.2.1 1 = .ok (.getfield 67, 3) := by decide +kernel
theorem D_216_4 : decode J_216.2.2.1 4 = .ok (.iload_n 1, 1) := by decide +kernel
theorem D_216_5 : decode J_216.2.2.1 5 = .ok (.invokevirtual 238, 3) := by decide +kernel
theorem D_216_8 : decode J_216.2.2.1 8 = .ok (.ifCond .ne 5, 3) := by decide +kernel
theorem D_216_11 : decode J_216.2.2.1 11 = .ok (.iconst (-1), 1) := by decide +kernel
theorem D_216_12 : decode J_216.2.2.1 12 = .ok (.ireturn, 1) := by decide +kernel
theorem D_216_13 : decode J_216.2.2.1 13 = .ok (.iload_n 2, 1) := by decide +kernel
theorem D_216_14 : decode J_216.2.2.1 14 = .ok (.tableswitch 88 0 4 #[34, 43, 53, 62, 79], 34) := by decide +kernel
theorem D_216_48 : decode J_216.2.2.1 48 = .ok (.aload_n 0, 1) := by decide +kernel
theorem D_216_49 : decode J_216.2.2.1 49 = .ok (.getfield 67, 3) := by decide +kernel
theorem D_216_52 : decode J_216.2.2.1 52 = .ok (.iload_n 1, 1) := by decide +kernel
theorem D_216_53 : decode J_216.2.2.1 53 = .ok (.invokevirtual 242, 3) := by decide +kernel
theorem D_216_56 : decode J_216.2.2.1 56 = .ok (.ireturn, 1) := by decide +kernel
theorem D_216_57 : decode J_216.2.2.1 57 = .ok (.aload_n 0, 1) := by decide +kernel
theorem D_216_58 : decode J_216.2.2.1 58 = .ok (.getfield 67, 3) := by decide +kernel
theorem D_216_61 : decode J_216.2.2.1 61 = .ok (.iload_n 1, 1) := by decide +kernel
theorem D_216_62 : decode J_216.2.2.1 62 = .ok (.iconst 0, 1) := by decide +kernel
theorem D_216_63 : decode J_216.2.2.1 63 = .ok (.invokevirtual 245, 3) := by decide +kernel
theorem D_216_66 : decode J_216.2.2.1 66 = .ok (.ireturn, 1) := by decide +kernel
theorem D_216_67 : decode J_216.2.2.1 67 = .ok (.aload_n 0, 1) := by decide +kernel
theorem D_216_68 : decode J_216.2.2.1 68 = .ok (.getfield 67, 3) := by decide +kernel
theorem D_216_71 : decode J_216.2.2.1 71 = .ok (.iload_n 1, 1) := by decide +kernel
theorem D_216_72 : decode J_216.2.2.1 72 = .ok (.invokevirtual 248, 3) := by decide +kernel
theorem D_216_75 : decode J_216.2.2.1 75 = .ok (.ireturn, 1) := by decide +kernel
theorem D_216_76 : decode J_216.2.2.1 76 = .ok (.aload_n 0, 1) := by decide +kernel
theorem D_216_77 : decode J_216.2.2.1 77 = .ok (.getfield 16, 3) := by decide +kernel
theorem D_216_80 : decode J_216.2.2.1 80 = .ok (.getfield 142, 3) := by decide +kernel
theorem D_216_83 : decode J_216.2.2.1 83 = .ok (.aload_n 0, 1) := by decide +kernel
theorem D_216_84 : decode J_216.2.2.1 84 = .ok (.getfield 67, 3) := by decide +kernel
theorem D_216_87 : decode J_216.2.2.1 87 = .ok (.iload_n 1, 1) := by decide +kernel
theorem D_216_88 : decode J_216.2.2.1 88 = .ok (.invokevirtual 242, 3) := by decide +kernel
theorem D_216_91 : decode J_216.2.2.1 91 = .ok (.iaload, 1) := by decide +kernel
theorem D_216_92 : decode J_216.2.2.1 92 = .ok (.ireturn, 1) := by decide +kernel
theorem D_216_93 : decode J_216.2.2.1 93 = .ok (.aload_n 0, 1) := by decide +kernel
theorem D_216_94 : decode J_216.2.2.1 94 = .ok (.getfield 67, 3) := by decide +kernel
theorem D_216_97 : decode J_216.2.2.1 97 = .ok (.iload_n 1, 1) := by decide +kernel
theorem D_216_98 : decode J_216.2.2.1 98 = .ok (.invokevirtual 251, 3) := by decide +kernel
theorem D_216_101 : decode J_216.2.2.1 101 = .ok (.ireturn, 1) := by decide +kernel
theorem D_216_102 : decode J_216.2.2.1 102 = .ok (.iconst (-1), 1) := by decide +kernel
theorem D_216_103 : decode J_216.2.2.1 103 = .ok (.ireturn, 1) := by decide +kernel
def P_216_0 (X : mjX) (d C S kc ks : Nat) (k : Nat → Int32 → Int32 → mjH → mjU) : Prop := ∀ (l0 : Nat) (l1 : Int32) (l2 : Int32) (hp : mjH) (q : Option Value × mjH), k l0 l1 l2 hp = some q → mjG X d C S J_216 (mjEq q) 0 [some (.ref l0), some (.int l1), some (.int l2)] [] hp kc ks
noncomputable def b_216_0 (R : mjR) (l0 : Nat) (l1 : Int32) (l2 : Int32) (hp : mjH) : mjU := gR hp l0 11 11 (fun v1 => rV hp v1 3 (bI (R 43 [.ref v1, .int l1] hp) (fun v2 hp3 => (if v2 = 0 then some (some (.int (-1 : Int32)), hp3) else (if l2 = (0 : Int32) then gR hp3 l0 11 11 (fun v5 => rV hp3 v5 3 (bI (R 46 [.ref v5, .int l1] hp3) (fun v6 hp7 => some (some (.int v6), hp7)))) else if l2 = (1 : Int32) then gR hp3 l0 11 11 (fun v9 => rV hp3 v9 3 (bI (R 49 [.ref v9, .int l1, .int (0 : Int32)] hp3) (fun v10 hp11 => some (some (.int v10), hp11)))) else if l2 = (2 : Int32) then gR hp3 l0 11 11 (fun v13 => rV hp3 v13 3 (bI (R 48 [.ref v13, .int l1] hp3) (fun v14 hp15 => some (some (.int v14), hp15)))) else if l2 = (3 : Int32) then gR hp3 l0 11 6 (fun v17 => gR hp3 v17 7 8 (fun v18 => gR hp3 l0 11 11 (fun v19 => rV hp3 v19 3 (bI (R 46 [.ref v19, .int l1] hp3) (fun v20 hp21 => aI hp21 v18 v20 (fun v22 => some (some (.int v22), hp21))))))) else if l2 = (4 : Int32) then gR hp3 l0 11 11 (fun v24 => rV hp3 v24 3 (bI (R 51 [.ref v24, .int l1] hp3) (fun v25 hp26 => some (some (.int v25), hp26)))) else some (some (.int (-1 : Int32)), hp3))))))
theorem t_216_0 {X : mjX} {d C S kc ks : Nat} {R : mjR} (hR : mjC R d) (h1 : kc ≤ C) (h2 : ks ≤ S) : P_216_0 X (d + 1) C S kc ks (b_216_0 R) := by
  intro l0 l1 l2 hp q h
  unfold b_216_0 at h
  refine mjr_aload_n (x := l0) D_216_0 rfl ?_
  refine mjq_gR D_216_1 fr_11_67 h (fun v1 h => ?_)
  refine mjr_iload_n (x := l1) D_216_4 rfl ?_
  refine mjq_vI (As := [.int l1]) (rest := []) D_216_5 mr_11_238 V_43 rfl rfl rfl hR (Nat.le_refl _) h1 h2 h (fun v2 hp3 h => ?_)
  refine mjq_if_ne (tgt := 13) D_216_8 rfl h (fun h => ?_) (fun h => ?_)
  · refine mjr_iload_n (x := l2) D_216_13 rfl ?_
    refine mjq_tsw (c := (0 : Int32)) (tgt := 48) D_216_14 (by decide) (by decide) rfl rfl h (fun h => ?_) (fun n4 h => ?_)
    · refine mjr_aload_n (x := l0) D_216_48 rfl ?_
      refine mjq_gR D_216_49 fr_11_67 h (fun v5 h => ?_)
      refine mjr_iload_n (x := l1) D_216_52 rfl ?_
      refine mjq_vI (As := [.int l1]) (rest := []) D_216_53 mr_11_242 V_46 rfl rfl rfl hR (Nat.le_refl _) h1 h2 h (fun v6 hp7 h => ?_)
      exact mjq_ret D_216_56 rfl h1 h2 h
    refine mjq_tsw (c := (1 : Int32)) (tgt := 57) D_216_14 (by decide) (by decide) rfl rfl h (fun h => ?_) (fun n8 h => ?_)
    · refine mjr_aload_n (x := l0) D_216_57 rfl ?_
      refine mjq_gR D_216_58 fr_11_67 h (fun v9 h => ?_)
      refine mjr_iload_n (x := l1) D_216_61 rfl ?_
      refine mjq_ic (v := (0 : Int32)) D_216_62 rfl ?_
      refine mjq_vI (As := [.int l1, .int (0 : Int32)]) (rest := []) D_216_63 mr_11_245 V_49 rfl rfl rfl hR (Nat.le_refl _) h1 h2 h (fun v10 hp11 h => ?_)
      exact mjq_ret D_216_66 rfl h1 h2 h
    refine mjq_tsw (c := (2 : Int32)) (tgt := 67) D_216_14 (by decide) (by decide) rfl rfl h (fun h => ?_) (fun n12 h => ?_)
    · refine mjr_aload_n (x := l0) D_216_67 rfl ?_
      refine mjq_gR D_216_68 fr_11_67 h (fun v13 h => ?_)
      refine mjr_iload_n (x := l1) D_216_71 rfl ?_
      refine mjq_vI (As := [.int l1]) (rest := []) D_216_72 mr_11_248 V_48 rfl rfl rfl hR (Nat.le_refl _) h1 h2 h (fun v14 hp15 h => ?_)
      exact mjq_ret D_216_75 rfl h1 h2 h
    refine mjq_tsw (c := (3 : Int32)) (tgt := 76) D_216_14 (by decide) (by decide) rfl rfl h (fun h => ?_) (fun n16 h => ?_)
    · refine mjr_aload_n (x := l0) D_216_76 rfl ?_
      refine mjq_gR D_216_77 fr_11_16 h (fun v17 h => ?_)
      refine mjq_gR D_216_80 fr_11_142 h (fun v18 h => ?_)
      refine mjr_aload_n (x := l0) D_216_83 rfl ?_
      refine mjq_gR D_216_84 fr_11_67 h (fun v19 h => ?_)
      refine mjr_iload_n (x := l1) D_216_87 rfl ?_
      refine mjq_vI (As := [.int l1]) (rest := [.ref v18]) D_216_88 mr_11_242 V_46 rfl rfl rfl hR (Nat.le_refl _) h1 h2 h (fun v20 hp21 h => ?_)
      refine mjq_aI D_216_91 h (fun v22 h => ?_)
      exact mjq_ret D_216_92 rfl h1 h2 h
    refine mjq_tsw (c := (4 : Int32)) (tgt := 93) D_216_14 (by decide) (by decide) rfl rfl h (fun h => ?_) (fun n23 h => ?_)
    · refine mjr_aload_n (x := l0) D_216_93 rfl ?_
      refine mjq_gR D_216_94 fr_11_67 h (fun v24 h => ?_)
      refine mjr_iload_n (x := l1) D_216_97 rfl ?_
      refine mjq_vI (As := [.int l1]) (rest := []) D_216_98 mr_11_251 V_51 rfl rfl rfl hR (Nat.le_refl _) h1 h2 h (fun v25 hp26 h => ?_)
      exact mjq_ret D_216_101 rfl h1 h2 h
    refine mjr_tableOut (tgt := 102) D_216_14 (mj_swout [(0 : Int32), (1 : Int32), (2 : Int32), (3 : Int32), (4 : Int32)] (by decide) (mj_all1 n4 (mj_all1 n8 (mj_all1 n12 (mj_all1 n16 (mj_all1 n23 mj_all0)))))) rfl ?_
    refine mjq_ic (v := (-1 : Int32)) D_216_102 rfl ?_
    exact mjq_ret D_216_103 rfl h1 h2 h
  · refine mjq_ic (v := (-1 : Int32)) D_216_11 rfl ?_
    exact mjq_ret D_216_12 rfl h1 h2 h
noncomputable def f_216 (R : mjR) (a0 : Nat) (a1 : Int32) (a2 : Int32) (hp : mjH) : mjU := b_216_0 R a0 a1 a2 hp
theorem c_216 {R : mjR} {d : Nat} (hR : mjC R d) {a0 : Nat} {a1 : Int32} {a2 : Int32} {hp : mjH} {q : Option Value × mjH} (h : f_216 R a0 a1 a2 hp = some q) : mjM (d + 1) 0 0 216 [.ref a0, .int a1, .int a2] hp (mjEq q) :=
  mjM_of Ja_216 (Nat.le_of_ble_eq_true rfl) (mjG.fg (lo' := [some (.ref a0), some (.int a1), some (.int a2)]) (And.intro rfl (And.intro rfl (And.intro rfl True.intro))) ((t_216_0 hR (Nat.le_refl 0) (Nat.le_refl 0)) a0 a1 a2 hp q h))
def J_217 : mjI := (⟨"OwnerHeap", "owner", "(II)I"⟩, 11, prog_1_method_17_code, 4, (some .int), 2, false)
theorem Ja_217 : mjMt 217 = some J_217 := by rfl
theorem D_217_0 : decode J_217.2.2.1 0 = .ok (.aload_n 0, 1) := by decide +kernel
theorem D_217_1 : decode J_217.2.2.1 1 = .ok (.getfield 67, 3) := by decide +kernel
theorem D_217_4 : decode J_217.2.2.1 4 = .ok (.iload_n 1, 1) := by decide +kernel
theorem D_217_5 : decode J_217.2.2.1 5 = .ok (.invokevirtual 238, 3) := by decide +kernel
theorem D_217_8 : decode J_217.2.2.1 8 = .ok (.ifCond .eq 23, 3) := by decide +kernel
theorem D_217_11 : decode J_217.2.2.1 11 = .ok (.iload_n 2, 1) := by decide +kernel
theorem D_217_12 : decode J_217.2.2.1 12 = .ok (.ifCond .lt 19, 3) := by decide +kernel
theorem D_217_15 : decode J_217.2.2.1 15 = .ok (.iload_n 2, 1) := by decide +kernel
theorem D_217_16 : decode J_217.2.2.1 16 = .ok (.aload_n 0, 1) := by decide +kernel
theorem D_217_17 : decode J_217.2.2.1 17 = .ok (.getfield 67, 3) := by decide +kernel
theorem D_217_20 : decode J_217.2.2.1 20 = .ok (.iload_n 1, 1) := by decide +kernel
theorem D_217_21 : decode J_217.2.2.1 21 = .ok (.invokevirtual 248, 3) := by decide +kernel
theorem D_217_24 : decode J_217.2.2.1 24 = .ok (.if_icmp .ge 7, 3) := by decide +kernel
theorem D_217_27 : decode J_217.2.2.1 27 = .ok (.iconst 1, 1) := by decide +kernel
theorem D_217_28 : decode J_217.2.2.1 28 = .ok (.goto 4, 3) := by decide +kernel
theorem D_217_31 : decode J_217.2.2.1 31 = .ok (.iconst 0, 1) := by decide +kernel
theorem D_217_32 : decode J_217.2.2.1 32 = .ok (.istore_n 3, 1) := by decide +kernel
theorem D_217_33 : decode J_217.2.2.1 33 = .ok (.iload_n 3, 1) := by decide +kernel
theorem D_217_34 : decode J_217.2.2.1 34 = .ok (.ifCond .eq 15, 3) := by decide +kernel
theorem D_217_37 : decode J_217.2.2.1 37 = .ok (.aload_n 0, 1) := by decide +kernel
theorem D_217_38 : decode J_217.2.2.1 38 = .ok (.getfield 67, 3) := by decide +kernel
theorem D_217_41 : decode J_217.2.2.1 41 = .ok (.iload_n 1, 1) := by decide +kernel
theorem D_217_42 : decode J_217.2.2.1 42 = .ok (.iload_n 2, 1) := by decide +kernel
theorem D_217_43 : decode J_217.2.2.1 43 = .ok (.invokevirtual 245, 3) := by decide +kernel
theorem D_217_46 : decode J_217.2.2.1 46 = .ok (.goto 4, 3) := by decide +kernel
theorem D_217_49 : decode J_217.2.2.1 49 = .ok (.iconst (-1), 1) := by decide +kernel
theorem D_217_50 : decode J_217.2.2.1 50 = .ok (.ireturn, 1) := by decide +kernel
def P_217_32 (X : mjX) (d C S kc ks : Nat) (k : Nat → Int32 → Int32 → Int32 → mjH → mjU) : Prop := ∀ (l0 : Nat) (l1 : Int32) (l2 : Int32) (s0 : Int32) (hp : mjH) (q : Option Value × mjH), k l0 l1 l2 s0 hp = some q → mjG X d C S J_217 (mjEq q) 32 [some (.ref l0), some (.int l1), some (.int l2), none] [.int s0] hp kc ks
def P_217_31 (X : mjX) (d C S kc ks : Nat) (k : Nat → Int32 → Int32 → mjH → mjU) : Prop := ∀ (l0 : Nat) (l1 : Int32) (l2 : Int32) (hp : mjH) (q : Option Value × mjH), k l0 l1 l2 hp = some q → mjG X d C S J_217 (mjEq q) 31 [some (.ref l0), some (.int l1), some (.int l2), none] [] hp kc ks
def P_217_0 (X : mjX) (d C S kc ks : Nat) (k : Nat → Int32 → Int32 → mjH → mjU) : Prop := ∀ (l0 : Nat) (l1 : Int32) (l2 : Int32) (hp : mjH) (q : Option Value × mjH), k l0 l1 l2 hp = some q → mjG X d C S J_217 (mjEq q) 0 [some (.ref l0), some (.int l1), some (.int l2), none] [] hp kc ks
noncomputable def b_217_32 (R : mjR) (l0 : Nat) (l1 : Int32) (l2 : Int32) (s0 : Int32) (hp : mjH) : mjU := (if s0 = 0 then some (some (.int (-1 : Int32)), hp) else gR hp l0 11 11 (fun v1 => rV hp v1 3 (bI (R 49 [.ref v1, .int l1, .int l2] hp) (fun v2 hp3 => some (some (.int v2), hp3)))))
theorem t_217_32 {X : mjX} {d C S kc ks : Nat} {R : mjR} (hR : mjC R d) (h1 : kc ≤ C) (h2 : ks ≤ S) : P_217_32 X (d + 1) C S kc ks (b_217_32 R) := by
  intro l0 l1 l2 s0 hp q h
  unfold b_217_32 at h
  refine mjq_istore_n (lo' := [some (.ref l0), some (.int l1), some (.int l2), some (.int s0)]) D_217_32 (Nat.le_of_ble_eq_true rfl) rfl ?_
  refine mjr_iload_n (x := s0) D_217_33 rfl ?_
  refine mjq_if_eq (tgt := 49) D_217_34 rfl h (fun h => ?_) (fun h => ?_)
  · refine mjq_ic (v := (-1 : Int32)) D_217_49 rfl ?_
    exact mjq_ret D_217_50 rfl h1 h2 h
  · refine mjr_aload_n (x := l0) D_217_37 rfl ?_
    refine mjq_gR D_217_38 fr_11_67 h (fun v1 h => ?_)
    refine mjr_iload_n (x := l1) D_217_41 rfl ?_
    refine mjr_iload_n (x := l2) D_217_42 rfl ?_
    refine mjq_vI (As := [.int l1, .int l2]) (rest := []) D_217_43 mr_11_245 V_49 rfl rfl rfl hR (Nat.le_refl _) h1 h2 h (fun v2 hp3 h => ?_)
    refine mjr_goto (tgt := 50) D_217_46 rfl ?_
    exact mjq_ret D_217_50 rfl h1 h2 h
noncomputable def b_217_31 (R : mjR) (l0 : Nat) (l1 : Int32) (l2 : Int32) (hp : mjH) : mjU := b_217_32 R l0 l1 l2 (0 : Int32) hp
theorem t_217_31 {X : mjX} {d C S kc ks : Nat} {R : mjR} (hR : mjC R d) (h1 : kc ≤ C) (h2 : ks ≤ S) : P_217_31 X (d + 1) C S kc ks (b_217_31 R) := by
  intro l0 l1 l2 hp q h
  unfold b_217_31 at h
  refine mjq_ic (v := (0 : Int32)) D_217_31 rfl ?_
  exact (t_217_32 hR h1 h2) _ _ _ _ _ _ h
noncomputable def b_217_0 (R : mjR) (l0 : Nat) (l1 : Int32) (l2 : Int32) (hp : mjH) : mjU := gR hp l0 11 11 (fun v1 => rV hp v1 3 (bI (R 43 [.ref v1, .int l1] hp) (fun v2 hp3 => (if v2 = 0 then b_217_31 R l0 l1 l2 hp3 else (if l2 < 0 then b_217_31 R l0 l1 l2 hp3 else gR hp3 l0 11 11 (fun v4 => rV hp3 v4 3 (bI (R 48 [.ref v4, .int l1] hp3) (fun v5 hp6 => (if v5 ≤ l2 then b_217_31 R l0 l1 l2 hp6 else b_217_32 R l0 l1 l2 (1 : Int32) hp6)))))))))
theorem t_217_0 {X : mjX} {d C S kc ks : Nat} {R : mjR} (hR : mjC R d) (h1 : kc ≤ C) (h2 : ks ≤ S) : P_217_0 X (d + 1) C S kc ks (b_217_0 R) := by
  intro l0 l1 l2 hp q h
  unfold b_217_0 at h
  refine mjr_aload_n (x := l0) D_217_0 rfl ?_
  refine mjq_gR D_217_1 fr_11_67 h (fun v1 h => ?_)
  refine mjr_iload_n (x := l1) D_217_4 rfl ?_
  refine mjq_vI (As := [.int l1]) (rest := []) D_217_5 mr_11_238 V_43 rfl rfl rfl hR (Nat.le_refl _) h1 h2 h (fun v2 hp3 h => ?_)
  refine mjq_if_eq (tgt := 31) D_217_8 rfl h (fun h => ?_) (fun h => ?_)
  · exact (t_217_31 hR h1 h2) _ _ _ _ _ h
  · refine mjr_iload_n (x := l2) D_217_11 rfl ?_
    refine mjq_if_lt (tgt := 31) D_217_12 rfl h (fun h => ?_) (fun h => ?_)
    · exact (t_217_31 hR h1 h2) _ _ _ _ _ h
    · refine mjr_iload_n (x := l2) D_217_15 rfl ?_
      refine mjr_aload_n (x := l0) D_217_16 rfl ?_
      refine mjq_gR D_217_17 fr_11_67 h (fun v4 h => ?_)
      refine mjr_iload_n (x := l1) D_217_20 rfl ?_
      refine mjq_vI (As := [.int l1]) (rest := [.int l2]) D_217_21 mr_11_248 V_48 rfl rfl rfl hR (Nat.le_refl _) h1 h2 h (fun v5 hp6 h => ?_)
      refine mjq_icmp_ge (tgt := 31) D_217_24 rfl h (fun h => ?_) (fun h => ?_)
      · exact (t_217_31 hR h1 h2) _ _ _ _ _ h
      · refine mjq_ic (v := (1 : Int32)) D_217_27 rfl ?_
        refine mjr_goto (tgt := 32) D_217_28 rfl ?_
        exact (t_217_32 hR h1 h2) _ _ _ _ _ _ h
noncomputable def f_217 (R : mjR) (a0 : Nat) (a1 : Int32) (a2 : Int32) (hp : mjH) : mjU := b_217_0 R a0 a1 a2 hp
theorem c_217 {R : mjR} {d : Nat} (hR : mjC R d) {a0 : Nat} {a1 : Int32} {a2 : Int32} {hp : mjH} {q : Option Value × mjH} (h : f_217 R a0 a1 a2 hp = some q) : mjM (d + 1) 0 0 217 [.ref a0, .int a1, .int a2] hp (mjEq q) :=
  mjM_of Ja_217 (Nat.le_of_ble_eq_true rfl) (mjG.fg (lo' := [some (.ref a0), some (.int a1), some (.int a2), none]) (And.intro rfl (And.intro rfl (And.intro rfl True.intro))) ((t_217_0 hR (Nat.le_refl 0) (Nat.le_refl 0)) a0 a1 a2 hp q h))
