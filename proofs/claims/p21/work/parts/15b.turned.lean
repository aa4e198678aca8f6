def J_40 : mjI := (⟨"OwnerHeap$Frames", "setVariable", "(II)V"⟩, 2, prog_4_method_6_code, 3, none, 2, false)
theorem Ja_40 : mjMt 40 = some J_40 := by rfl
theorem D_40_0 : decode J_40.2.2.1 0 = .ok (.aload_n 0, 1) := dzq_42 (by decide +kernel)
theorem D_40_1 : decode J_40.2.2.1 1 = .ok (.getfield 26, 3) := dzq_180 (by decide +kernel)
theorem D_40_4 : decode J_40.2.2.1 4 = .ok (.aload_n 0, 1) := dzq_42 (by decide +kernel)
theorem D_40_5 : decode J_40.2.2.1 5 = .ok (.invokevirtual 48, 3) := dzq_182 (by decide +kernel)
theorem D_40_8 : decode J_40.2.2.1 8 = .ok (.bipush 16, 2) := dzq_16 (by decide +kernel)
theorem D_40_10 : decode J_40.2.2.1 10 = .ok (.imul, 1) := dzq_104 (by decide +kernel)
theorem D_40_11 : decode J_40.2.2.1 11 = .ok (.iload_n 1, 1) := dzq_27 (by decide +kernel)
theorem D_40_12 : decode J_40.2.2.1 12 = .ok (.iadd, 1) := dzq_96 (by decide +kernel)
theorem D_40_13 : decode J_40.2.2.1 13 = .ok (.iload_n 2, 1) := dzq_28 (by decide +kernel)
theorem D_40_14 : decode J_40.2.2.1 14 = .ok (.iastore, 1) := dzq_79 (by decide +kernel)
theorem D_40_15 : decode J_40.2.2.1 15 = .ok (.return_, 1) := dzq_177 (by decide +kernel)
def P_40_0 (X : mjX) (d C S kc ks : Nat) (k : Nat → Int32 → Int32 → mjH → mjU) : Prop := ∀ (l0 : Nat) (l1 : Int32) (l2 : Int32) (hp : mjH) (q : Option Value × mjH), k l0 l1 l2 hp = some q → mjG X d C S J_40 (mjEq q) 0 [some (.ref l0), some (.int l1), some (.int l2)] [] hp kc ks
noncomputable def b_40_0 (R : mjR) (l0 : Nat) (l1 : Int32) (l2 : Int32) (hp : mjH) : mjU := gR hp l0 2 6 (fun v1 => rV hp l0 2 (bI (R 38 [.ref l0] hp) (fun v2 hp3 => sI hp3 v1 ((v2 * (16 : Int32)) + l1) l2 (fun hp4 => some (none, hp4)))))
theorem t_40_0 {X : mjX} {d C S kc ks : Nat} {R : mjR} (hR : mjC R d) (h1 : kc ≤ C) (h2 : ks ≤ S) : P_40_0 X (d + 1) C S kc ks (b_40_0 R) := by
  intro l0 l1 l2 hp q h
  unfold b_40_0 at h
  refine mjr_aload_n (x := l0) D_40_0 rfl ?_
  refine mjq_gR D_40_1 fr_2_26 h (fun v1 h => ?_)
  refine mjr_aload_n (x := l0) D_40_4 rfl ?_
  refine mjq_vI (As := []) (rest := [.ref v1]) D_40_5 mr_2_48 V_38 rfl rfl rfl hR (Nat.le_refl _) h1 h2 h (fun v2 hp3 h => ?_)
  refine mjq_bi (v := (16 : Int32)) D_40_8 rfl ?_
  refine mjr_imul D_40_10 ?_
  refine mjr_iload_n (x := l1) D_40_11 rfl ?_
  refine mjr_iadd D_40_12 ?_
  refine mjr_iload_n (x := l2) D_40_13 rfl ?_
  refine mjq_sI D_40_14 h (fun hp4 h => ?_)
  exact mjq_nret D_40_15 rfl h1 h2 h
noncomputable def f_40 (R : mjR) (a0 : Nat) (a1 : Int32) (a2 : Int32) (hp : mjH) : mjU := b_40_0 R a0 a1 a2 hp
theorem c_40 {R : mjR} {d : Nat} (hR : mjC R d) {a0 : Nat} {a1 : Int32} {a2 : Int32} {hp : mjH} {q : Option Value × mjH} (h : f_40 R a0 a1 a2 hp = some q) : mjM (d + 1) 0 0 40 [.ref a0, .int a1, .int a2] hp (mjEq q) :=
  mjM_of Ja_40 (Nat.le_of_ble_eq_true rfl) (mjG.fg (lo' := [some (.ref a0), some (.int a1), some (.int a2)]) (And.intro rfl (And.intro rfl (And.intro rfl True.intro))) ((t_40_0 hR (Nat.le_refl 0) (Nat.le_refl 0)) a0 a1 a2 hp q h))
def J_42 : mjI := (⟨"OwnerHeap$Heap", "empty", "(I)V"⟩, 3, prog_5_method_2_code, 2, none, 1, false)
theorem Ja_42 : mjMt 42 = some J_42 := by rfl
theorem D_42_0 : decode J_42.2.2.1 0 = .ok (.aload_n 0, 1) := dzq_42 (by decide +kernel)
theorem D_42_1 : decode J_42.2.2.1 1 = .ok (.iconst 0, 1) := dzq_3 (by decide +kernel)
theorem D_42_2 : decode J_42.2.2.1 2 = .ok (.putfield 16, 3) := dzq_181 (by decide +kernel)
theorem D_42_5 : decode J_42.2.2.1 5 = .ok (.aload_n 0, 1) := dzq_42 (by decide +kernel)
theorem D_42_6 : decode J_42.2.2.1 6 = .ok (.iconst 0, 1) := dzq_3 (by decide +kernel)
theorem D_42_7 : decode J_42.2.2.1 7 = .ok (.putfield 20, 3) := dzq_181 (by decide +kernel)
theorem D_42_10 : decode J_42.2.2.1 10 = .ok (.aload_n 0, 1) := dzq_42 (by decide +kernel)
theorem D_42_11 : decode J_42.2.2.1 11 = .ok (.iload_n 1, 1) := dzq_27 (by decide +kernel)
theorem D_42_12 : decode J_42.2.2.1 12 = .ok (.putfield 23, 3) := dzq_181 (by decide +kernel)
theorem D_42_15 : decode J_42.2.2.1 15 = .ok (.return_, 1) := dzq_177 (by decide +kernel)
def P_42_0 (X : mjX) (d C S kc ks : Nat) (k : Nat → Int32 → mjH → mjU) : Prop := ∀ (l0 : Nat) (l1 : Int32) (hp : mjH) (q : Option Value × mjH), k l0 l1 hp = some q → mjG X d C S J_42 (mjEq q) 0 [some (.ref l0), some (.int l1)] [] hp kc ks
noncomputable def b_42_0 (R : mjR) (l0 : Nat) (l1 : Int32) (hp : mjH) : mjU := pI hp l0 3 2 (0 : Int32) (fun hp1 => pI hp1 l0 3 3 (0 : Int32) (fun hp2 => pI hp2 l0 3 4 l1 (fun hp3 => some (none, hp3))))
theorem t_42_0 {X : mjX} {d C S kc ks : Nat} {R : mjR} (hR : mjC R d) (h1 : kc ≤ C) (h2 : ks ≤ S) : P_42_0 X (d + 1) C S kc ks (b_42_0 R) := by
  intro l0 l1 hp q h
  unfold b_42_0 at h
  refine mjr_aload_n (x := l0) D_42_0 rfl ?_
  refine mjq_ic (v := (0 : Int32)) D_42_1 rfl ?_
  refine mjq_pI D_42_2 fr_3_16 rfl rfl h (fun hp1 h => ?_)
  refine mjr_aload_n (x := l0) D_42_5 rfl ?_
  refine mjq_ic (v := (0 : Int32)) D_42_6 rfl ?_
  refine mjq_pI D_42_7 fr_3_20 rfl rfl h (fun hp2 h => ?_)
  refine mjr_aload_n (x := l0) D_42_10 rfl ?_
  refine mjr_iload_n (x := l1) D_42_11 rfl ?_
  refine mjq_pI D_42_12 fr_3_23 rfl rfl h (fun hp3 h => ?_)
  exact mjq_nret D_42_15 rfl h1 h2 h
noncomputable def f_42 (R : mjR) (a0 : Nat) (a1 : Int32) (hp : mjH) : mjU := b_42_0 R a0 a1 hp
theorem c_42 {R : mjR} {d : Nat} (hR : mjC R d) {a0 : Nat} {a1 : Int32} {hp : mjH} {q : Option Value × mjH} (h : f_42 R a0 a1 hp = some q) : mjM (d + 1) 0 0 42 [.ref a0, .int a1] hp (mjEq q) :=
  mjM_of Ja_42 (Nat.le_of_ble_eq_true rfl) (mjG.fg (lo' := [some (.ref a0), some (.int a1)]) (And.intro rfl (And.intro rfl True.intro)) ((t_42_0 hR (Nat.le_refl 0) (Nat.le_refl 0)) a0 a1 hp q h))
def J_43 : mjI := (⟨"OwnerHeap$Heap", "has", "(I)Z"⟩, 3, prog_5_method_4_code, 2, (some .boolean), 1, false)
theorem Ja_43 : mjMt 43 = some J_43 := by rfl
theorem D_43_0 : decode J_43.2.2.1 0 = .ok (.iload_n 1, 1) := dzq_27 (by decide +kernel)
theorem D_43_1 : decode J_43.2.2.1 1 = .ok (.ifCond .le 15, 3) := dzq_158 (by decide +kernel)
theorem D_43_4 : decode J_43.2.2.1 4 = .ok (.iload_n 1, 1) := dzq_27 (by decide +kernel)
theorem D_43_5 : decode J_43.2.2.1 5 = .ok (.aload_n 0, 1) := dzq_42 (by decide +kernel)
theorem D_43_6 : decode J_43.2.2.1 6 = .ok (.getfield 16, 3) := dzq_180 (by decide +kernel)
theorem D_43_9 : decode J_43.2.2.1 9 = .ok (.if_icmp .gt 7, 3) := dzq_163 (by decide +kernel)
theorem D_43_12 : decode J_43.2.2.1 12 = .ok (.iconst 1, 1) := dzq_4 (by decide +kernel)
theorem D_43_13 : decode J_43.2.2.1 13 = .ok (.goto 4, 3) := dzq_167 (by decide +kernel)
theorem D_43_16 : decode J_43.2.2.1 16 = .ok (.iconst 0, 1) := dzq_3 (by decide +kernel)
theorem D_43_17 : decode J_43.2.2.1 17 = .ok (.ireturn, 1) := dzq_172 (by decide +kernel)
def P_43_16 (X : mjX) (d C S kc ks : Nat) (k : mjH → mjU) : Prop := ∀  (hp : mjH) (q : Option Value × mjH), k  hp = some q → mjG X d C S J_43 (mjEq q) 16 [none, none] [] hp kc ks
def P_43_0 (X : mjX) (d C S kc ks : Nat) (k : Nat → Int32 → mjH → mjU) : Prop := ∀ (l0 : Nat) (l1 : Int32) (hp : mjH) (q : Option Value × mjH), k l0 l1 hp = some q → mjG X d C S J_43 (mjEq q) 0 [some (.ref l0), some (.int l1)] [] hp kc ks
noncomputable def b_43_16 (R : mjR)  (hp : mjH) : mjU := some (some (.int (0 : Int32)), hp)
theorem t_43_16 {X : mjX} {d C S kc ks : Nat} {R : mjR} (hR : mjC R d) (h1 : kc ≤ C) (h2 : ks ≤ S) : P_43_16 X (d + 1) C S kc ks (b_43_16 R) := by
  intro  hp q h
  unfold b_43_16 at h
  refine mjq_ic (v := (0 : Int32)) D_43_16 rfl ?_
  exact mjr_ireturn D_43_17 rfl rfl h1 h2 (Option.some.inj h)
noncomputable def b_43_0 (R : mjR) (l0 : Nat) (l1 : Int32) (hp : mjH) : mjU := (if l1 ≤ 0 then b_43_16 R hp else gI hp l0 3 2 (fun v1 => (if v1 < l1 then b_43_16 R hp else some (some (.int (1 : Int32)), hp))))
theorem t_43_0 {X : mjX} {d C S kc ks : Nat} {R : mjR} (hR : mjC R d) (h1 : kc ≤ C) (h2 : ks ≤ S) : P_43_0 X (d + 1) C S kc ks (b_43_0 R) := by
  intro l0 l1 hp q h
  unfold b_43_0 at h
  refine mjr_iload_n (x := l1) D_43_0 rfl ?_
  refine mjq_if_le (tgt := 16) D_43_1 rfl h (fun h => ?_) (fun h => ?_)
  · exact mjG.fg (lo' := [none, none]) True.intro ((t_43_16 hR h1 h2) _ _ h)
  · refine mjr_iload_n (x := l1) D_43_4 rfl ?_
    refine mjr_aload_n (x := l0) D_43_5 rfl ?_
    refine mjq_gI D_43_6 fr_3_16 h (fun v1 h => ?_)
    refine mjq_icmp_gt (tgt := 16) D_43_9 rfl h (fun h => ?_) (fun h => ?_)
    · exact mjG.fg (lo' := [none, none]) True.intro ((t_43_16 hR h1 h2) _ _ h)
    · refine mjq_ic (v := (1 : Int32)) D_43_12 rfl ?_
      refine mjr_goto (tgt := 17) D_43_13 rfl ?_
      exact mjr_ireturn D_43_17 rfl rfl h1 h2 (Option.some.inj h)
noncomputable def f_43 (R : mjR) (a0 : Nat) (a1 : Int32) (hp : mjH) : mjU := b_43_0 R a0 a1 hp
theorem c_43 {R : mjR} {d : Nat} (hR : mjC R d) {a0 : Nat} {a1 : Int32} {hp : mjH} {q : Option Value × mjH} (h : f_43 R a0 a1 hp = some q) : mjM (d + 1) 0 0 43 [.ref a0, .int a1] hp (mjEq q) :=
  mjM_of Ja_43 (Nat.le_of_ble_eq_true rfl) (mjG.fg (lo' := [some (.ref a0), some (.int a1)]) (And.intro rfl (And.intro rfl True.intro)) ((t_43_0 hR (Nat.le_refl 0) (Nat.le_refl 0)) a0 a1 hp q h))
def J_44 : mjI := (⟨"OwnerHeap$Heap", "setField", "(III)V"⟩, 3, prog_5_method_10_code, 5, none, 3, false)
theorem Ja_44 : mjMt 44 = some J_44 := by rfl
theorem D_44_0 : decode J_44.2.2.1 0 = .ok (.aload_n 0, 1) := dzq_42 (by decide +kernel)
theorem D_44_1 : decode J_44.2.2.1 1 = .ok (.getfield 13, 3) := dzq_180 (by decide +kernel)
theorem D_44_4 : decode J_44.2.2.1 4 = .ok (.iload_n 1, 1) := dzq_27 (by decide +kernel)
theorem D_44_5 : decode J_44.2.2.1 5 = .ok (.iaload, 1) := dzq_46 (by decide +kernel)
theorem D_44_6 : decode J_44.2.2.1 6 = .ok (.istore 4, 2) := dzq_54 (by decide +kernel)
theorem D_44_8 : decode J_44.2.2.1 8 = .ok (.aload_n 0, 1) := dzq_42 (by decide +kernel)
theorem D_44_9 : decode J_44.2.2.1 9 = .ok (.getfield 9, 3) := dzq_180 (by decide +kernel)
theorem D_44_12 : decode J_44.2.2.1 12 = .ok (.iload 4, 2) := dzq_21 (by decide +kernel)
theorem D_44_14 : decode J_44.2.2.1 14 = .ok (.iconst 2, 1) := dzq_5 (by decide +kernel)
theorem D_44_15 : decode J_44.2.2.1 15 = .ok (.iadd, 1) := dzq_96 (by decide +kernel)
theorem D_44_16 : decode J_44.2.2.1 16 = .ok (.aload_n 0, 1) := dzq_42 (by decide +kernel)
theorem D_44_17 : decode J_44.2.2.1 17 = .ok (.getfield 9, 3) := dzq_180 (by decide +kernel)
theorem D_44_20 : decode J_44.2.2.1 20 = .ok (.iload 4, 2) := dzq_21 (by decide +kernel)
theorem D_44_22 : decode J_44.2.2.1 22 = .ok (.iconst 1, 1) := dzq_4 (by decide +kernel)
theorem D_44_23 : decode J_44.2.2.1 23 = .ok (.iadd, 1) := dzq_96 (by decide +kernel)
theorem D_44_24 : decode J_44.2.2.1 24 = .ok (.iaload, 1) := dzq_46 (by decide +kernel)
theorem D_44_25 : decode J_44.2.2.1 25 = .ok (.iadd, 1) := dzq_96 (by decide +kernel)
theorem D_44_26 : decode J_44.2.2.1 26 = .ok (.iload_n 2, 1) := dzq_28 (by decide +kernel)
theorem D_44_27 : decode J_44.2.2.1 27 = .ok (.iadd, 1) := dzq_96 (by decide +kernel)
theorem D_44_28 : decode J_44.2.2.1 28 = .ok (.iload_n 3, 1) := dzq_29 (by decide +kernel)
theorem D_44_29 : decode J_44.2.2.1 29 = .ok (.iastore, 1) := dzq_79 (by decide +kernel)
theorem D_44_30 : decode J_44.2.2.1 30 = .ok (.return_, 1) := dzq_177 (by decide +kernel)
def P_44_0 (X : mjX) (d C S kc ks : Nat) (k : Nat → Int32 → Int32 → Int32 → mjH → mjU) : Prop := ∀ (l0 : Nat) (l1 : Int32) (l2 : Int32) (l3 : Int32) (hp : mjH) (q : Option Value × mjH), k l0 l1 l2 l3 hp = some q → mjG X d C S J_44 (mjEq q) 0 [some (.ref l0), some (.int l1), some (.int l2), some (.int l3), none] [] hp kc ks
noncomputable def b_44_0 (R : mjR) (l0 : Nat) (l1 : Int32) (l2 : Int32) (l3 : Int32) (hp : mjH) : mjU := gR hp l0 3 1 (fun v1 => aI hp v1 l1 (fun v2 => gR hp l0 3 0 (fun v3 => gR hp l0 3 0 (fun v4 => aI hp v4 (v2 + (1 : Int32)) (fun v5 => sI hp v3 (((v2 + (2 : Int32)) + v5) + l2) l3 (fun hp6 => some (none, hp6)))))))
theorem t_44_0 {X : mjX} {d C S kc ks : Nat} {R : mjR} (hR : mjC R d) (h1 : kc ≤ C) (h2 : ks ≤ S) : P_44_0 X (d + 1) C S kc ks (b_44_0 R) := by
  intro l0 l1 l2 l3 hp q h
  unfold b_44_0 at h
  refine mjr_aload_n (x := l0) D_44_0 rfl ?_
  refine mjq_gR D_44_1 fr_3_13 h (fun v1 h => ?_)
  refine mjr_iload_n (x := l1) D_44_4 rfl ?_
  refine mjq_aI D_44_5 h (fun v2 h => ?_)
  refine mjq_istore (lo' := [some (.ref l0), some (.int l1), some (.int l2), some (.int l3), some (.int v2)]) D_44_6 (Nat.le_of_ble_eq_true rfl) rfl ?_
  refine mjr_aload_n (x := l0) D_44_8 rfl ?_
  refine mjq_gR D_44_9 fr_3_9 h (fun v3 h => ?_)
  refine mjr_iload (x := v2) D_44_12 rfl ?_
  refine mjq_ic (v := (2 : Int32)) D_44_14 rfl ?_
  refine mjr_iadd D_44_15 ?_
  refine mjr_aload_n (x := l0) D_44_16 rfl ?_
  refine mjq_gR D_44_17 fr_3_9 h (fun v4 h => ?_)
  refine mjr_iload (x := v2) D_44_20 rfl ?_
  refine mjq_ic (v := (1 : Int32)) D_44_22 rfl ?_
  refine mjr_iadd D_44_23 ?_
  refine mjq_aI D_44_24 h (fun v5 h => ?_)
  refine mjr_iadd D_44_25 ?_
  refine mjr_iload_n (x := l2) D_44_26 rfl ?_
  refine mjr_iadd D_44_27 ?_
  refine mjr_iload_n (x := l3) D_44_28 rfl ?_
  refine mjq_sI D_44_29 h (fun hp6 h => ?_)
  exact mjq_nret D_44_30 rfl h1 h2 h
noncomputable def f_44 (R : mjR) (a0 : Nat) (a1 : Int32) (a2 : Int32) (a3 : Int32) (hp : mjH) : mjU := b_44_0 R a0 a1 a2 a3 hp
theorem c_44 {R : mjR} {d : Nat} (hR : mjC R d) {a0 : Nat} {a1 : Int32} {a2 : Int32} {a3 : Int32} {hp : mjH} {q : Option Value × mjH} (h : f_44 R a0 a1 a2 a3 hp = some q) : mjM (d + 1) 0 0 44 [.ref a0, .int a1, .int a2, .int a3] hp (mjEq q) :=
  mjM_of Ja_44 (Nat.le_of_ble_eq_true rfl) (mjG.fg (lo' := [some (.ref a0), some (.int a1), some (.int a2), some (.int a3), none]) (And.intro rfl (And.intro rfl (And.intro rfl (And.intro rfl True.intro)))) ((t_44_0 hR (Nat.le_refl 0) (Nat.le_refl 0)) a0 a1 a2 a3 hp q h))
def J_45 : mjI := (⟨"OwnerHeap$Heap", "fieldAt", "(II)I"⟩, 3, prog_5_method_9_code, 4, (some .int), 2, false)
theorem Ja_45 : mjMt 45 = some J_45 := by rfl
theorem D_45_0 : decode J_45.2.2.1 0 = .ok (.aload_n 0, 1) := dzq_42 (by decide +kernel)
theorem D_45_1 : decode J_45.2.2.1 1 = .ok (.getfield 13, 3) := dzq_180 (by decide +kernel)
theorem D_45_4 : decode J_45.2.2.1 4 = .ok (.iload_n 1, 1) := dzq_27 (by decide +kernel)
theorem D_45_5 : decode J_45.2.2.1 5 = .ok (.iaload, 1) := dzq_46 (by decide +kernel)
theorem D_45_6 : decode J_45.2.2.1 6 = .ok (.istore_n 3, 1) := dzq_62 (by decide +kernel)
theorem D_45_7 : decode J_45.2.2.1 7 = .ok (.aload_n 0, 1) := dzq_42 (by decide +kernel)
theorem D_45_8 : decode J_45.2.2.1 8 = .ok (.getfield 9, 3) := dzq_180 (by decide +kernel)
theorem D_45_11 : decode J_45.2.2.1 11 = .ok (.iload_n 3, 1) := dzq_29 (by decide +kernel)
theorem D_45_12 : decode J_45.2.2.1 12 = .ok (.iconst 2, 1) := dzq_5 (by decide +kernel)
theorem D_45_13 : decode J_45.2.2.1 13 = .ok (.iadd, 1) := dzq_96 (by decide +kernel)
theorem D_45_14 : decode J_45.2.2.1 14 = .ok (.aload_n 0, 1) := dzq_42 (by decide +kernel)
theorem D_45_15 : decode J_45.2.2.1 15 = .ok (.getfield 9, 3) := dzq_180 (by decide +kernel)
theorem D_45_18 : decode J_45.2.2.1 18 = .ok (.iload_n 3, 1) := dzq_29 (by decide +kernel)
theorem D_45_19 : decode J_45.2.2.1 19 = .ok (.iconst 1, 1) := dzq_4 (by decide +kernel)
theorem D_45_20 : decode J_45.2.2.1 20 = .ok (.iadd, 1) := dzq_96 (by decide +kernel)
theorem D_45_21 : decode J_45.2.2.1 21 = .ok (.iaload, 1) := dzq_46 (by decide +kernel)
theorem D_45_22 : decode J_45.2.2.1 22 = .ok (.iadd, 1) := dzq_96 (by decide +kernel)
theorem D_45_23 : decode J_45.2.2.1 23 = .ok (.iload_n 2, 1) := dzq_28 (by decide +kernel)
theorem D_45_24 : decode J_45.2.2.1 24 = .ok (.iadd, 1) := dzq_96 (by decide +kernel)
theorem D_45_25 : decode J_45.2.2.1 25 = .ok (.iaload, 1) := dzq_46 (by decide +kernel)
theorem D_45_26 : decode J_45.2.2.1 26 = .ok (.ireturn, 1) := dzq_172 (by decide +kernel)
def P_45_0 (X : mjX) (d C S kc ks : Nat) (k : Nat → Int32 → Int32 → mjH → mjU) : Prop := ∀ (l0 : Nat) (l1 : Int32) (l2 : Int32) (hp : mjH) (q : Option Value × mjH), k l0 l1 l2 hp = some q → mjG X d C S J_45 (mjEq q) 0 [some (.ref l0), some (.int l1), some (.int l2), none] [] hp kc ks
noncomputable def b_45_0 (R : mjR) (l0 : Nat) (l1 : Int32) (l2 : Int32) (hp : mjH) : mjU := gR hp l0 3 1 (fun v1 => aI hp v1 l1 (fun v2 => gR hp l0 3 0 (fun v3 => gR hp l0 3 0 (fun v4 => aI hp v4 (v2 + (1 : Int32)) (fun v5 => aI hp v3 (((v2 + (2 : Int32)) + v5) + l2) (fun v6 => some (some (.int v6), hp)))))))
theorem t_45_0 {X : mjX} {d C S kc ks : Nat} {R : mjR} (hR : mjC R d) (h1 : kc ≤ C) (h2 : ks ≤ S) : P_45_0 X (d + 1) C S kc ks (b_45_0 R) := by
  intro l0 l1 l2 hp q h
  unfold b_45_0 at h
  refine mjr_aload_n (x := l0) D_45_0 rfl ?_
  refine mjq_gR D_45_1 fr_3_13 h (fun v1 h => ?_)
  refine mjr_iload_n (x := l1) D_45_4 rfl ?_
  refine mjq_aI D_45_5 h (fun v2 h => ?_)
  refine mjq_istore_n (lo' := [some (.ref l0), some (.int l1), some (.int l2), some (.int v2)]) D_45_6 (Nat.le_of_ble_eq_true rfl) rfl ?_
  refine mjr_aload_n (x := l0) D_45_7 rfl ?_
  refine mjq_gR D_45_8 fr_3_9 h (fun v3 h => ?_)
  refine mjr_iload_n (x := v2) D_45_11 rfl ?_
  refine mjq_ic (v := (2 : Int32)) D_45_12 rfl ?_
  refine mjr_iadd D_45_13 ?_
  refine mjr_aload_n (x := l0) D_45_14 rfl ?_
  refine mjq_gR D_45_15 fr_3_9 h (fun v4 h => ?_)
  refine mjr_iload_n (x := v2) D_45_18 rfl ?_
  refine mjq_ic (v := (1 : Int32)) D_45_19 rfl ?_
  refine mjr_iadd D_45_20 ?_
  refine mjq_aI D_45_21 h (fun v5 h => ?_)
  refine mjr_iadd D_45_22 ?_
  refine mjr_iload_n (x := l2) D_45_23 rfl ?_
  refine mjr_iadd D_45_24 ?_
  refine mjq_aI D_45_25 h (fun v6 h => ?_)
  exact mjq_ret D_45_26 rfl h1 h2 h
noncomputable def f_45 (R : mjR) (a0 : Nat) (a1 : Int32) (a2 : Int32) (hp : mjH) : mjU := b_45_0 R a0 a1 a2 hp
theorem c_45 {R : mjR} {d : Nat} (hR : mjC R d) {a0 : Nat} {a1 : Int32} {a2 : Int32} {hp : mjH} {q : Option Value × mjH} (h : f_45 R a0 a1 a2 hp = some q) : mjM (d + 1) 0 0 45 [.ref a0, .int a1, .int a2] hp (mjEq q) :=
  mjM_of Ja_45 (Nat.le_of_ble_eq_true rfl) (mjG.fg (lo' := [some (.ref a0), some (.int a1), some (.int a2), none]) (And.intro rfl (And.intro rfl (And.intro rfl True.intro))) ((t_45_0 hR (Nat.le_refl 0) (Nat.le_refl 0)) a0 a1 a2 hp q h))
def J_46 : mjI := (⟨"OwnerHeap$Heap", "classOf", "(I)I"⟩, 3, prog_5_method_5_code, 2, (some .int), 1, false)
theorem Ja_46 : mjMt 46 = some J_46 := by rfl
theorem D_46_0 : decode J_46.2.2.1 0 = .ok (.aload_n 0, 1) := dzq_42 (by decide +kernel)
theorem D_46_1 : decode J_46.2.2.1 1 = .ok (.getfield 9, 3) := dzq_180 (by decide +kernel)
theorem D_46_4 : decode J_46.2.2.1 4 = .ok (.aload_n 0, 1) := dzq_42 (by decide +kernel)
theorem D_46_5 : decode J_46.2.2.1 5 = .ok (.getfield 13, 3) := dzq_180 (by decide +kernel)
theorem D_46_8 : decode J_46.2.2.1 8 = .ok (.iload_n 1, 1) := dzq_27 (by decide +kernel)
theorem D_46_9 : decode J_46.2.2.1 9 = .ok (.iaload, 1) := dzq_46 (by decide +kernel)
theorem D_46_10 : decode J_46.2.2.1 10 = .ok (.iaload, 1) := dzq_46 (by decide +kernel)
theorem D_46_11 : decode J_46.2.2.1 11 = .ok (.ireturn, 1) := dzq_172 (by decide +kernel)
def P_46_0 (X : mjX) (d C S kc ks : Nat) (k : Nat → Int32 → mjH → mjU) : Prop := ∀ (l0 : Nat) (l1 : Int32) (hp : mjH) (q : Option Value × mjH), k l0 l1 hp = some q → mjG X d C S J_46 (mjEq q) 0 [some (.ref l0), some (.int l1)] [] hp kc ks
noncomputable def b_46_0 (R : mjR) (l0 : Nat) (l1 : Int32) (hp : mjH) : mjU := gR hp l0 3 0 (fun v1 => gR hp l0 3 1 (fun v2 => aI hp v2 l1 (fun v3 => aI hp v1 v3 (fun v4 => some (some (.int v4), hp)))))
theorem t_46_0 {X : mjX} {d C S kc ks : Nat} {R : mjR} (hR : mjC R d) (h1 : kc ≤ C) (h2 : ks ≤ S) : P_46_0 X (d + 1) C S kc ks (b_46_0 R) := by
  intro l0 l1 hp q h
  unfold b_46_0 at h
  refine mjr_aload_n (x := l0) D_46_0 rfl ?_
  refine mjq_gR D_46_1 fr_3_9 h (fun v1 h => ?_)
  refine mjr_aload_n (x := l0) D_46_4 rfl ?_
  refine mjq_gR D_46_5 fr_3_13 h (fun v2 h => ?_)
  refine mjr_iload_n (x := l1) D_46_8 rfl ?_
  refine mjq_aI D_46_9 h (fun v3 h => ?_)
  refine mjq_aI D_46_10 h (fun v4 h => ?_)
  exact mjq_ret D_46_11 rfl h1 h2 h
noncomputable def f_46 (R : mjR) (a0 : Nat) (a1 : Int32) (hp : mjH) : mjU := b_46_0 R a0 a1 hp
theorem c_46 {R : mjR} {d : Nat} (hR : mjC R d) {a0 : Nat} {a1 : Int32} {hp : mjH} {q : Option Value × mjH} (h : f_46 R a0 a1 hp = some q) : mjM (d + 1) 0 0 46 [.ref a0, .int a1] hp (mjEq q) :=
  mjM_of Ja_46 (Nat.le_of_ble_eq_true rfl) (mjG.fg (lo' := [some (.ref a0), some (.int a1)]) (And.intro rfl (And.intro rfl True.intro)) ((t_46_0 hR (Nat.le_refl 0) (Nat.le_refl 0)) a0 a1 hp q h))
def J_47 : mjI := (⟨"OwnerHeap$Heap", "make", "(III)I"⟩, 3, prog_5_method_3_code, 5, (some .int), 3, false)
theorem Ja_47 : mjMt 47 = some J_47 := by rfl
theorem D_47_0 : decode J_47.2.2.1 0 = .ok (.iconst 2, 1) := dzq_5 (by decide +kernel)
theorem D_47_1 : decode J_47.2.2.1 1 = .ok (.iload_n 2, 1) := dzq_28 (by decide +kernel)
theorem D_47_2 : decode J_47.2.2.1 2 = .ok (.iadd, 1) := dzq_96 (by decide +kernel)
theorem D_47_3 : decode J_47.2.2.1 3 = .ok (.iload_n 3, 1) := dzq_29 (by decide +kernel)
theorem D_47_4 : decode J_47.2.2.1 4 = .ok (.iadd, 1) := dzq_96 (by decide +kernel)
theorem D_47_5 : decode J_47.2.2.1 5 = .ok (.istore 4, 2) := dzq_54 (by decide +kernel)
theorem D_47_7 : decode J_47.2.2.1 7 = .ok (.iload 4, 2) := dzq_21 (by decide +kernel)
theorem D_47_9 : decode J_47.2.2.1 9 = .ok (.aload_n 0, 1) := dzq_42 (by decide +kernel)
theorem D_47_10 : decode J_47.2.2.1 10 = .ok (.getfield 23, 3) := dzq_180 (by decide +kernel)
theorem D_47_13 : decode J_47.2.2.1 13 = .ok (.aload_n 0, 1) := dzq_42 (by decide +kernel)
theorem D_47_14 : decode J_47.2.2.1 14 = .ok (.getfield 20, 3) := dzq_180 (by decide +kernel)
theorem D_47_17 : decode J_47.2.2.1 17 = .ok (.isub, 1) := dzq_100 (by decide +kernel)
theorem D_47_18 : decode J_47.2.2.1 18 = .ok (.if_icmp .gt 13, 3) := dzq_163 (by decide +kernel)
theorem D_47_21 : decode J_47.2.2.1 21 = .ok (.aload_n 0, 1) := dzq_42 (by decide +kernel)
theorem D_47_22 : decode J_47.2.2.1 22 = .ok (.getfield 16, 3) := dzq_180 (by decide +kernel)
theorem D_47_25 : decode J_47.2.2.1 25 = .ok (.sipush 1334, 3) := dzq_17 (by decide +kernel)
theorem D_47_28 : decode J_47.2.2.1 28 = .ok (.if_icmp .lt 5, 3) := dzq_161 (by decide +kernel)
theorem D_47_31 : decode J_47.2.2.1 31 = .ok (.iconst 0, 1) := dzq_3 (by decide +kernel)
theorem D_47_32 : decode J_47.2.2.1 32 = .ok (.ireturn, 1) := dzq_172 (by decide +kernel)
theorem D_47_33 : decode J_47.2.2.1 33 = .ok (.aload_n 0, 1) := dzq_42 (by decide +kernel)
theorem D_47_34 : decode J_47.2.2.1 34 = .ok (.dup, 1) := dzq_89 (by decide +kernel)
theorem D_47_35 : decode J_47.2.2.1 35 = .ok (.getfield 16, 3) := dzq_180 (by decide +kernel)
theorem D_47_38 : decode J_47.2.2.1 38 = .ok (.iconst 1, 1) := dzq_4 (by decide +kernel)
theorem D_47_39 : decode J_47.2.2.1 39 = .ok (.iadd, 1) := dzq_96 (by decide +kernel)
theorem D_47_40 : decode J_47.2.2.1 40 = .ok (.putfield 16, 3) := dzq_181 (by decide +kernel)
theorem D_47_43 : decode J_47.2.2.1 43 = .ok (.aload_n 0, 1) := dzq_42 (by decide +kernel)
theorem D_47_44 : decode J_47.2.2.1 44 = .ok (.getfield 13, 3) := dzq_180 (by decide +kernel)
theorem D_47_47 : decode J_47.2.2.1 47 = .ok (.aload_n 0, 1) := dzq_42 (by decide +kernel)
theorem D_47_48 : decode J_47.2.2.1 48 = .ok (.getfield 16, 3) := dzq_180 (by decide +kernel)
theorem D_47_51 : decode J_47.2.2.1 51 = .ok (.aload_n 0, 1) := dzq_42 (by decide +kernel)
theorem D_47_52 : decode J_47.2.2.1 52 = .ok (.getfield 20, 3) := dzq_180 (by decide +kernel)
theorem D_47_55 : decode J_47.2.2.1 55 = .ok (.iastore, 1) := dzq_79 (by decide +kernel)
theorem D_47_56 : decode J_47.2.2.1 56 = .ok (.aload_n 0, 1) := dzq_42 (by decide +kernel)
theorem D_47_57 : decode J_47.2.2.1 57 = .ok (.getfield 9, 3) := dzq_180 (by decide +kernel)
theorem D_47_60 : decode J_47.2.2.1 60 = .ok (.aload_n 0, 1) := dzq_42 (by decide +kernel)
theorem D_47_61 : decode J_47.2.2.1 61 = .ok (.getfield 20, 3) := dzq_180 (by decide +kernel)
theorem D_47_64 : decode J_47.2.2.1 64 = .ok (.iload_n 1, 1) := dzq_27 (by decide +kernel)
theorem D_47_65 : decode J_47.2.2.1 65 = .ok (.iastore, 1) := dzq_79 (by decide +kernel)
theorem D_47_66 : decode J_47.2.2.1 66 = .ok (.aload_n 0, 1) := dzq_42 (by decide +kernel)
theorem D_47_67 : decode J_47.2.2.1 67 = .ok (.getfield 9, 3) := dzq_180 (by decide +kernel)
theorem D_47_70 : decode J_47.2.2.1 70 = .ok (.aload_n 0, 1) := dzq_42 (by decide +kernel)
theorem D_47_71 : decode J_47.2.2.1 71 = .ok (.getfield 20, 3) := dzq_180 (by decide +kernel)
theorem D_47_74 : decode J_47.2.2.1 74 = .ok (.iconst 1, 1) := dzq_4 (by decide +kernel)
theorem D_47_75 : decode J_47.2.2.1 75 = .ok (.iadd, 1) := dzq_96 (by decide +kernel)
theorem D_47_76 : decode J_47.2.2.1 76 = .ok (.iload_n 2, 1) := dzq_28 (by decide +kernel)
theorem D_47_77 : decode J_47.2.2.1 77 = .ok (.iastore, 1) := dzq_79 (by decide +kernel)
theorem D_47_78 : decode J_47.2.2.1 78 = .ok (.aload_n 0, 1) := dzq_42 (by decide +kernel)
theorem D_47_79 : decode J_47.2.2.1 79 = .ok (.getfield 9, 3) := dzq_180 (by decide +kernel)
theorem D_47_82 : decode J_47.2.2.1 82 = .ok (.aload_n 0, 1) := dzq_42 (by decide +kernel)
theorem D_47_83 : decode J_47.2.2.1 83 = .ok (.getfield 20, 3) := dzq_180 (by decide +kernel)
theorem D_47_86 : decode J_47.2.2.1 86 = .ok (.iconst 2, 1) := dzq_5 (by decide +kernel)
theorem D_47_87 : decode J_47.2.2.1 87 = .ok (.iadd, 1) := dzq_96 (by decide +kernel)
theorem D_47_88 : decode J_47.2.2.1 88 = .ok (.aload_n 0, 1) := dzq_42 (by decide +kernel)
theorem D_47_89 : decode J_47.2.2.1 89 = .ok (.getfield 20, 3) := dzq_180 (by decide +kernel)
theorem D_47_92 : decode J_47.2.2.1 92 = .ok (.iload 4, 2) := dzq_21 (by decide +kernel)
theorem D_47_94 : decode J_47.2.2.1 94 = .ok (.iadd, 1) := dzq_96 (by decide +kernel)
theorem D_47_95 : decode J_47.2.2.1 95 = .ok (.iconst 0, 1) := dzq_3 (by decide +kernel)
theorem D_47_96 : decode J_47.2.2.1 96 = .ok (.invokestatic 26, 3) := dzq_184 (by decide +kernel)
theorem D_47_99 : decode J_47.2.2.1 99 = .ok (.aload_n 0, 1) := dzq_42 (by decide +kernel)
theorem D_47_100 : decode J_47.2.2.1 100 = .ok (.dup, 1) := dzq_89 (by decide +kernel)
theorem D_47_101 : decode J_47.2.2.1 101 = .ok (.getfield 20, 3) := dzq_180 (by decide +kernel)
theorem D_47_104 : decode J_47.2.2.1 104 = .ok (.iload 4, 2) := dzq_21 (by decide +kernel)
theorem D_47_106 : decode J_47.2.2.1 106 = .ok (.iadd, 1) := dzq_96 (by decide +kernel)
theorem D_47_107 : decode J_47.2.2.1 107 = .ok (.putfield 20, 3) := dzq_181 (by decide +kernel)
theorem D_47_110 : decode J_47.2.2.1 110 = .ok (.aload_n 0, 1) := dzq_42 (by decide +kernel)
theorem D_47_111 : decode J_47.2.2.1 111 = .ok (.getfield 16, 3) := dzq_180 (by decide +kernel)
theorem D_47_114 : decode J_47.2.2.1 114 = .ok (.ireturn, 1) := dzq_172 (by decide +kernel)
def P_47_31 (X : mjX) (d C S kc ks : Nat) (k : mjH → mjU) : Prop := ∀  (hp : mjH) (q : Option Value × mjH), k  hp = some q → mjG X d C S J_47 (mjEq q) 31 [none, none, none, none, none] [] hp kc ks
def P_47_0 (X : mjX) (d C S kc ks : Nat) (k : Nat → Int32 → Int32 → Int32 → mjH → mjU) : Prop := ∀ (l0 : Nat) (l1 : Int32) (l2 : Int32) (l3 : Int32) (hp : mjH) (q : Option Value × mjH), k l0 l1 l2 l3 hp = some q → mjG X d C S J_47 (mjEq q) 0 [some (.ref l0), some (.int l1), some (.int l2), some (.int l3), none] [] hp kc ks
noncomputable def b_47_31 (R : mjR)  (hp : mjH) : mjU := some (some (.int (0 : Int32)), hp)
theorem t_47_31 {X : mjX} {d C S kc ks : Nat} {R : mjR} (hR : mjC R d) (h1 : kc ≤ C) (h2 : ks ≤ S) : P_47_31 X (d + 1) C S kc ks (b_47_31 R) := by
  intro  hp q h
  unfold b_47_31 at h
  refine mjq_ic (v := (0 : Int32)) D_47_31 rfl ?_
  exact mjq_ret D_47_32 rfl h1 h2 h
noncomputable def b_47_0 (R : mjR) (l0 : Nat) (l1 : Int32) (l2 : Int32) (l3 : Int32) (hp : mjH) : mjU := gI hp l0 3 4 (fun v1 => gI hp l0 3 3 (fun v2 => (if (v1 - v2) < (((2 : Int32) + l2) + l3) then b_47_31 R hp else gI hp l0 3 2 (fun v3 => (if v3 < (1334 : Int32) then gI hp l0 3 2 (fun v4 => pI hp l0 3 2 (v4 + (1 : Int32)) (fun hp5 => gR hp5 l0 3 1 (fun v6 => gI hp5 l0 3 2 (fun v7 => gI hp5 l0 3 3 (fun v8 => sI hp5 v6 v7 v8 (fun hp9 => gR hp9 l0 3 0 (fun v10 => gI hp9 l0 3 3 (fun v11 => sI hp9 v10 v11 l1 (fun hp12 => gR hp12 l0 3 0 (fun v13 => gI hp12 l0 3 3 (fun v14 => sI hp12 v13 (v14 + (1 : Int32)) l2 (fun hp15 => gR hp15 l0 3 0 (fun v16 => gI hp15 l0 3 3 (fun v17 => gI hp15 l0 3 3 (fun v18 => bN (R 379 [.ref v16, .int (v17 + (2 : Int32)), .int (v18 + (((2 : Int32) + l2) + l3)), .int (0 : Int32)] hp15) (fun  hp19 => gI hp19 l0 3 3 (fun v20 => pI hp19 l0 3 3 (v20 + (((2 : Int32) + l2) + l3)) (fun hp21 => gI hp21 l0 3 2 (fun v22 => some (some (.int v22), hp21)))))))))))))))))))) else b_47_31 R hp)))))
theorem t_47_0 {X : mjX} {d C S kc ks : Nat} {R : mjR} (hR : mjC R d) (h1 : kc ≤ C) (h2 : ks ≤ S) : P_47_0 X (d + 1) C S kc ks (b_47_0 R) := by
  intro l0 l1 l2 l3 hp q h
  unfold b_47_0 at h
  refine mjq_ic (v := (2 : Int32)) D_47_0 rfl ?_
  refine mjr_iload_n (x := l2) D_47_1 rfl ?_
  refine mjr_iadd D_47_2 ?_
  refine mjr_iload_n (x := l3) D_47_3 rfl ?_
  refine mjr_iadd D_47_4 ?_
  refine mjq_istore (lo' := [some (.ref l0), some (.int l1), some (.int l2), some (.int l3), some (.int (((2 : Int32) + l2) + l3))]) D_47_5 (Nat.le_of_ble_eq_true rfl) rfl ?_
  refine mjr_iload (x := (((2 : Int32) + l2) + l3)) D_47_7 rfl ?_
  refine mjr_aload_n (x := l0) D_47_9 rfl ?_
  refine mjq_gI D_47_10 fr_3_23 h (fun v1 h => ?_)
  refine mjr_aload_n (x := l0) D_47_13 rfl ?_
  refine mjq_gI D_47_14 fr_3_20 h (fun v2 h => ?_)
  refine mjr_isub D_47_17 ?_
  refine mjq_icmp_gt (tgt := 31) D_47_18 rfl h (fun h => ?_) (fun h => ?_)
  · exact mjG.fg (lo' := [none, none, none, none, none]) True.intro ((t_47_31 hR h1 h2) _ _ h)
  · refine mjr_aload_n (x := l0) D_47_21 rfl ?_
    refine mjq_gI D_47_22 fr_3_16 h (fun v3 h => ?_)
    refine mjq_si (v := (1334 : Int32)) D_47_25 rfl ?_
    refine mjq_icmp_lt (tgt := 33) D_47_28 rfl h (fun h => ?_) (fun h => ?_)
    · refine mjr_aload_n (x := l0) D_47_33 rfl ?_
      refine mjr_dup D_47_34 rfl ?_
      refine mjq_gI D_47_35 fr_3_16 h (fun v4 h => ?_)
      refine mjq_ic (v := (1 : Int32)) D_47_38 rfl ?_
      refine mjr_iadd D_47_39 ?_
      refine mjq_pI D_47_40 fr_3_16 rfl rfl h (fun hp5 h => ?_)
      refine mjr_aload_n (x := l0) D_47_43 rfl ?_
      refine mjq_gR D_47_44 fr_3_13 h (fun v6 h => ?_)
      refine mjr_aload_n (x := l0) D_47_47 rfl ?_
      refine mjq_gI D_47_48 fr_3_16 h (fun v7 h => ?_)
      refine mjr_aload_n (x := l0) D_47_51 rfl ?_
      refine mjq_gI D_47_52 fr_3_20 h (fun v8 h => ?_)
      refine mjq_sI D_47_55 h (fun hp9 h => ?_)
      refine mjr_aload_n (x := l0) D_47_56 rfl ?_
      refine mjq_gR D_47_57 fr_3_9 h (fun v10 h => ?_)
      refine mjr_aload_n (x := l0) D_47_60 rfl ?_
      refine mjq_gI D_47_61 fr_3_20 h (fun v11 h => ?_)
      refine mjr_iload_n (x := l1) D_47_64 rfl ?_
      refine mjq_sI D_47_65 h (fun hp12 h => ?_)
      refine mjr_aload_n (x := l0) D_47_66 rfl ?_
      refine mjq_gR D_47_67 fr_3_9 h (fun v13 h => ?_)
      refine mjr_aload_n (x := l0) D_47_70 rfl ?_
      refine mjq_gI D_47_71 fr_3_20 h (fun v14 h => ?_)
      refine mjq_ic (v := (1 : Int32)) D_47_74 rfl ?_
      refine mjr_iadd D_47_75 ?_
      refine mjr_iload_n (x := l2) D_47_76 rfl ?_
      refine mjq_sI D_47_77 h (fun hp15 h => ?_)
      refine mjr_aload_n (x := l0) D_47_78 rfl ?_
      refine mjq_gR D_47_79 fr_3_9 h (fun v16 h => ?_)
      refine mjr_aload_n (x := l0) D_47_82 rfl ?_
      refine mjq_gI D_47_83 fr_3_20 h (fun v17 h => ?_)
      refine mjq_ic (v := (2 : Int32)) D_47_86 rfl ?_
      refine mjr_iadd D_47_87 ?_
      refine mjr_aload_n (x := l0) D_47_88 rfl ?_
      refine mjq_gI D_47_89 fr_3_20 h (fun v18 h => ?_)
      refine mjr_iload (x := (((2 : Int32) + l2) + l3)) D_47_92 rfl ?_
      refine mjr_iadd D_47_94 ?_
      refine mjq_ic (v := (0 : Int32)) D_47_95 rfl ?_
      refine mjq_scN (As := [.ref v16, .int (v17 + (2 : Int32)), .int (v18 + (((2 : Int32) + l2) + l3)), .int (0 : Int32)]) (rest := []) D_47_96 mr_3_26 V_379 rfl rfl rfl hR (Nat.le_refl _) h1 h2 h (fun  hp19 h => ?_)
      refine mjr_aload_n (x := l0) D_47_99 rfl ?_
      refine mjr_dup D_47_100 rfl ?_
      refine mjq_gI D_47_101 fr_3_20 h (fun v20 h => ?_)
      refine mjr_iload (x := (((2 : Int32) + l2) + l3)) D_47_104 rfl ?_
      refine mjr_iadd D_47_106 ?_
      refine mjq_pI D_47_107 fr_3_20 rfl rfl h (fun hp21 h => ?_)
      refine mjr_aload_n (x := l0) D_47_110 rfl ?_
      refine mjq_gI D_47_111 fr_3_16 h (fun v22 h => ?_)
      exact mjq_ret D_47_114 rfl h1 h2 h
    · exact mjG.fg (lo' := [none, none, none, none, none]) True.intro ((t_47_31 hR h1 h2) _ _ h)
noncomputable def f_47 (R : mjR) (a0 : Nat) (a1 : Int32) (a2 : Int32) (a3 : Int32) (hp : mjH) : mjU := b_47_0 R a0 a1 a2 a3 hp
theorem c_47 {R : mjR} {d : Nat} (hR : mjC R d) {a0 : Nat} {a1 : Int32} {a2 : Int32} {a3 : Int32} {hp : mjH} {q : Option Value × mjH} (h : f_47 R a0 a1 a2 a3 hp = some q) : mjM (d + 1) 0 0 47 [.ref a0, .int a1, .int a2, .int a3] hp (mjEq q) :=
  mjM_of Ja_47 (Nat.le_of_ble_eq_true rfl) (mjG.fg (lo' := [some (.ref a0), some (.int a1), some (.int a2), some (.int a3), none]) (And.intro rfl (And.intro rfl (And.intro rfl (And.intro rfl True.intro)))) ((t_47_0 hR (Nat.le_refl 0) (Nat.le_refl 0)) a0 a1 a2 a3 hp q h))
def J_48 : mjI := (⟨"OwnerHeap$Heap", "ownersOf", "(I)I"⟩, 3, prog_5_method_6_code, 2, (some .int), 1, false)
theorem Ja_48 : mjMt 48 = some J_48 := by rfl
theorem D_48_0 : decode J_48.2.2.1 0 = .ok (.aload_n 0, 1) := dzq_42 (by decide +kernel)
theorem D_48_1 : decode J_48.2.2.1 1 = .ok (.getfield 9, 3) := dzq_180 (by decide +kernel)
theorem D_48_4 : decode J_48.2.2.1 4 = .ok (.aload_n 0, 1) := dzq_42 (by decide +kernel)
theorem D_48_5 : decode J_48.2.2.1 5 = .ok (.getfield 13, 3) := dzq_180 (by decide +kernel)
theorem D_48_8 : decode J_48.2.2.1 8 = .ok (.iload_n 1, 1) := dzq_27 (by decide +kernel)
theorem D_48_9 : decode J_48.2.2.1 9 = .ok (.iaload, 1) := dzq_46 (by decide +kernel)
theorem D_48_10 : decode J_48.2.2.1 10 = .ok (.iconst 1, 1) := dzq_4 (by decide +kernel)
theorem D_48_11 : decode J_48.2.2.1 11 = .ok (.iadd, 1) := dzq_96 (by decide +kernel)
theorem D_48_12 : decode J_48.2.2.1 12 = .ok (.iaload, 1) := dzq_46 (by decide +kernel)
theorem D_48_13 : decode J_48.2.2.1 13 = .ok (.ireturn, 1) := dzq_172 (by decide +kernel)
def P_48_0 (X : mjX) (d C S kc ks : Nat) (k : Nat → Int32 → mjH → mjU) : Prop := ∀ (l0 : Nat) (l1 : Int32) (hp : mjH) (q : Option Value × mjH), k l0 l1 hp = some q → mjG X d C S J_48 (mjEq q) 0 [some (.ref l0), some (.int l1)] [] hp kc ks
noncomputable def b_48_0 (R : mjR) (l0 : Nat) (l1 : Int32) (hp : mjH) : mjU := gR hp l0 3 0 (fun v1 => gR hp l0 3 1 (fun v2 => aI hp v2 l1 (fun v3 => aI hp v1 (v3 + (1 : Int32)) (fun v4 => some (some (.int v4), hp)))))
theorem t_48_0 {X : mjX} {d C S kc ks : Nat} {R : mjR} (hR : mjC R d) (h1 : kc ≤ C) (h2 : ks ≤ S) : P_48_0 X (d + 1) C S kc ks (b_48_0 R) := by
  intro l0 l1 hp q h
  unfold b_48_0 at h
  refine mjr_aload_n (x := l0) D_48_0 rfl ?_
  refine mjq_gR D_48_1 fr_3_9 h (fun v1 h => ?_)
  refine mjr_aload_n (x := l0) D_48_4 rfl ?_
  refine mjq_gR D_48_5 fr_3_13 h (fun v2 h => ?_)
  refine mjr_iload_n (x := l1) D_48_8 rfl ?_
  refine mjq_aI D_48_9 h (fun v3 h => ?_)
  refine mjq_ic (v := (1 : Int32)) D_48_10 rfl ?_
  refine mjr_iadd D_48_11 ?_
  refine mjq_aI D_48_12 h (fun v4 h => ?_)
  exact mjq_ret D_48_13 rfl h1 h2 h
noncomputable def f_48 (R : mjR) (a0 : Nat) (a1 : Int32) (hp : mjH) : mjU := b_48_0 R a0 a1 hp
theorem c_48 {R : mjR} {d : Nat} (hR : mjC R d) {a0 : Nat} {a1 : Int32} {hp : mjH} {q : Option Value × mjH} (h : f_48 R a0 a1 hp = some q) : mjM (d + 1) 0 0 48 [.ref a0, .int a1] hp (mjEq q) :=
  mjM_of Ja_48 (Nat.le_of_ble_eq_true rfl) (mjG.fg (lo' := [some (.ref a0), some (.int a1)]) (And.intro rfl (And.intro rfl True.intro)) ((t_48_0 hR (Nat.le_refl 0) (Nat.le_refl 0)) a0 a1 hp q h))
def J_49 : mjI := (⟨"OwnerHeap$Heap", "ownerAt", "(II)I"⟩, 3, prog_5_method_7_code, 3, (some .int), 2, false)
theorem Ja_49 : mjMt 49 = some J_49 := by rfl
theorem D_49_0 : decode J_49.2.2.1 0 = .ok (.aload_n 0, 1) := dzq_42 (by decide +kernel)
theorem D_49_1 : decode J_49.2.2.1 1 = .ok (.getfield 9, 3) := dzq_180 (by decide +kernel)
theorem D_49_4 : decode J_49.2.2.1 4 = .ok (.aload_n 0, 1) := dzq_42 (by decide +kernel)
theorem D_49_5 : decode J_49.2.2.1 5 = .ok (.getfield 13, 3) := dzq_180 (by decide +kernel)
theorem D_49_8 : decode J_49.2.2.1 8 = .ok (.iload_n 1, 1) := dzq_27 (by decide +kernel)
theorem D_49_9 : decode J_49.2.2.1 9 = .ok (.iaload, 1) := dzq_46 (by decide +kernel)
theorem D_49_10 : decode J_49.2.2.1 10 = .ok (.iconst 2, 1) := dzq_5 (by decide +kernel)
theorem D_49_11 : decode J_49.2.2.1 11 = .ok (.iadd, 1) := dzq_96 (by decide +kernel)
theorem D_49_12 : decode J_49.2.2.1 12 = .ok (.iload_n 2, 1) := dzq_28 (by decide +kernel)
theorem D_49_13 : decode J_49.2.2.1 13 = .ok (.iadd, 1) := dzq_96 (by decide +kernel)
theorem D_49_14 : decode J_49.2.2.1 14 = .ok (.iaload, 1) := dzq_46 (by decide +kernel)
theorem D_49_15 : decode J_49.2.2.1 15 = .ok (.ireturn, 1) := dzq_172 (by decide +kernel)
def P_49_0 (X : mjX) (d C S kc ks : Nat) (k : Nat → Int32 → Int32 → mjH → mjU) : Prop := ∀ (l0 : Nat) (l1 : Int32) (l2 : Int32) (hp : mjH) (q : Option Value × mjH), k l0 l1 l2 hp = some q → mjG X d C S J_49 (mjEq q) 0 [some (.ref l0), some (.int l1), some (.int l2)] [] hp kc ks
noncomputable def b_49_0 (R : mjR) (l0 : Nat) (l1 : Int32) (l2 : Int32) (hp : mjH) : mjU := gR hp l0 3 0 (fun v1 => gR hp l0 3 1 (fun v2 => aI hp v2 l1 (fun v3 => aI hp v1 ((v3 + (2 : Int32)) + l2) (fun v4 => some (some (.int v4), hp)))))
theorem t_49_0 {X : mjX} {d C S kc ks : Nat} {R : mjR} (hR : mjC R d) (h1 : kc ≤ C) (h2 : ks ≤ S) : P_49_0 X (d + 1) C S kc ks (b_49_0 R) := by
  intro l0 l1 l2 hp q h
  unfold b_49_0 at h
  refine mjr_aload_n (x := l0) D_49_0 rfl ?_
  refine mjq_gR D_49_1 fr_3_9 h (fun v1 h => ?_)
  refine mjr_aload_n (x := l0) D_49_4 rfl ?_
  refine mjq_gR D_49_5 fr_3_13 h (fun v2 h => ?_)
  refine mjr_iload_n (x := l1) D_49_8 rfl ?_
  refine mjq_aI D_49_9 h (fun v3 h => ?_)
  refine mjq_ic (v := (2 : Int32)) D_49_10 rfl ?_
  refine mjr_iadd D_49_11 ?_
  refine mjr_iload_n (x := l2) D_49_12 rfl ?_
  refine mjr_iadd D_49_13 ?_
  refine mjq_aI D_49_14 h (fun v4 h => ?_)
  exact mjq_ret D_49_15 rfl h1 h2 h
noncomputable def f_49 (R : mjR) (a0 : Nat) (a1 : Int32) (a2 : Int32) (hp : mjH) : mjU := b_49_0 R a0 a1 a2 hp
theorem c_49 {R : mjR} {d : Nat} (hR : mjC R d) {a0 : Nat} {a1 : Int32} {a2 : Int32} {hp : mjH} {q : Option Value × mjH} (h : f_49 R a0 a1 a2 hp = some q) : mjM (d + 1) 0 0 49 [.ref a0, .int a1, .int a2] hp (mjEq q) :=
  mjM_of Ja_49 (Nat.le_of_ble_eq_true rfl) (mjG.fg (lo' := [some (.ref a0), some (.int a1), some (.int a2)]) (And.intro rfl (And.intro rfl (And.intro rfl True.intro))) ((t_49_0 hR (Nat.le_refl 0) (Nat.le_refl 0)) a0 a1 a2 hp q h))
def J_50 : mjI := (⟨"OwnerHeap$Heap", "setOwner", "(III)V"⟩, 3, prog_5_method_8_code, 4, none, 3, false)
theorem Ja_50 : mjMt 50 = some J_50 := by rfl
theorem D_50_0 : decode J_50.2.2.1 0 = .ok (.aload_n 0, 1) := dzq_42 (by decide +kernel)
theorem D_50_1 : decode J_50.2.2.1 1 = .ok (.getfield 9, 3) := dzq_180 (by decide +kernel)
theorem D_50_4 : decode J_50.2.2.1 4 = .ok (.aload_n 0, 1) := dzq_42 (by decide +kernel)
theorem D_50_5 : decode J_50.2.2.1 5 = .ok (.getfield 13, 3) := dzq_180 (by decide +kernel)
theorem D_50_8 : decode J_50.2.2.1 8 = .ok (.iload_n 1, 1) := dzq_27 (by decide +kernel)
theorem D_50_9 : decode J_50.2.2.1 9 = .ok (.iaload, 1) := dzq_46 (by decide +kernel)
theorem D_50_10 : decode J_50.2.2.1 10 = .ok (.iconst 2, 1) := dzq_5 (by decide +kernel)
theorem D_50_11 : decode J_50.2.2.1 11 = .ok (.iadd, 1) := dzq_96 (by decide +kernel)
theorem D_50_12 : decode J_50.2.2.1 12 = .ok (.iload_n 2, 1) := dzq_28 (by decide +kernel)
theorem D_50_13 : decode J_50.2.2.1 13 = .ok (.iadd, 1) := dzq_96 (by decide +kernel)
theorem D_50_14 : decode J_50.2.2.1 14 = .ok (.iload_n 3, 1) := dzq_29 (by decide +kernel)
theorem D_50_15 : decode J_50.2.2.1 15 = .ok (.iastore, 1) := dzq_79 (by decide +kernel)
theorem D_50_16 : decode J_50.2.2.1 16 = .ok (.return_, 1) := dzq_177 (by decide +kernel)
def P_50_0 (X : mjX) (d C S kc ks : Nat) (k : Nat → Int32 → Int32 → Int32 → mjH → mjU) : Prop := ∀ (l0 : Nat) (l1 : Int32) (l2 : Int32) (l3 : Int32) (hp : mjH) (q : Option Value × mjH), k l0 l1 l2 l3 hp = some q → mjG X d C S J_50 (mjEq q) 0 [some (.ref l0), some (.int l1), some (.int l2), some (.int l3)] [] hp kc ks
noncomputable def b_50_0 (R : mjR) (l0 : Nat) (l1 : Int32) (l2 : Int32) (l3 : Int32) (hp : mjH) : mjU := gR hp l0 3 0 (fun v1 => gR hp l0 3 1 (fun v2 => aI hp v2 l1 (fun v3 => sI hp v1 ((v3 + (2 : Int32)) + l2) l3 (fun hp4 => some (none, hp4)))))
theorem t_50_0 {X : mjX} {d C S kc ks : Nat} {R : mjR} (hR : mjC R d) (h1 : kc ≤ C) (h2 : ks ≤ S) : P_50_0 X (d + 1) C S kc ks (b_50_0 R) := by
  intro l0 l1 l2 l3 hp q h
  unfold b_50_0 at h
  refine mjr_aload_n (x := l0) D_50_0 rfl ?_
  refine mjq_gR D_50_1 fr_3_9 h (fun v1 h => ?_)
  refine mjr_aload_n (x := l0) D_50_4 rfl ?_
  refine mjq_gR D_50_5 fr_3_13 h (fun v2 h => ?_)
  refine mjr_iload_n (x := l1) D_50_8 rfl ?_
  refine mjq_aI D_50_9 h (fun v3 h => ?_)
  refine mjq_ic (v := (2 : Int32)) D_50_10 rfl ?_
  refine mjr_iadd D_50_11 ?_
  refine mjr_iload_n (x := l2) D_50_12 rfl ?_
  refine mjr_iadd D_50_13 ?_
  refine mjr_iload_n (x := l3) D_50_14 rfl ?_
  refine mjq_sI D_50_15 h (fun hp4 h => ?_)
  exact mjq_nret D_50_16 rfl h1 h2 h
noncomputable def f_50 (R : mjR) (a0 : Nat) (a1 : Int32) (a2 : Int32) (a3 : Int32) (hp : mjH) : mjU := b_50_0 R a0 a1 a2 a3 hp
theorem c_50 {R : mjR} {d : Nat} (hR : mjC R d) {a0 : Nat} {a1 : Int32} {a2 : Int32} {a3 : Int32} {hp : mjH} {q : Option Value × mjH} (h : f_50 R a0 a1 a2 a3 hp = some q) : mjM (d + 1) 0 0 50 [.ref a0, .int a1, .int a2, .int a3] hp (mjEq q) :=
  mjM_of Ja_50 (Nat.le_of_ble_eq_true rfl) (mjG.fg (lo' := [some (.ref a0), some (.int a1), some (.int a2), some (.int a3)]) (And.intro rfl (And.intro rfl (And.intro rfl (And.intro rfl True.intro)))) ((t_50_0 hR (Nat.le_refl 0) (Nat.le_refl 0)) a0 a1 a2 a3 hp q h))
def J_51 : mjI := (⟨"OwnerHeap$Heap", "depthOf", "(I)I"⟩, 3, prog_5_method_11_code, 4, (some .int), 1, false)
theorem Ja_51 : mjMt 51 = some J_51 := by rfl
theorem D_51_0 : decode J_51.2.2.1 0 = .ok (.iconst 0, 1) := dzq_3 (by decide +kernel)
theorem D_51_1 : decode J_51.2.2.1 1 = .ok (.istore_n 2, 1) := dzq_61 (by decide +kernel)
theorem D_51_2 : decode J_51.2.2.1 2 = .ok (.aload_n 0, 1) := dzq_42 (by decide +kernel)
theorem D_51_3 : decode J_51.2.2.1 3 = .ok (.iload_n 1, 1) := dzq_27 (by decide +kernel)
theorem D_51_4 : decode J_51.2.2.1 4 = .ok (.iconst 0, 1) := dzq_3 (by decide +kernel)
theorem D_51_5 : decode J_51.2.2.1 5 = .ok (.invokevirtual 32, 3) := dzq_182 (by decide +kernel)
theorem D_51_8 : decode J_51.2.2.1 8 = .ok (.istore_n 3, 1) := dzq_62 (by decide +kernel)
theorem D_51_9 : decode J_51.2.2.1 9 = .ok (.iload_n 3, 1) := dzq_29 (by decide +kernel)
theorem D_51_10 : decode J_51.2.2.1 10 = .ok (.ifCond .le 24, 3) := dzq_158 (by decide +kernel)
theorem D_51_13 : decode J_51.2.2.1 13 = .ok (.iload_n 2, 1) := dzq_28 (by decide +kernel)
theorem D_51_14 : decode J_51.2.2.1 14 = .ok (.aload_n 0, 1) := dzq_42 (by decide +kernel)
theorem D_51_15 : decode J_51.2.2.1 15 = .ok (.getfield 16, 3) := dzq_180 (by decide +kernel)
theorem D_51_18 : decode J_51.2.2.1 18 = .ok (.if_icmp .gt 16, 3) := dzq_163 (by decide +kernel)
theorem D_51_21 : decode J_51.2.2.1 21 = .ok (.iinc 2 1, 3) := dzq_132 (by decide +kernel)
theorem D_51_24 : decode J_51.2.2.1 24 = .ok (.aload_n 0, 1) := dzq_42 (by decide +kernel)
theorem D_51_25 : decode J_51.2.2.1 25 = .ok (.iload_n 3, 1) := dzq_29 (by decide +kernel)
theorem D_51_26 : decode J_51.2.2.1 26 = .ok (.iconst 0, 1) := dzq_3 (by decide +kernel)
theorem D_51_27 : decode J_51.2.2.1 27 = .ok (.invokevirtual 32, 3) := dzq_182 (by decide +kernel)
theorem D_51_30 : decode J_51.2.2.1 30 = .ok (.istore_n 3, 1) := dzq_62 (by decide +kernel)
theorem D_51_31 : decode J_51.2.2.1 31 = .ok (.goto (-22), 3) := dzq_167 (by decide +kernel)
theorem D_51_34 : decode J_51.2.2.1 34 = .ok (.iload_n 2, 1) := dzq_28 (by decide +kernel)
theorem D_51_35 : decode J_51.2.2.1 35 = .ok (.ireturn, 1) := dzq_172 (by decide +kernel)
def P_51_34 (X : mjX) (d C S kc ks : Nat) (k : Int32 → mjH → mjU) : Prop := ∀ (l2 : Int32) (hp : mjH) (q : Option Value × mjH), k l2 hp = some q → mjG X d C S J_51 (mjEq q) 34 [none, none, some (.int l2), none] [] hp kc ks
def P_51_9 (X : mjX) (d C S kc ks : Nat) (k : Nat → Int32 → Int32 → mjH → mjU) : Prop := ∀ (l0 : Nat) (l2 : Int32) (l3 : Int32) (hp : mjH) (q : Option Value × mjH), k l0 l2 l3 hp = some q → mjG X d C S J_51 (mjEq q) 9 [some (.ref l0), none, some (.int l2), some (.int l3)] [] hp kc ks
def P_51_0 (X : mjX) (d C S kc ks : Nat) (k : Nat → Int32 → mjH → mjU) : Prop := ∀ (l0 : Nat) (l1 : Int32) (hp : mjH) (q : Option Value × mjH), k l0 l1 hp = some q → mjG X d C S J_51 (mjEq q) 0 [some (.ref l0), some (.int l1), none, none] [] hp kc ks
noncomputable def b_51_34 (R : mjR) (l2 : Int32) (hp : mjH) : mjU := some (some (.int l2), hp)
theorem t_51_34 {X : mjX} {d C S kc ks : Nat} {R : mjR} (hR : mjC R d) (h1 : kc ≤ C) (h2 : ks ≤ S) : P_51_34 X (d + 1) C S kc ks (b_51_34 R) := by
  intro l2 hp q h
  unfold b_51_34 at h
  refine mjr_iload_n (x := l2) D_51_34 rfl ?_
  exact mjq_ret D_51_35 rfl h1 h2 h
noncomputable def b_51_9 (R : mjR) (k9 : Nat → Int32 → Int32 → mjH → mjU) (l0 : Nat) (l2 : Int32) (l3 : Int32) (hp : mjH) : mjU := (if l3 ≤ 0 then b_51_34 R l2 hp else gI hp l0 3 2 (fun v1 => (if v1 < l2 then b_51_34 R l2 hp else rV hp l0 3 (bI (R 49 [.ref l0, .int l3, .int (0 : Int32)] hp) (fun v2 hp3 => k9 l0 (l2 + (1 : Int32)) v2 hp3)))))
theorem t_51_9 {X : mjX} {d C S kc ks : Nat} {R : mjR} (hR : mjC R d) (h1 : kc ≤ C) (h2 : ks ≤ S) {k9 : Nat → Int32 → Int32 → mjH → mjU} (hk9 : P_51_9 X (d + 1) C S kc ks k9) : P_51_9 X (d + 1) C S kc ks (b_51_9 R k9) := by
  intro l0 l2 l3 hp q h
  unfold b_51_9 at h
  refine mjr_iload_n (x := l3) D_51_9 rfl ?_
  refine mjq_if_le (tgt := 34) D_51_10 rfl h (fun h => ?_) (fun h => ?_)
  · exact mjG.fg (lo' := [none, none, some (.int l2), none]) (And.intro rfl True.intro) ((t_51_34 hR h1 h2) _ _ _ h)
  · refine mjr_iload_n (x := l2) D_51_13 rfl ?_
    refine mjr_aload_n (x := l0) D_51_14 rfl ?_
    refine mjq_gI D_51_15 fr_3_16 h (fun v1 h => ?_)
    refine mjq_icmp_gt (tgt := 34) D_51_18 rfl h (fun h => ?_) (fun h => ?_)
    · exact mjG.fg (lo' := [none, none, some (.int l2), none]) (And.intro rfl True.intro) ((t_51_34 hR h1 h2) _ _ _ h)
    · refine mjq_iinc (x := l2) (c := (1 : Int32)) (lo' := [some (.ref l0), none, some (.int (l2 + (1 : Int32))), some (.int l3)]) D_51_21 rfl (Nat.le_of_ble_eq_true rfl) rfl rfl ?_
      refine mjr_aload_n (x := l0) D_51_24 rfl ?_
      refine mjr_iload_n (x := l3) D_51_25 rfl ?_
      refine mjq_ic (v := (0 : Int32)) D_51_26 rfl ?_
      refine mjq_vI (As := [.int l3, .int (0 : Int32)]) (rest := []) D_51_27 mr_3_32 V_49 rfl rfl rfl hR (Nat.le_refl _) h1 h2 h (fun v2 hp3 h => ?_)
      refine mjq_istore_n (lo' := [some (.ref l0), none, some (.int (l2 + (1 : Int32))), some (.int v2)]) D_51_30 (Nat.le_of_ble_eq_true rfl) rfl ?_
      refine mjr_goto (tgt := 9) D_51_31 rfl ?_
      exact hk9 _ _ _ _ _ h
noncomputable def L_51_9 (R : mjR) (n : Nat) : Nat → Int32 → Int32 → mjH → mjU := Nat.rec (motive := fun _ => Nat → Int32 → Int32 → mjH → mjU) (fun _ _ _ _ => none) (fun _ self => b_51_9 R self) n
theorem T_51_9 {X : mjX} {d C S kc ks : Nat} {R : mjR} (hR : mjC R d) (h1 : kc ≤ C) (h2 : ks ≤ S) (n : Nat) : P_51_9 X (d + 1) C S kc ks (L_51_9 R n) := by
  induction n with
  | zero => intro _ _ _ _ _ h; exact mj_no h
  | succ n ih => exact t_51_9 hR h1 h2 ih
noncomputable def b_51_0 (R : mjR) (l0 : Nat) (l1 : Int32) (hp : mjH) : mjU := rV hp l0 3 (bI (R 49 [.ref l0, .int l1, .int (0 : Int32)] hp) (fun v1 hp2 => L_51_9 R mjN l0 (0 : Int32) v1 hp2))
theorem t_51_0 {X : mjX} {d C S kc ks : Nat} {R : mjR} (hR : mjC R d) (h1 : kc ≤ C) (h2 : ks ≤ S) : P_51_0 X (d + 1) C S kc ks (b_51_0 R) := by
  intro l0 l1 hp q h
  unfold b_51_0 at h
  refine mjq_ic (v := (0 : Int32)) D_51_0 rfl ?_
  refine mjq_istore_n (lo' := [some (.ref l0), some (.int l1), some (.int (0 : Int32)), none]) D_51_1 (Nat.le_of_ble_eq_true rfl) rfl ?_
  refine mjr_aload_n (x := l0) D_51_2 rfl ?_
  refine mjr_iload_n (x := l1) D_51_3 rfl ?_
  refine mjq_ic (v := (0 : Int32)) D_51_4 rfl ?_
  refine mjq_vI (As := [.int l1, .int (0 : Int32)]) (rest := []) D_51_5 mr_3_32 V_49 rfl rfl rfl hR (Nat.le_refl _) h1 h2 h (fun v1 hp2 h => ?_)
  refine mjq_istore_n (lo' := [some (.ref l0), some (.int l1), some (.int (0 : Int32)), some (.int v1)]) D_51_8 (Nat.le_of_ble_eq_true rfl) rfl ?_
  exact mjG.fg (lo' := [some (.ref l0), none, some (.int (0 : Int32)), some (.int v1)]) (And.intro rfl (And.intro rfl (And.intro rfl True.intro))) ((T_51_9 hR h1 h2 mjN) _ _ _ _ _ h)
noncomputable def f_51 (R : mjR) (a0 : Nat) (a1 : Int32) (hp : mjH) : mjU := b_51_0 R a0 a1 hp
theorem c_51 {R : mjR} {d : Nat} (hR : mjC R d) {a0 : Nat} {a1 : Int32} {hp : mjH} {q : Option Value × mjH} (h : f_51 R a0 a1 hp = some q) : mjM (d + 1) 0 0 51 [.ref a0, .int a1] hp (mjEq q) :=
  mjM_of Ja_51 (Nat.le_of_ble_eq_true rfl) (mjG.fg (lo' := [some (.ref a0), some (.int a1), none, none]) (And.intro rfl (And.intro rfl True.intro)) ((t_51_0 hR (Nat.le_refl 0) (Nat.le_refl 0)) a0 a1 hp q h))
def J_52 : mjI := (⟨"OwnerHeap$Heap", "liesInside", "(II)Z"⟩, 3, prog_5_method_12_code, 5, (some .boolean), 2, false)
theorem Ja_52 : mjMt 52 = some J_52 := by rfl
theorem D_52_0 : decode J_52.2.2.1 0 = .ok (.iload_n 1, 1) := dzq_27 (by decide +kernel)
theorem D_52_1 : decode J_52.2.2.1 1 = .ok (.istore_n 3, 1) := dzq_62 (by decide +kernel)
theorem D_52_2 : decode J_52.2.2.1 2 = .ok (.iconst 0, 1) := dzq_3 (by decide +kernel)
theorem D_52_3 : decode J_52.2.2.1 3 = .ok (.istore 4, 2) := dzq_54 (by decide +kernel)
theorem D_52_5 : decode J_52.2.2.1 5 = .ok (.iload 4, 2) := dzq_21 (by decide +kernel)
theorem D_52_7 : decode J_52.2.2.1 7 = .ok (.aload_n 0, 1) := dzq_42 (by decide +kernel)
theorem D_52_8 : decode J_52.2.2.1 8 = .ok (.getfield 16, 3) := dzq_180 (by decide +kernel)
theorem D_52_11 : decode J_52.2.2.1 11 = .ok (.if_icmp .gt 21, 3) := dzq_163 (by decide +kernel)
theorem D_52_14 : decode J_52.2.2.1 14 = .ok (.iload_n 3, 1) := dzq_29 (by decide +kernel)
theorem D_52_15 : decode J_52.2.2.1 15 = .ok (.iload_n 2, 1) := dzq_28 (by decide +kernel)
theorem D_52_16 : decode J_52.2.2.1 16 = .ok (.if_icmp .le 16, 3) := dzq_164 (by decide +kernel)
theorem D_52_19 : decode J_52.2.2.1 19 = .ok (.aload_n 0, 1) := dzq_42 (by decide +kernel)
theorem D_52_20 : decode J_52.2.2.1 20 = .ok (.iload_n 3, 1) := dzq_29 (by decide +kernel)
theorem D_52_21 : decode J_52.2.2.1 21 = .ok (.iconst 0, 1) := dzq_3 (by decide +kernel)
theorem D_52_22 : decode J_52.2.2.1 22 = .ok (.invokevirtual 32, 3) := dzq_182 (by decide +kernel)
theorem D_52_25 : decode J_52.2.2.1 25 = .ok (.istore_n 3, 1) := dzq_62 (by decide +kernel)
theorem D_52_26 : decode J_52.2.2.1 26 = .ok (.iinc 4 1, 3) := dzq_132 (by decide +kernel)
theorem D_52_29 : decode J_52.2.2.1 29 = .ok (.goto (-24), 3) := dzq_167 (by decide +kernel)
theorem D_52_32 : decode J_52.2.2.1 32 = .ok (.iload_n 3, 1) := dzq_29 (by decide +kernel)
theorem D_52_33 : decode J_52.2.2.1 33 = .ok (.iload_n 2, 1) := dzq_28 (by decide +kernel)
theorem D_52_34 : decode J_52.2.2.1 34 = .ok (.if_icmp .eq 7, 3) := dzq_159 (by decide +kernel)
theorem D_52_37 : decode J_52.2.2.1 37 = .ok (.iload_n 2, 1) := dzq_28 (by decide +kernel)
theorem D_52_38 : decode J_52.2.2.1 38 = .ok (.ifCond .ne 7, 3) := dzq_154 (by decide +kernel)
theorem D_52_41 : decode J_52.2.2.1 41 = .ok (.iconst 1, 1) := dzq_4 (by decide +kernel)
theorem D_52_42 : decode J_52.2.2.1 42 = .ok (.goto 4, 3) := dzq_167 (by decide +kernel)
theorem D_52_45 : decode J_52.2.2.1 45 = .ok (.iconst 0, 1) := dzq_3 (by decide +kernel)
theorem D_52_46 : decode J_52.2.2.1 46 = .ok (.ireturn, 1) := dzq_172 (by decide +kernel)
def P_52_41 (X : mjX) (d C S kc ks : Nat) (k : mjH → mjU) : Prop := ∀  (hp : mjH) (q : Option Value × mjH), k  hp = some q → mjG X d C S J_52 (mjEq q) 41 [none, none, none, none, none] [] hp kc ks
def P_52_32 (X : mjX) (d C S kc ks : Nat) (k : Int32 → Int32 → mjH → mjU) : Prop := ∀ (l2 : Int32) (l3 : Int32) (hp : mjH) (q : Option Value × mjH), k l2 l3 hp = some q → mjG X d C S J_52 (mjEq q) 32 [none, none, some (.int l2), some (.int l3), none] [] hp kc ks
def P_52_5 (X : mjX) (d C S kc ks : Nat) (k : Nat → Int32 → Int32 → Int32 → mjH → mjU) : Prop := ∀ (l0 : Nat) (l2 : Int32) (l3 : Int32) (l4 : Int32) (hp : mjH) (q : Option Value × mjH), k l0 l2 l3 l4 hp = some q → mjG X d C S J_52 (mjEq q) 5 [some (.ref l0), none, some (.int l2), some (.int l3), some (.int l4)] [] hp kc ks
def P_52_0 (X : mjX) (d C S kc ks : Nat) (k : Nat → Int32 → Int32 → mjH → mjU) : Prop := ∀ (l0 : Nat) (l1 : Int32) (l2 : Int32) (hp : mjH) (q : Option Value × mjH), k l0 l1 l2 hp = some q → mjG X d C S J_52 (mjEq q) 0 [some (.ref l0), some (.int l1), some (.int l2), none, none] [] hp kc ks
noncomputable def b_52_41 (R : mjR)  (hp : mjH) : mjU := some (some (.int (1 : Int32)), hp)
theorem t_52_41 {X : mjX} {d C S kc ks : Nat} {R : mjR} (hR : mjC R d) (h1 : kc ≤ C) (h2 : ks ≤ S) : P_52_41 X (d + 1) C S kc ks (b_52_41 R) := by
  intro  hp q h
  unfold b_52_41 at h
  refine mjq_ic (v := (1 : Int32)) D_52_41 rfl ?_
  refine mjr_goto (tgt := 46) D_52_42 rfl ?_
  exact mjr_ireturn D_52_46 rfl rfl h1 h2 (Option.some.inj h)
noncomputable def b_52_32 (R : mjR) (l2 : Int32) (l3 : Int32) (hp : mjH) : mjU := (if l3 = l2 then b_52_41 R hp else (if l2 = 0 then b_52_41 R hp else some (some (.int (0 : Int32)), hp)))
theorem t_52_32 {X : mjX} {d C S kc ks : Nat} {R : mjR} (hR : mjC R d) (h1 : kc ≤ C) (h2 : ks ≤ S) : P_52_32 X (d + 1) C S kc ks (b_52_32 R) := by
  intro l2 l3 hp q h
  unfold b_52_32 at h
  refine mjr_iload_n (x := l3) D_52_32 rfl ?_
  refine mjr_iload_n (x := l2) D_52_33 rfl ?_
  refine mjq_icmp_eq (tgt := 41) D_52_34 rfl h (fun h => ?_) (fun h => ?_)
  · exact mjG.fg (lo' := [none, none, none, none, none]) True.intro ((t_52_41 hR h1 h2) _ _ h)
  · refine mjr_iload_n (x := l2) D_52_37 rfl ?_
    refine mjq_if_ne (tgt := 45) D_52_38 rfl h (fun h => ?_) (fun h => ?_)
    · refine mjq_ic (v := (0 : Int32)) D_52_45 rfl ?_
      exact mjr_ireturn D_52_46 rfl rfl h1 h2 (Option.some.inj h)
    · exact mjG.fg (lo' := [none, none, none, none, none]) True.intro ((t_52_41 hR h1 h2) _ _ h)
noncomputable def b_52_5 (R : mjR) (k5 : Nat → Int32 → Int32 → Int32 → mjH → mjU) (l0 : Nat) (l2 : Int32) (l3 : Int32) (l4 : Int32) (hp : mjH) : mjU := gI hp l0 3 2 (fun v1 => (if v1 < l4 then b_52_32 R l2 l3 hp else (if l3 ≤ l2 then b_52_32 R l2 l3 hp else rV hp l0 3 (bI (R 49 [.ref l0, .int l3, .int (0 : Int32)] hp) (fun v2 hp3 => k5 l0 l2 v2 (l4 + (1 : Int32)) hp3)))))
theorem t_52_5 {X : mjX} {d C S kc ks : Nat} {R : mjR} (hR : mjC R d) (h1 : kc ≤ C) (h2 : ks ≤ S) {k5 : Nat → Int32 → Int32 → Int32 → mjH → mjU} (hk5 : P_52_5 X (d + 1) C S kc ks k5) : P_52_5 X (d + 1) C S kc ks (b_52_5 R k5) := by
  intro l0 l2 l3 l4 hp q h
  unfold b_52_5 at h
  refine mjr_iload (x := l4) D_52_5 rfl ?_
  refine mjr_aload_n (x := l0) D_52_7 rfl ?_
  refine mjq_gI D_52_8 fr_3_16 h (fun v1 h => ?_)
  refine mjq_icmp_gt (tgt := 32) D_52_11 rfl h (fun h => ?_) (fun h => ?_)
  · exact mjG.fg (lo' := [none, none, some (.int l2), some (.int l3), none]) (And.intro rfl (And.intro rfl True.intro)) ((t_52_32 hR h1 h2) _ _ _ _ h)
  · refine mjr_iload_n (x := l3) D_52_14 rfl ?_
    refine mjr_iload_n (x := l2) D_52_15 rfl ?_
    refine mjq_icmp_le (tgt := 32) D_52_16 rfl h (fun h => ?_) (fun h => ?_)
    · exact mjG.fg (lo' := [none, none, some (.int l2), some (.int l3), none]) (And.intro rfl (And.intro rfl True.intro)) ((t_52_32 hR h1 h2) _ _ _ _ h)
    · refine mjr_aload_n (x := l0) D_52_19 rfl ?_
      refine mjr_iload_n (x := l3) D_52_20 rfl ?_
      refine mjq_ic (v := (0 : Int32)) D_52_21 rfl ?_
      refine mjq_vI (As := [.int l3, .int (0 : Int32)]) (rest := []) D_52_22 mr_3_32 V_49 rfl rfl rfl hR (Nat.le_refl _) h1 h2 h (fun v2 hp3 h => ?_)
      refine mjq_istore_n (lo' := [some (.ref l0), none, some (.int l2), some (.int v2), some (.int l4)]) D_52_25 (Nat.le_of_ble_eq_true rfl) rfl ?_
      refine mjq_iinc (x := l4) (c := (1 : Int32)) (lo' := [some (.ref l0), none, some (.int l2), some (.int v2), some (.int (l4 + (1 : Int32)))]) D_52_26 rfl (Nat.le_of_ble_eq_true rfl) rfl rfl ?_
      refine mjr_goto (tgt := 5) D_52_29 rfl ?_
      exact hk5 _ _ _ _ _ _ h
noncomputable def L_52_5 (R : mjR) (n : Nat) : Nat → Int32 → Int32 → Int32 → mjH → mjU := Nat.rec (motive := fun _ => Nat → Int32 → Int32 → Int32 → mjH → mjU) (fun _ _ _ _ _ => none) (fun _ self => b_52_5 R self) n
theorem T_52_5 {X : mjX} {d C S kc ks : Nat} {R : mjR} (hR : mjC R d) (h1 : kc ≤ C) (h2 : ks ≤ S) (n : Nat) : P_52_5 X (d + 1) C S kc ks (L_52_5 R n) := by
  induction n with
  | zero => intro _ _ _ _ _ _ h; exact mj_no h
  | succ n ih => exact t_52_5 hR h1 h2 ih
noncomputable def b_52_0 (R : mjR) (l0 : Nat) (l1 : Int32) (l2 : Int32) (hp : mjH) : mjU := L_52_5 R mjN l0 l2 l1 (0 : Int32) hp
theorem t_52_0 {X : mjX} {d C S kc ks : Nat} {R : mjR} (hR : mjC R d) (h1 : kc ≤ C) (h2 : ks ≤ S) : P_52_0 X (d + 1) C S kc ks (b_52_0 R) := by
  intro l0 l1 l2 hp q h
  unfold b_52_0 at h
  refine mjr_iload_n (x := l1) D_52_0 rfl ?_
  refine mjq_istore_n (lo' := [some (.ref l0), some (.int l1), some (.int l2), some (.int l1), none]) D_52_1 (Nat.le_of_ble_eq_true rfl) rfl ?_
  refine mjq_ic (v := (0 : Int32)) D_52_2 rfl ?_
  refine mjq_istore (lo' := [some (.ref l0), some (.int l1), some (.int l2), some (.int l1), some (.int (0 : Int32))]) D_52_3 (Nat.le_of_ble_eq_true rfl) rfl ?_
  exact mjG.fg (lo' := [some (.ref l0), none, some (.int l2), some (.int l1), some (.int (0 : Int32))]) (And.intro rfl (And.intro rfl (And.intro rfl (And.intro rfl True.intro)))) ((T_52_5 hR h1 h2 mjN) _ _ _ _ _ _ h)
noncomputable def f_52 (R : mjR) (a0 : Nat) (a1 : Int32) (a2 : Int32) (hp : mjH) : mjU := b_52_0 R a0 a1 a2 hp
theorem c_52 {R : mjR} {d : Nat} (hR : mjC R d) {a0 : Nat} {a1 : Int32} {a2 : Int32} {hp : mjH} {q : Option Value × mjH} (h : f_52 R a0 a1 a2 hp = some q) : mjM (d + 1) 0 0 52 [.ref a0, .int a1, .int a2] hp (mjEq q) :=
  mjM_of Ja_52 (Nat.le_of_ble_eq_true rfl) (mjG.fg (lo' := [some (.ref a0), some (.int a1), some (.int a2), none, none]) (And.intro rfl (And.intro rfl (And.intro rfl True.intro))) ((t_52_0 hR (Nat.le_refl 0) (Nat.le_refl 0)) a0 a1 a2 hp q h))
def J_54 : mjI := (⟨"OwnerHeap$Judge", "judgeHeads", "(LOwnerHeap$Program;Z)V"⟩, 4, prog_6_method_2_code, 3, none, 2, false)
theorem Ja_54 : mjMt 54 = some J_54 := by rfl
theorem D_54_0 : decode J_54.2.2.1 0 = .ok (.aload_n 0, 1) := dzq_42 (by decide +kernel)
theorem D_54_1 : decode J_54.2.2.1 1 = .ok (.aload_n 1, 1) := dzq_43 (by decide +kernel)
theorem D_54_2 : decode J_54.2.2.1 2 = .ok (.putfield 19, 3) := dzq_181 (by decide +kernel)
theorem D_54_5 : decode J_54.2.2.1 5 = .ok (.aload_n 0, 1) := dzq_42 (by decide +kernel)
theorem D_54_6 : decode J_54.2.2.1 6 = .ok (.aload_n 1, 1) := dzq_43 (by decide +kernel)
theorem D_54_7 : decode J_54.2.2.1 7 = .ok (.getfield 23, 3) := dzq_180 (by decide +kernel)
theorem D_54_10 : decode J_54.2.2.1 10 = .ok (.putfield 29, 3) := dzq_181 (by decide +kernel)
theorem D_54_13 : decode J_54.2.2.1 13 = .ok (.aload_n 0, 1) := dzq_42 (by decide +kernel)
theorem D_54_14 : decode J_54.2.2.1 14 = .ok (.iload_n 2, 1) := dzq_28 (by decide +kernel)
theorem D_54_15 : decode J_54.2.2.1 15 = .ok (.putfield 42, 3) := dzq_181 (by decide +kernel)
theorem D_54_18 : decode J_54.2.2.1 18 = .ok (.aload_n 0, 1) := dzq_42 (by decide +kernel)
theorem D_54_19 : decode J_54.2.2.1 19 = .ok (.invokevirtual 46, 3) := dzq_182 (by decide +kernel)
theorem D_54_22 : decode J_54.2.2.1 22 = .ok (.aload_n 0, 1) := dzq_42 (by decide +kernel)
theorem D_54_23 : decode J_54.2.2.1 23 = .ok (.invokevirtual 49, 3) := dzq_182 (by decide +kernel)
theorem D_54_26 : decode J_54.2.2.1 26 = .ok (.aload_n 0, 1) := dzq_42 (by decide +kernel)
theorem D_54_27 : decode J_54.2.2.1 27 = .ok (.invokevirtual 52, 3) := dzq_182 (by decide +kernel)
theorem D_54_30 : decode J_54.2.2.1 30 = .ok (.aload_n 0, 1) := dzq_42 (by decide +kernel)
theorem D_54_31 : decode J_54.2.2.1 31 = .ok (.invokevirtual 55, 3) := dzq_182 (by decide +kernel)
theorem D_54_34 : decode J_54.2.2.1 34 = .ok (.aload_n 0, 1) := dzq_42 (by decide +kernel)
theorem D_54_35 : decode J_54.2.2.1 35 = .ok (.getfield 9, 3) := dzq_180 (by decide +kernel)
theorem D_54_38 : decode J_54.2.2.1 38 = .ok (.invokevirtual 58, 3) := dzq_182 (by decide +kernel)
theorem D_54_41 : decode J_54.2.2.1 41 = .ok (.ifCond .eq 24, 3) := dzq_153 (by decide +kernel)
theorem D_54_44 : decode J_54.2.2.1 44 = .ok (.aload_n 0, 1) := dzq_42 (by decide +kernel)
theorem D_54_45 : decode J_54.2.2.1 45 = .ok (.getfield 19, 3) := dzq_180 (by decide +kernel)
theorem D_54_48 : decode J_54.2.2.1 48 = .ok (.invokevirtual 64, 3) := dzq_182 (by decide +kernel)
theorem D_54_51 : decode J_54.2.2.1 51 = .ok (.aload_n 0, 1) := dzq_42 (by decide +kernel)
theorem D_54_52 : decode J_54.2.2.1 52 = .ok (.getfield 19, 3) := dzq_180 (by decide +kernel)
theorem D_54_55 : decode J_54.2.2.1 55 = .ok (.invokevirtual 67, 3) := dzq_182 (by decide +kernel)
theorem D_54_58 : decode J_54.2.2.1 58 = .ok (.aload_n 0, 1) := dzq_42 (by decide +kernel)
theorem D_54_59 : decode J_54.2.2.1 59 = .ok (.getfield 19, 3) := dzq_180 (by decide +kernel)
theorem D_54_62 : decode J_54.2.2.1 62 = .ok (.invokevirtual 70, 3) := dzq_182 (by decide +kernel)
theorem D_54_65 : decode J_54.2.2.1 65 = .ok (.aload_n 0, 1) := dzq_42 (by decide +kernel)
theorem D_54_66 : decode J_54.2.2.1 66 = .ok (.invokevirtual 73, 3) := dzq_182 (by decide +kernel)
theorem D_54_69 : decode J_54.2.2.1 69 = .ok (.aload_n 0, 1) := dzq_42 (by decide +kernel)
theorem D_54_70 : decode J_54.2.2.1 70 = .ok (.invokevirtual 76, 3) := dzq_182 (by decide +kernel)
theorem D_54_73 : decode J_54.2.2.1 73 = .ok (.aload_n 0, 1) := dzq_42 (by decide +kernel)
theorem D_54_74 : decode J_54.2.2.1 74 = .ok (.getfield 9, 3) := dzq_180 (by decide +kernel)
theorem D_54_77 : decode J_54.2.2.1 77 = .ok (.invokevirtual 58, 3) := dzq_182 (by decide +kernel)
theorem D_54_80 : decode J_54.2.2.1 80 = .ok (.ifCond .eq 10, 3) := dzq_153 (by decide +kernel)
theorem D_54_83 : decode J_54.2.2.1 83 = .ok (.aload_n 0, 1) := dzq_42 (by decide +kernel)
theorem D_54_84 : decode J_54.2.2.1 84 = .ok (.getfield 19, 3) := dzq_180 (by decide +kernel)
theorem D_54_87 : decode J_54.2.2.1 87 = .ok (.invokevirtual 79, 3) := dzq_182 (by decide +kernel)
theorem D_54_90 : decode J_54.2.2.1 90 = .ok (.return_, 1) := dzq_177 (by decide +kernel)
def P_54_65 (X : mjX) (d C S kc ks : Nat) (k : Nat → mjH → mjU) : Prop := ∀ (l0 : Nat) (hp : mjH) (q : Option Value × mjH), k l0 hp = some q → mjG X d C S J_54 (mjEq q) 65 [some (.ref l0), none, none] [] hp kc ks
def P_54_0 (X : mjX) (d C S kc ks : Nat) (k : Nat → Nat → Int32 → mjH → mjU) : Prop := ∀ (l0 : Nat) (l1 : Nat) (l2 : Int32) (hp : mjH) (q : Option Value × mjH), k l0 l1 l2 hp = some q → mjG X d C S J_54 (mjEq q) 0 [some (.ref l0), some (.ref l1), some (.int l2)] [] hp kc ks
noncomputable def b_54_65 (R : mjR) (l0 : Nat) (hp : mjH) : mjU := rV hp l0 4 (bN (R 66 [.ref l0] hp) (fun  hp1 => rV hp1 l0 4 (bN (R 70 [.ref l0] hp1) (fun  hp2 => gR hp2 l0 4 0 (fun v3 => rV hp2 v3 9 (bI (R 172 [.ref v3] hp2) (fun v4 hp5 => (if v4 = 0 then some (none, hp5) else gR hp5 l0 4 2 (fun v6 => rV hp5 v6 7 (bN (R 120 [.ref v6] hp5) (fun  hp7 => some (none, hp7))))))))))))
theorem t_54_65 {X : mjX} {d C S kc ks : Nat} {R : mjR} (hR : mjC R d) (h1 : kc ≤ C) (h2 : ks ≤ S) : P_54_65 X (d + 1) C S kc ks (b_54_65 R) := by
  intro l0 hp q h
  unfold b_54_65 at h
  refine mjr_aload_n (x := l0) D_54_65 rfl ?_
  refine mjq_vN (As := []) (rest := []) D_54_66 mr_4_73 V_66 rfl rfl rfl hR (Nat.le_refl _) h1 h2 h (fun  hp1 h => ?_)
  refine mjr_aload_n (x := l0) D_54_69 rfl ?_
  refine mjq_vN (As := []) (rest := []) D_54_70 mr_4_76 V_70 rfl rfl rfl hR (Nat.le_refl _) h1 h2 h (fun  hp2 h => ?_)
  refine mjr_aload_n (x := l0) D_54_73 rfl ?_
  refine mjq_gR D_54_74 fr_4_9 h (fun v3 h => ?_)
  refine mjq_vI (As := []) (rest := []) D_54_77 mr_4_58 V_172 rfl rfl rfl hR (Nat.le_refl _) h1 h2 h (fun v4 hp5 h => ?_)
  refine mjq_if_eq (tgt := 90) D_54_80 rfl h (fun h => ?_) (fun h => ?_)
  · exact mjq_nret D_54_90 rfl h1 h2 h
  · refine mjr_aload_n (x := l0) D_54_83 rfl ?_
    refine mjq_gR D_54_84 fr_4_19 h (fun v6 h => ?_)
    refine mjq_vN (As := []) (rest := []) D_54_87 mr_4_79 V_120 rfl rfl rfl hR (Nat.le_refl _) h1 h2 h (fun  hp7 h => ?_)
    exact mjq_nret D_54_90 rfl h1 h2 h
noncomputable def b_54_0 (R : mjR) (l0 : Nat) (l1 : Nat) (l2 : Int32) (hp : mjH) : mjU := pR hp l0 4 2 l1 (fun hp1 => gR hp1 l1 7 14 (fun v2 => pR hp1 l0 4 3 v2 (fun hp3 => pZ hp3 l0 4 4 l2 (fun hp4 => rV hp4 l0 4 (bN (R 55 [.ref l0] hp4) (fun  hp5 => rV hp5 l0 4 (bN (R 59 [.ref l0] hp5) (fun  hp6 => rV hp6 l0 4 (bN (R 63 [.ref l0] hp6) (fun  hp7 => rV hp7 l0 4 (bN (R 64 [.ref l0] hp7) (fun  hp8 => gR hp8 l0 4 0 (fun v9 => rV hp8 v9 9 (bI (R 172 [.ref v9] hp8) (fun v10 hp11 => (if v10 = 0 then b_54_65 R l0 hp11 else gR hp11 l0 4 2 (fun v12 => rV hp11 v12 7 (bN (R 110 [.ref v12] hp11) (fun  hp13 => gR hp13 l0 4 2 (fun v14 => rV hp13 v14 7 (bN (R 113 [.ref v14] hp13) (fun  hp15 => gR hp15 l0 4 2 (fun v16 => rV hp15 v16 7 (bN (R 115 [.ref v16] hp15) (fun  hp17 => b_54_65 R l0 hp17)))))))))))))))))))))))))
theorem t_54_0 {X : mjX} {d C S kc ks : Nat} {R : mjR} (hR : mjC R d) (h1 : kc ≤ C) (h2 : ks ≤ S) : P_54_0 X (d + 1) C S kc ks (b_54_0 R) := by
  intro l0 l1 l2 hp q h
  unfold b_54_0 at h
  refine mjr_aload_n (x := l0) D_54_0 rfl ?_
  refine mjr_aload_n (x := l1) D_54_1 rfl ?_
  refine mjq_pR D_54_2 fr_4_19 rfl (fun _ => ⟨rfl, rfl⟩) h (fun hp1 h => ?_)
  refine mjr_aload_n (x := l0) D_54_5 rfl ?_
  refine mjr_aload_n (x := l1) D_54_6 rfl ?_
  refine mjq_gR D_54_7 fr_4_23 h (fun v2 h => ?_)
  refine mjq_pR D_54_10 fr_4_29 rfl (fun _ => ⟨rfl, rfl⟩) h (fun hp3 h => ?_)
  refine mjr_aload_n (x := l0) D_54_13 rfl ?_
  refine mjr_iload_n (x := l2) D_54_14 rfl ?_
  refine mjq_pZ D_54_15 fr_4_42 rfl rfl h (fun hp4 h => ?_)
  refine mjr_aload_n (x := l0) D_54_18 rfl ?_
  refine mjq_vN (As := []) (rest := []) D_54_19 mr_4_46 V_55 rfl rfl rfl hR (Nat.le_refl _) h1 h2 h (fun  hp5 h => ?_)
  refine mjr_aload_n (x := l0) D_54_22 rfl ?_
  refine mjq_vN (As := []) (rest := []) D_54_23 mr_4_49 V_59 rfl rfl rfl hR (Nat.le_refl _) h1 h2 h (fun  hp6 h => ?_)
  refine mjr_aload_n (x := l0) D_54_26 rfl ?_
  refine mjq_vN (As := []) (rest := []) D_54_27 mr_4_52 V_63 rfl rfl rfl hR (Nat.le_refl _) h1 h2 h (fun  hp7 h => ?_)
  refine mjr_aload_n (x := l0) D_54_30 rfl ?_
  refine mjq_vN (As := []) (rest := []) D_54_31 mr_4_55 V_64 rfl rfl rfl hR (Nat.le_refl _) h1 h2 h (fun  hp8 h => ?_)
  refine mjr_aload_n (x := l0) D_54_34 rfl ?_
  refine mjq_gR D_54_35 fr_4_9 h (fun v9 h => ?_)
  refine mjq_vI (As := []) (rest := []) D_54_38 mr_4_58 V_172 rfl rfl rfl hR (Nat.le_refl _) h1 h2 h (fun v10 hp11 h => ?_)
  refine mjq_if_eq (tgt := 65) D_54_41 rfl h (fun h => ?_) (fun h => ?_)
  · exact mjG.fg (lo' := [some (.ref l0), none, none]) (And.intro rfl True.intro) ((t_54_65 hR h1 h2) _ _ _ h)
  · refine mjr_aload_n (x := l0) D_54_44 rfl ?_
    refine mjq_gR D_54_45 fr_4_19 h (fun v12 h => ?_)
    refine mjq_vN (As := []) (rest := []) D_54_48 mr_4_64 V_110 rfl rfl rfl hR (Nat.le_refl _) h1 h2 h (fun  hp13 h => ?_)
    refine mjr_aload_n (x := l0) D_54_51 rfl ?_
    refine mjq_gR D_54_52 fr_4_19 h (fun v14 h => ?_)
    refine mjq_vN (As := []) (rest := []) D_54_55 mr_4_67 V_113 rfl rfl rfl hR (Nat.le_refl _) h1 h2 h (fun  hp15 h => ?_)
    refine mjr_aload_n (x := l0) D_54_58 rfl ?_
    refine mjq_gR D_54_59 fr_4_19 h (fun v16 h => ?_)
    refine mjq_vN (As := []) (rest := []) D_54_62 mr_4_70 V_115 rfl rfl rfl hR (Nat.le_refl _) h1 h2 h (fun  hp17 h => ?_)
    exact mjG.fg (lo' := [some (.ref l0), none, none]) (And.intro rfl True.intro) ((t_54_65 hR h1 h2) _ _ _ h)
noncomputable def f_54 (R : mjR) (a0 : Nat) (a1 : Nat) (a2 : Int32) (hp : mjH) : mjU := b_54_0 R a0 a1 a2 hp
theorem c_54 {R : mjR} {d : Nat} (hR : mjC R d) {a0 : Nat} {a1 : Nat} {a2 : Int32} {hp : mjH} {q : Option Value × mjH} (h : f_54 R a0 a1 a2 hp = some q) : mjM (d + 1) 0 0 54 [.ref a0, .ref a1, .int a2] hp (mjEq q) :=
  mjM_of Ja_54 (Nat.le_of_ble_eq_true rfl) (mjG.fg (lo' := [some (.ref a0), some (.ref a1), some (.int a2)]) (And.intro rfl (And.intro rfl (And.intro rfl True.intro))) ((t_54_0 hR (Nat.le_refl 0) (Nat.le_refl 0)) a0 a1 a2 hp q h))
def J_55 : mjI := (⟨"OwnerHeap$Judge", "judgeNames", "()V"⟩, 4, prog_6_method_3_code, 3, none, 0, false)
theorem Ja_55 : mjMt 55 = some J_55 := by rfl
theorem D_55_0 : decode J_55.2.2.1 0 = .ok (.iconst 0, 1) := dzq_3 (by decide +kernel)
theorem D_55_1 : decode J_55.2.2.1 1 = .ok (.istore_n 1, 1) := dzq_60 (by decide +kernel)
theorem D_55_2 : decode J_55.2.2.1 2 = .ok (.iload_n 1, 1) := dzq_27 (by decide +kernel)
theorem D_55_3 : decode J_55.2.2.1 3 = .ok (.aload_n 0, 1) := dzq_42 (by decide +kernel)
theorem D_55_4 : decode J_55.2.2.1 4 = .ok (.getfield 19, 3) := dzq_180 (by decide +kernel)
theorem D_55_7 : decode J_55.2.2.1 7 = .ok (.getfield 82, 3) := dzq_180 (by decide +kernel)
theorem D_55_10 : decode J_55.2.2.1 10 = .ok (.if_icmp .ge 72, 3) := dzq_162 (by decide +kernel)
theorem D_55_13 : decode J_55.2.2.1 13 = .ok (.aload_n 0, 1) := dzq_42 (by decide +kernel)
theorem D_55_14 : decode J_55.2.2.1 14 = .ok (.getfield 9, 3) := dzq_180 (by decide +kernel)
theorem D_55_17 : decode J_55.2.2.1 17 = .ok (.invokevirtual 58, 3) := dzq_182 (by decide +kernel)
theorem D_55_20 : decode J_55.2.2.1 20 = .ok (.ifCond .eq 62, 3) := dzq_153 (by decide +kernel)
theorem D_55_23 : decode J_55.2.2.1 23 = .ok (.aload_n 0, 1) := dzq_42 (by decide +kernel)
theorem D_55_24 : decode J_55.2.2.1 24 = .ok (.getfield 15, 3) := dzq_180 (by decide +kernel)
theorem D_55_27 : decode J_55.2.2.1 27 = .ok (.getfield 86, 3) := dzq_180 (by decide +kernel)
theorem D_55_30 : decode J_55.2.2.1 30 = .ok (.iload_n 1, 1) := dzq_27 (by decide +kernel)
theorem D_55_31 : decode J_55.2.2.1 31 = .ok (.iaload, 1) := dzq_46 (by decide +kernel)
theorem D_55_32 : decode J_55.2.2.1 32 = .ok (.istore_n 2, 1) := dzq_61 (by decide +kernel)
theorem D_55_33 : decode J_55.2.2.1 33 = .ok (.aload_n 0, 1) := dzq_42 (by decide +kernel)
theorem D_55_34 : decode J_55.2.2.1 34 = .ok (.getfield 30, 3) := dzq_180 (by decide +kernel)
theorem D_55_37 : decode J_55.2.2.1 37 = .ok (.iload_n 1, 1) := dzq_27 (by decide +kernel)
theorem D_55_38 : decode J_55.2.2.1 38 = .ok (.aload_n 0, 1) := dzq_42 (by decide +kernel)
theorem D_55_39 : decode J_55.2.2.1 39 = .ok (.getfield 9, 3) := dzq_180 (by decide +kernel)
theorem D_55_42 : decode J_55.2.2.1 42 = .ok (.iload_n 2, 1) := dzq_28 (by decide +kernel)
theorem D_55_43 : decode J_55.2.2.1 43 = .ok (.invokevirtual 92, 3) := dzq_182 (by decide +kernel)
theorem D_55_46 : decode J_55.2.2.1 46 = .ok (.lastore, 1) := by decide +kernel
theorem D_55_47 : decode J_55.2.2.1 47 = .ok (.aload_n 0, 1) := dzq_42 (by decide +kernel)
theorem D_55_48 : decode J_55.2.2.1 48 = .ok (.aload_n 0, 1) := dzq_42 (by decide +kernel)
theorem D_55_49 : decode J_55.2.2.1 49 = .ok (.getfield 30, 3) := dzq_180 (by decide +kernel)
theorem D_55_52 : decode J_55.2.2.1 52 = .ok (.iload_n 1, 1) := dzq_27 (by decide +kernel)
theorem D_55_53 : decode J_55.2.2.1 53 = .ok (.laload, 1) := dzq_47 (by decide +kernel)
theorem D_55_54 : decode J_55.2.2.1 54 = .ok (.invokevirtual 96, 3) := dzq_182 (by decide +kernel)
theorem D_55_57 : decode J_55.2.2.1 57 = .ok (.iload_n 1, 1) := dzq_27 (by decide +kernel)
theorem D_55_58 : decode J_55.2.2.1 58 = .ok (.if_icmp .ge 12, 3) := dzq_162 (by decide +kernel)
theorem D_55_61 : decode J_55.2.2.1 61 = .ok (.aload_n 0, 1) := dzq_42 (by decide +kernel)
theorem D_55_62 : decode J_55.2.2.1 62 = .ok (.getfield 9, 3) := dzq_180 (by decide +kernel)
theorem D_55_65 : decode J_55.2.2.1 65 = .ok (.iconst 4, 1) := dzq_7 (by decide +kernel)
theorem D_55_66 : decode J_55.2.2.1 66 = .ok (.iload_n 2, 1) := dzq_28 (by decide +kernel)
theorem D_55_67 : decode J_55.2.2.1 67 = .ok (.invokevirtual 100, 3) := dzq_182 (by decide +kernel)
theorem D_55_70 : decode J_55.2.2.1 70 = .ok (.aload_n 0, 1) := dzq_42 (by decide +kernel)
theorem D_55_71 : decode J_55.2.2.1 71 = .ok (.iload_n 1, 1) := dzq_27 (by decide +kernel)
theorem D_55_72 : decode J_55.2.2.1 72 = .ok (.iload_n 2, 1) := dzq_28 (by decide +kernel)
theorem D_55_73 : decode J_55.2.2.1 73 = .ok (.invokevirtual 104, 3) := dzq_182 (by decide +kernel)
theorem D_55_76 : decode J_55.2.2.1 76 = .ok (.iinc 1 1, 3) := dzq_132 (by decide +kernel)
theorem D_55_79 : decode J_55.2.2.1 79 = .ok (.goto (-77), 3) := dzq_167 (by decide +kernel)
theorem D_55_82 : decode J_55.2.2.1 82 = .ok (.return_, 1) := dzq_177 (by decide +kernel)
def P_55_70 (X : mjX) (d C S kc ks : Nat) (k : Nat → Int32 → Int32 → mjH → mjU) : Prop := ∀ (l0 : Nat) (l1 : Int32) (l2 : Int32) (hp : mjH) (q : Option Value × mjH), k l0 l1 l2 hp = some q → mjG X d C S J_55 (mjEq q) 70 [some (.ref l0), some (.int l1), some (.int l2)] [] hp kc ks
def P_55_2 (X : mjX) (d C S kc ks : Nat) (k : Nat → Int32 → mjH → mjU) : Prop := ∀ (l0 : Nat) (l1 : Int32) (hp : mjH) (q : Option Value × mjH), k l0 l1 hp = some q → mjG X d C S J_55 (mjEq q) 2 [some (.ref l0), some (.int l1), none] [] hp kc ks
def P_55_0 (X : mjX) (d C S kc ks : Nat) (k : Nat → mjH → mjU) : Prop := ∀ (l0 : Nat) (hp : mjH) (q : Option Value × mjH), k l0 hp = some q → mjG X d C S J_55 (mjEq q) 0 [some (.ref l0), none, none] [] hp kc ks
noncomputable def b_55_70 (R : mjR) (k2 : Nat → Int32 → mjH → mjU) (l0 : Nat) (l1 : Int32) (l2 : Int32) (hp : mjH) : mjU := rV hp l0 4 (bN (R 57 [.ref l0, .int l1, .int l2] hp) (fun  hp1 => k2 l0 (l1 + (1 : Int32)) hp1))
theorem t_55_70 {X : mjX} {d C S kc ks : Nat} {R : mjR} (hR : mjC R d) (h1 : kc ≤ C) (h2 : ks ≤ S) {k2 : Nat → Int32 → mjH → mjU} (hk2 : P_55_2 X (d + 1) C S kc ks k2) : P_55_70 X (d + 1) C S kc ks (b_55_70 R k2) := by
  intro l0 l1 l2 hp q h
  unfold b_55_70 at h
  refine mjr_aload_n (x := l0) D_55_70 rfl ?_
  refine mjr_iload_n (x := l1) D_55_71 rfl ?_
  refine mjr_iload_n (x := l2) D_55_72 rfl ?_
  refine mjq_vN (As := [.int l1, .int l2]) (rest := []) D_55_73 mr_4_104 V_57 rfl rfl rfl hR (Nat.le_refl _) h1 h2 h (fun  hp1 h => ?_)
  refine mjq_iinc (x := l1) (c := (1 : Int32)) (lo' := [some (.ref l0), some (.int (l1 + (1 : Int32))), some (.int l2)]) D_55_76 rfl (Nat.le_of_ble_eq_true rfl) rfl rfl ?_
  refine mjr_goto (tgt := 2) D_55_79 rfl ?_
  exact mjG.fg (lo' := [some (.ref l0), some (.int (l1 + (1 : Int32))), none]) (And.intro rfl (And.intro rfl True.intro)) (hk2 _ _ _ _ h)
noncomputable def b_55_2 (R : mjR) (k2 : Nat → Int32 → mjH → mjU) (l0 : Nat) (l1 : Int32) (hp : mjH) : mjU := gR hp l0 4 2 (fun v1 => gI hp v1 7 0 (fun v2 => (if v2 ≤ l1 then some (none, hp) else gR hp l0 4 0 (fun v3 => rV hp v3 9 (bI (R 172 [.ref v3] hp) (fun v4 hp5 => (if v4 = 0 then some (none, hp5) else gR hp5 l0 4 1 (fun v6 => gR hp5 v6 8 3 (fun v7 => aI hp5 v7 l1 (fun v8 => gR hp5 l0 4 5 (fun v9 => gR hp5 l0 4 0 (fun v10 => rV hp5 v10 9 (bL (R 170 [.ref v10, .int v8] hp5) (fun v11 hp12 => sL hp12 v9 l1 v11 (fun hp13 => gR hp13 l0 4 5 (fun v14 => aL hp13 v14 l1 (fun v15 => rV hp13 l0 4 (bI (R 56 [.ref l0, .long v15] hp13) (fun v16 hp17 => (if l1 ≤ v16 then b_55_70 R k2 l0 l1 v8 hp17 else gR hp17 l0 4 0 (fun v18 => rV hp17 v18 9 (bN (R 178 [.ref v18, .int (4 : Int32), .int v8] hp17) (fun  hp19 => b_55_70 R k2 l0 l1 v8 hp19)))))))))))))))))))))))
theorem t_55_2 {X : mjX} {d C S kc ks : Nat} {R : mjR} (hR : mjC R d) (h1 : kc ≤ C) (h2 : ks ≤ S) {k2 : Nat → Int32 → mjH → mjU} (hk2 : P_55_2 X (d + 1) C S kc ks k2) : P_55_2 X (d + 1) C S kc ks (b_55_2 R k2) := by
  intro l0 l1 hp q h
  unfold b_55_2 at h
  refine mjr_iload_n (x := l1) D_55_2 rfl ?_
  refine mjr_aload_n (x := l0) D_55_3 rfl ?_
  refine mjq_gR D_55_4 fr_4_19 h (fun v1 h => ?_)
  refine mjq_gI D_55_7 fr_4_82 h (fun v2 h => ?_)
  refine mjq_icmp_ge (tgt := 82) D_55_10 rfl h (fun h => ?_) (fun h => ?_)
  · exact mjq_nret D_55_82 rfl h1 h2 h
  · refine mjr_aload_n (x := l0) D_55_13 rfl ?_
    refine mjq_gR D_55_14 fr_4_9 h (fun v3 h => ?_)
    refine mjq_vI (As := []) (rest := []) D_55_17 mr_4_58 V_172 rfl rfl rfl hR (Nat.le_refl _) h1 h2 h (fun v4 hp5 h => ?_)
    refine mjq_if_eq (tgt := 82) D_55_20 rfl h (fun h => ?_) (fun h => ?_)
    · exact mjq_nret D_55_82 rfl h1 h2 h
    · refine mjr_aload_n (x := l0) D_55_23 rfl ?_
      refine mjq_gR D_55_24 fr_4_15 h (fun v6 h => ?_)
      refine mjq_gR D_55_27 fr_4_86 h (fun v7 h => ?_)
      refine mjr_iload_n (x := l1) D_55_30 rfl ?_
      refine mjq_aI D_55_31 h (fun v8 h => ?_)
      refine mjq_istore_n (lo' := [some (.ref l0), some (.int l1), some (.int v8)]) D_55_32 (Nat.le_of_ble_eq_true rfl) rfl ?_
      refine mjr_aload_n (x := l0) D_55_33 rfl ?_
      refine mjq_gR D_55_34 fr_4_30 h (fun v9 h => ?_)
      refine mjr_iload_n (x := l1) D_55_37 rfl ?_
      refine mjr_aload_n (x := l0) D_55_38 rfl ?_
      refine mjq_gR D_55_39 fr_4_9 h (fun v10 h => ?_)
      refine mjr_iload_n (x := v8) D_55_42 rfl ?_
      refine mjq_vL (As := [.int v8]) (rest := [.int l1, .ref v9]) D_55_43 mr_4_92 V_170 rfl rfl rfl hR (Nat.le_refl _) h1 h2 h (fun v11 hp12 h => ?_)
      refine mjq_sL D_55_46 h (fun hp13 h => ?_)
      refine mjr_aload_n (x := l0) D_55_47 rfl ?_
      refine mjr_aload_n (x := l0) D_55_48 rfl ?_
      refine mjq_gR D_55_49 fr_4_30 h (fun v14 h => ?_)
      refine mjr_iload_n (x := l1) D_55_52 rfl ?_
      refine mjq_aL D_55_53 h (fun v15 h => ?_)
      refine mjq_vI (As := [.long v15]) (rest := []) D_55_54 mr_4_96 V_56 rfl rfl rfl hR (Nat.le_refl _) h1 h2 h (fun v16 hp17 h => ?_)
      refine mjr_iload_n (x := l1) D_55_57 rfl ?_
      refine mjq_icmp_ge (tgt := 70) D_55_58 rfl h (fun h => ?_) (fun h => ?_)
      · exact (t_55_70 hR h1 h2 hk2) _ _ _ _ _ h
      · refine mjr_aload_n (x := l0) D_55_61 rfl ?_
        refine mjq_gR D_55_62 fr_4_9 h (fun v18 h => ?_)
        refine mjq_ic (v := (4 : Int32)) D_55_65 rfl ?_
        refine mjr_iload_n (x := v8) D_55_66 rfl ?_
        refine mjq_vN (As := [.int (4 : Int32), .int v8]) (rest := []) D_55_67 mr_4_100 V_178 rfl rfl rfl hR (Nat.le_refl _) h1 h2 h (fun  hp19 h => ?_)
        exact (t_55_70 hR h1 h2 hk2) _ _ _ _ _ h
noncomputable def L_55_2 (R : mjR) (n : Nat) : Nat → Int32 → mjH → mjU := Nat.rec (motive := fun _ => Nat → Int32 → mjH → mjU) (fun _ _ _ => none) (fun _ self => b_55_2 R self) n
theorem T_55_2 {X : mjX} {d C S kc ks : Nat} {R : mjR} (hR : mjC R d) (h1 : kc ≤ C) (h2 : ks ≤ S) (n : Nat) : P_55_2 X (d + 1) C S kc ks (L_55_2 R n) := by
  induction n with
  | zero => intro _ _ _ _ h; exact mj_no h
  | succ n ih => exact t_55_2 hR h1 h2 ih
noncomputable def b_55_0 (R : mjR) (l0 : Nat) (hp : mjH) : mjU := L_55_2 R mjN l0 (0 : Int32) hp
theorem t_55_0 {X : mjX} {d C S kc ks : Nat} {R : mjR} (hR : mjC R d) (h1 : kc ≤ C) (h2 : ks ≤ S) : P_55_0 X (d + 1) C S kc ks (b_55_0 R) := by
  intro l0 hp q h
  unfold b_55_0 at h
  refine mjq_ic (v := (0 : Int32)) D_55_0 rfl ?_
  refine mjq_istore_n (lo' := [some (.ref l0), some (.int (0 : Int32)), none]) D_55_1 (Nat.le_of_ble_eq_true rfl) rfl ?_
  exact (T_55_2 hR h1 h2 mjN) _ _ _ _ h
noncomputable def f_55 (R : mjR) (a0 : Nat) (hp : mjH) : mjU := b_55_0 R a0 hp
theorem c_55 {R : mjR} {d : Nat} (hR : mjC R d) {a0 : Nat} {hp : mjH} {q : Option Value × mjH} (h : f_55 R a0 hp = some q) : mjM (d + 1) 0 0 55 [.ref a0] hp (mjEq q) :=
  mjM_of Ja_55 (Nat.le_of_ble_eq_true rfl) (mjG.fg (lo' := [some (.ref a0), none, none]) (And.intro rfl True.intro) ((t_55_0 hR (Nat.le_refl 0) (Nat.le_refl 0)) a0 hp q h))
def J_56 : mjI := (⟨"OwnerHeap$Judge", "classNamed", "(J)I"⟩, 4, prog_6_method_5_code, 4, (some .int), 1, false)
theorem Ja_56 : mjMt 56 = some J_56 := by rfl
theorem D_56_0 : decode J_56.2.2.1 0 = .ok (.iconst 0, 1) := dzq_3 (by decide +kernel)
theorem D_56_1 : decode J_56.2.2.1 1 = .ok (.istore_n 3, 1) := dzq_62 (by decide +kernel)
theorem D_56_2 : decode J_56.2.2.1 2 = .ok (.iload_n 3, 1) := dzq_29 (by decide +kernel)
theorem D_56_3 : decode J_56.2.2.1 3 = .ok (.aload_n 0, 1) := dzq_42 (by decide +kernel)
theorem D_56_4 : decode J_56.2.2.1 4 = .ok (.getfield 19, 3) := dzq_180 (by decide +kernel)
theorem D_56_7 : decode J_56.2.2.1 7 = .ok (.getfield 82, 3) := dzq_180 (by decide +kernel)
theorem D_56_10 : decode J_56.2.2.1 10 = .ok (.if_icmp .ge 22, 3) := dzq_162 (by decide +kernel)
theorem D_56_13 : decode J_56.2.2.1 13 = .ok (.aload_n 0, 1) := dzq_42 (by decide +kernel)
theorem D_56_14 : decode J_56.2.2.1 14 = .ok (.getfield 30, 3) := dzq_180 (by decide +kernel)
theorem D_56_17 : decode J_56.2.2.1 17 = .ok (.iload_n 3, 1) := dzq_29 (by decide +kernel)
theorem D_56_18 : decode J_56.2.2.1 18 = .ok (.laload, 1) := dzq_47 (by decide +kernel)
theorem D_56_19 : decode J_56.2.2.1 19 = .ok (.lload_n 1, 1) := dzq_31 (by decide +kernel)
theorem D_56_20 : decode J_56.2.2.1 20 = .ok (.lcmp, 1) := by decide +kernel
theorem D_56_21 : decode J_56.2.2.1 21 = .ok (.ifCond .ne 5, 3) := dzq_154 (by decide +kernel)
theorem D_56_24 : decode J_56.2.2.1 24 = .ok (.iload_n 3, 1) := dzq_29 (by decide +kernel)
theorem D_56_25 : decode J_56.2.2.1 25 = .ok (.ireturn, 1) := dzq_172 (by decide +kernel)
theorem D_56_26 : decode J_56.2.2.1 26 = .ok (.iinc 3 1, 3) := dzq_132 (by decide +kernel)
theorem D_56_29 : decode J_56.2.2.1 29 = .ok (.goto (-27), 3) := dzq_167 (by decide +kernel)
theorem D_56_32 : decode J_56.2.2.1 32 = .ok (.iconst (-1), 1) := dzq_2 (by decide +kernel)
theorem D_56_33 : decode J_56.2.2.1 33 = .ok (.ireturn, 1) := dzq_172 (by decide +kernel)
def P_56_2 (X : mjX) (d C S kc ks : Nat) (k : Nat → Int64 → Int32 → mjH → mjU) : Prop := ∀ (l0 : Nat) (l1 : Int64) (l3 : Int32) (hp : mjH) (q : Option Value × mjH), k l0 l1 l3 hp = some q → mjG X d C S J_56 (mjEq q) 2 [some (.ref l0), some (.long l1), none, some (.int l3)] [] hp kc ks
def P_56_0 (X : mjX) (d C S kc ks : Nat) (k : Nat → Int64 → mjH → mjU) : Prop := ∀ (l0 : Nat) (l1 : Int64) (hp : mjH) (q : Option Value × mjH), k l0 l1 hp = some q → mjG X d C S J_56 (mjEq q) 0 [some (.ref l0), some (.long l1), none, none] [] hp kc ks
noncomputable def b_56_2 (R : mjR) (k2 : Nat → Int64 → Int32 → mjH → mjU) (l0 : Nat) (l1 : Int64) (l3 : Int32) (hp : mjH) : mjU := gR hp l0 4 2 (fun v1 => gI hp v1 7 0 (fun v2 => (if v2 ≤ l3 then some (some (.int (-1 : Int32)), hp) else gR hp l0 4 5 (fun v3 => aL hp v3 l3 (fun v4 => (if (lg_cmp v4 l1) = 0 then some (some (.int l3), hp) else k2 l0 l1 (l3 + (1 : Int32)) hp))))))
theorem t_56_2 {X : mjX} {d C S kc ks : Nat} {R : mjR} (hR : mjC R d) (h1 : kc ≤ C) (h2 : ks ≤ S) {k2 : Nat → Int64 → Int32 → mjH → mjU} (hk2 : P_56_2 X (d + 1) C S kc ks k2) : P_56_2 X (d + 1) C S kc ks (b_56_2 R k2) := by
  intro l0 l1 l3 hp q h
  unfold b_56_2 at h
  refine mjr_iload_n (x := l3) D_56_2 rfl ?_
  refine mjr_aload_n (x := l0) D_56_3 rfl ?_
  refine mjq_gR D_56_4 fr_4_19 h (fun v1 h => ?_)
  refine mjq_gI D_56_7 fr_4_82 h (fun v2 h => ?_)
  refine mjq_icmp_ge (tgt := 32) D_56_10 rfl h (fun h => ?_) (fun h => ?_)
  · refine mjq_ic (v := (-1 : Int32)) D_56_32 rfl ?_
    exact mjq_ret D_56_33 rfl h1 h2 h
  · refine mjr_aload_n (x := l0) D_56_13 rfl ?_
    refine mjq_gR D_56_14 fr_4_30 h (fun v3 h => ?_)
    refine mjr_iload_n (x := l3) D_56_17 rfl ?_
    refine mjq_aL D_56_18 h (fun v4 h => ?_)
    refine mjr_lload_n (x := l1) D_56_19 rfl ?_
    refine mjr_lcmp D_56_20 ?_
    refine mjq_if_ne (tgt := 26) D_56_21 rfl h (fun h => ?_) (fun h => ?_)
    · refine mjq_iinc (x := l3) (c := (1 : Int32)) (lo' := [some (.ref l0), some (.long l1), none, some (.int (l3 + (1 : Int32)))]) D_56_26 rfl (Nat.le_of_ble_eq_true rfl) rfl rfl ?_
      refine mjr_goto (tgt := 2) D_56_29 rfl ?_
      exact hk2 _ _ _ _ _ h
    · refine mjr_iload_n (x := l3) D_56_24 rfl ?_
      exact mjq_ret D_56_25 rfl h1 h2 h
noncomputable def L_56_2 (R : mjR) (n : Nat) : Nat → Int64 → Int32 → mjH → mjU := Nat.rec (motive := fun _ => Nat → Int64 → Int32 → mjH → mjU) (fun _ _ _ _ => none) (fun _ self => b_56_2 R self) n
theorem T_56_2 {X : mjX} {d C S kc ks : Nat} {R : mjR} (hR : mjC R d) (h1 : kc ≤ C) (h2 : ks ≤ S) (n : Nat) : P_56_2 X (d + 1) C S kc ks (L_56_2 R n) := by
  induction n with
  | zero => intro _ _ _ _ _ h; exact mj_no h
  | succ n ih => exact t_56_2 hR h1 h2 ih
noncomputable def b_56_0 (R : mjR) (l0 : Nat) (l1 : Int64) (hp : mjH) : mjU := L_56_2 R mjN l0 l1 (0 : Int32) hp
theorem t_56_0 {X : mjX} {d C S kc ks : Nat} {R : mjR} (hR : mjC R d) (h1 : kc ≤ C) (h2 : ks ≤ S) : P_56_0 X (d + 1) C S kc ks (b_56_0 R) := by
  intro l0 l1 hp q h
  unfold b_56_0 at h
  refine mjq_ic (v := (0 : Int32)) D_56_0 rfl ?_
  refine mjq_istore_n (lo' := [some (.ref l0), some (.long l1), none, some (.int (0 : Int32))]) D_56_1 (Nat.le_of_ble_eq_true rfl) rfl ?_
  exact (T_56_2 hR h1 h2 mjN) _ _ _ _ _ h
noncomputable def f_56 (R : mjR) (a0 : Nat) (a1 : Int64) (hp : mjH) : mjU := b_56_0 R a0 a1 hp
theorem c_56 {R : mjR} {d : Nat} (hR : mjC R d) {a0 : Nat} {a1 : Int64} {hp : mjH} {q : Option Value × mjH} (h : f_56 R a0 a1 hp = some q) : mjM (d + 1) 0 0 56 [.ref a0, .long a1] hp (mjEq q) :=
  mjM_of Ja_56 (Nat.le_of_ble_eq_true rfl) (mjG.fg (lo' := [some (.ref a0), some (.long a1), none, none]) (And.intro rfl (And.intro rfl True.intro)) ((t_56_0 hR (Nat.le_refl 0) (Nat.le_refl 0)) a0 a1 hp q h))
def J_57 : mjI := (⟨"OwnerHeap$Judge", "judgeNamesOf", "(II)V"⟩, 4, prog_6_method_4_code, 5, none, 2, false)
theorem Ja_57 : mjMt 57 = some J_57 := by rfl
theorem D_57_0 : decode J_57.2.2.1 0 = .ok (.iconst 0, 1) := dzq_3 (by decide +kernel)
theorem D_57_1 : decode J_57.2.2.1 1 = .ok (.istore_n 3, 1) := dzq_62 (by decide +kernel)
theorem D_57_2 : decode J_57.2.2.1 2 = .ok (.iload_n 3, 1) := dzq_29 (by decide +kernel)
theorem D_57_3 : decode J_57.2.2.1 3 = .ok (.aload_n 0, 1) := dzq_42 (by decide +kernel)
theorem D_57_4 : decode J_57.2.2.1 4 = .ok (.getfield 19, 3) := dzq_180 (by decide +kernel)
theorem D_57_7 : decode J_57.2.2.1 7 = .ok (.getfield 107, 3) := dzq_180 (by decide +kernel)
theorem D_57_10 : decode J_57.2.2.1 10 = .ok (.iload_n 1, 1) := dzq_27 (by decide +kernel)
theorem D_57_11 : decode J_57.2.2.1 11 = .ok (.iaload, 1) := dzq_46 (by decide +kernel)
theorem D_57_12 : decode J_57.2.2.1 12 = .ok (.if_icmp .ge 65, 3) := dzq_162 (by decide +kernel)
theorem D_57_15 : decode J_57.2.2.1 15 = .ok (.iload_n 2, 1) := dzq_28 (by decide +kernel)
theorem D_57_16 : decode J_57.2.2.1 16 = .ok (.iconst 2, 1) := dzq_5 (by decide +kernel)
theorem D_57_17 : decode J_57.2.2.1 17 = .ok (.iadd, 1) := dzq_96 (by decide +kernel)
theorem D_57_18 : decode J_57.2.2.1 18 = .ok (.iconst 2, 1) := dzq_5 (by decide +kernel)
theorem D_57_19 : decode J_57.2.2.1 19 = .ok (.iload_n 3, 1) := dzq_29 (by decide +kernel)
theorem D_57_20 : decode J_57.2.2.1 20 = .ok (.imul, 1) := dzq_104 (by decide +kernel)
theorem D_57_21 : decode J_57.2.2.1 21 = .ok (.iadd, 1) := dzq_96 (by decide +kernel)
theorem D_57_22 : decode J_57.2.2.1 22 = .ok (.istore 4, 2) := dzq_54 (by decide +kernel)
theorem D_57_24 : decode J_57.2.2.1 24 = .ok (.aload_n 0, 1) := dzq_42 (by decide +kernel)
theorem D_57_25 : decode J_57.2.2.1 25 = .ok (.getfield 34, 3) := dzq_180 (by decide +kernel)
theorem D_57_28 : decode J_57.2.2.1 28 = .ok (.iload_n 1, 1) := dzq_27 (by decide +kernel)
theorem D_57_29 : decode J_57.2.2.1 29 = .ok (.iconst 5, 1) := dzq_8 (by decide +kernel)
theorem D_57_30 : decode J_57.2.2.1 30 = .ok (.imul, 1) := dzq_104 (by decide +kernel)
theorem D_57_31 : decode J_57.2.2.1 31 = .ok (.iload_n 3, 1) := dzq_29 (by decide +kernel)
theorem D_57_32 : decode J_57.2.2.1 32 = .ok (.iadd, 1) := dzq_96 (by decide +kernel)
theorem D_57_33 : decode J_57.2.2.1 33 = .ok (.aload_n 0, 1) := dzq_42 (by decide +kernel)
theorem D_57_34 : decode J_57.2.2.1 34 = .ok (.getfield 9, 3) := dzq_180 (by decide +kernel)
theorem D_57_37 : decode J_57.2.2.1 37 = .ok (.iload 4, 2) := dzq_21 (by decide +kernel)
theorem D_57_39 : decode J_57.2.2.1 39 = .ok (.invokevirtual 92, 3) := dzq_182 (by decide +kernel)
theorem D_57_42 : decode J_57.2.2.1 42 = .ok (.lastore, 1) := by decide +kernel
theorem D_57_43 : decode J_57.2.2.1 43 = .ok (.aload_n 0, 1) := dzq_42 (by decide +kernel)
theorem D_57_44 : decode J_57.2.2.1 44 = .ok (.iload_n 1, 1) := dzq_27 (by decide +kernel)
theorem D_57_45 : decode J_57.2.2.1 45 = .ok (.aload_n 0, 1) := dzq_42 (by decide +kernel)
theorem D_57_46 : decode J_57.2.2.1 46 = .ok (.getfield 9, 3) := dzq_180 (by decide +kernel)
theorem D_57_49 : decode J_57.2.2.1 49 = .ok (.iload 4, 2) := dzq_21 (by decide +kernel)
theorem D_57_51 : decode J_57.2.2.1 51 = .ok (.invokevirtual 92, 3) := dzq_182 (by decide +kernel)
theorem D_57_54 : decode J_57.2.2.1 54 = .ok (.invokevirtual 110, 3) := dzq_182 (by decide +kernel)
theorem D_57_57 : decode J_57.2.2.1 57 = .ok (.iload_n 3, 1) := dzq_29 (by decide +kernel)
theorem D_57_58 : decode J_57.2.2.1 58 = .ok (.if_icmp .ge 13, 3) := dzq_162 (by decide +kernel)
theorem D_57_61 : decode J_57.2.2.1 61 = .ok (.aload_n 0, 1) := dzq_42 (by decide +kernel)
theorem D_57_62 : decode J_57.2.2.1 62 = .ok (.getfield 9, 3) := dzq_180 (by decide +kernel)
theorem D_57_65 : decode J_57.2.2.1 65 = .ok (.iconst 4, 1) := dzq_7 (by decide +kernel)
theorem D_57_66 : decode J_57.2.2.1 66 = .ok (.iload 4, 2) := dzq_21 (by decide +kernel)
theorem D_57_68 : decode J_57.2.2.1 68 = .ok (.invokevirtual 100, 3) := dzq_182 (by decide +kernel)
theorem D_57_71 : decode J_57.2.2.1 71 = .ok (.iinc 3 1, 3) := dzq_132 (by decide +kernel)
theorem D_57_74 : decode J_57.2.2.1 74 = .ok (.goto (-72), 3) := dzq_167 (by decide +kernel)
theorem D_57_77 : decode J_57.2.2.1 77 = .ok (.return_, 1) := dzq_177 (by decide +kernel)
def P_57_71 (X : mjX) (d C S kc ks : Nat) (k : Nat → Int32 → Int32 → Int32 → mjH → mjU) : Prop := ∀ (l0 : Nat) (l1 : Int32) (l2 : Int32) (l3 : Int32) (hp : mjH) (q : Option Value × mjH), k l0 l1 l2 l3 hp = some q → mjG X d C S J_57 (mjEq q) 71 [some (.ref l0), some (.int l1), some (.int l2), some (.int l3), none] [] hp kc ks
def P_57_2 (X : mjX) (d C S kc ks : Nat) (k : Nat → Int32 → Int32 → Int32 → mjH → mjU) : Prop := ∀ (l0 : Nat) (l1 : Int32) (l2 : Int32) (l3 : Int32) (hp : mjH) (q : Option Value × mjH), k l0 l1 l2 l3 hp = some q → mjG X d C S J_57 (mjEq q) 2 [some (.ref l0), some (.int l1), some (.int l2), some (.int l3), none] [] hp kc ks
def P_57_0 (X : mjX) (d C S kc ks : Nat) (k : Nat → Int32 → Int32 → mjH → mjU) : Prop := ∀ (l0 : Nat) (l1 : Int32) (l2 : Int32) (hp : mjH) (q : Option Value × mjH), k l0 l1 l2 hp = some q → mjG X d C S J_57 (mjEq q) 0 [some (.ref l0), some (.int l1), some (.int l2), none, none] [] hp kc ks
noncomputable def b_57_71 (R : mjR) (k2 : Nat → Int32 → Int32 → Int32 → mjH → mjU) (l0 : Nat) (l1 : Int32) (l2 : Int32) (l3 : Int32) (hp : mjH) : mjU := k2 l0 l1 l2 (l3 + (1 : Int32)) hp
theorem t_57_71 {X : mjX} {d C S kc ks : Nat} {R : mjR} (hR : mjC R d) (h1 : kc ≤ C) (h2 : ks ≤ S) {k2 : Nat → Int32 → Int32 → Int32 → mjH → mjU} (hk2 : P_57_2 X (d + 1) C S kc ks k2) : P_57_71 X (d + 1) C S kc ks (b_57_71 R k2) := by
  intro l0 l1 l2 l3 hp q h
  unfold b_57_71 at h
  refine mjq_iinc (x := l3) (c := (1 : Int32)) (lo' := [some (.ref l0), some (.int l1), some (.int l2), some (.int (l3 + (1 : Int32))), none]) D_57_71 rfl (Nat.le_of_ble_eq_true rfl) rfl rfl ?_
  refine mjr_goto (tgt := 2) D_57_74 rfl ?_
  exact hk2 _ _ _ _ _ _ h
noncomputable def b_57_2 (R : mjR) (k2 : Nat → Int32 → Int32 → Int32 → mjH → mjU) (l0 : Nat) (l1 : Int32) (l2 : Int32) (l3 : Int32) (hp : mjH) : mjU := gR hp l0 4 2 (fun v1 => gR hp v1 7 1 (fun v2 => aI hp v2 l1 (fun v3 => (if v3 ≤ l3 then some (none, hp) else gR hp l0 4 6 (fun v4 => gR hp l0 4 0 (fun v5 => rV hp v5 9 (bL (R 170 [.ref v5, .int ((l2 + (2 : Int32)) + ((2 : Int32) * l3))] hp) (fun v6 hp7 => sL hp7 v4 ((l1 * (5 : Int32)) + l3) v6 (fun hp8 => gR hp8 l0 4 0 (fun v9 => rV hp8 v9 9 (bL (R 170 [.ref v9, .int ((l2 + (2 : Int32)) + ((2 : Int32) * l3))] hp8) (fun v10 hp11 => rV hp11 l0 4 (bI (R 58 [.ref l0, .int l1, .long v10] hp11) (fun v12 hp13 => (if l3 ≤ v12 then b_57_71 R k2 l0 l1 l2 l3 hp13 else gR hp13 l0 4 0 (fun v14 => rV hp13 v14 9 (bN (R 178 [.ref v14, .int (4 : Int32), .int ((l2 + (2 : Int32)) + ((2 : Int32) * l3))] hp13) (fun  hp15 => b_57_71 R k2 l0 l1 l2 l3 hp15))))))))))))))))))
theorem t_57_2 {X : mjX} {d C S kc ks : Nat} {R : mjR} (hR : mjC R d) (h1 : kc ≤ C) (h2 : ks ≤ S) {k2 : Nat → Int32 → Int32 → Int32 → mjH → mjU} (hk2 : P_57_2 X (d + 1) C S kc ks k2) : P_57_2 X (d + 1) C S kc ks (b_57_2 R k2) := by
  intro l0 l1 l2 l3 hp q h
  unfold b_57_2 at h
  refine mjr_iload_n (x := l3) D_57_2 rfl ?_
  refine mjr_aload_n (x := l0) D_57_3 rfl ?_
  refine mjq_gR D_57_4 fr_4_19 h (fun v1 h => ?_)
  refine mjq_gR D_57_7 fr_4_107 h (fun v2 h => ?_)
  refine mjr_iload_n (x := l1) D_57_10 rfl ?_
  refine mjq_aI D_57_11 h (fun v3 h => ?_)
  refine mjq_icmp_ge (tgt := 77) D_57_12 rfl h (fun h => ?_) (fun h => ?_)
  · exact mjq_nret D_57_77 rfl h1 h2 h
  · refine mjr_iload_n (x := l2) D_57_15 rfl ?_
    refine mjq_ic (v := (2 : Int32)) D_57_16 rfl ?_
    refine mjr_iadd D_57_17 ?_
    refine mjq_ic (v := (2 : Int32)) D_57_18 rfl ?_
    refine mjr_iload_n (x := l3) D_57_19 rfl ?_
    refine mjr_imul D_57_20 ?_
    refine mjr_iadd D_57_21 ?_
    refine mjq_istore (lo' := [some (.ref l0), some (.int l1), some (.int l2), some (.int l3), some (.int ((l2 + (2 : Int32)) + ((2 : Int32) * l3)))]) D_57_22 (Nat.le_of_ble_eq_true rfl) rfl ?_
    refine mjr_aload_n (x := l0) D_57_24 rfl ?_
    refine mjq_gR D_57_25 fr_4_34 h (fun v4 h => ?_)
    refine mjr_iload_n (x := l1) D_57_28 rfl ?_
    refine mjq_ic (v := (5 : Int32)) D_57_29 rfl ?_
    refine mjr_imul D_57_30 ?_
    refine mjr_iload_n (x := l3) D_57_31 rfl ?_
    refine mjr_iadd D_57_32 ?_
    refine mjr_aload_n (x := l0) D_57_33 rfl ?_
    refine mjq_gR D_57_34 fr_4_9 h (fun v5 h => ?_)
    refine mjr_iload (x := ((l2 + (2 : Int32)) + ((2 : Int32) * l3))) D_57_37 rfl ?_
    refine mjq_vL (As := [.int ((l2 + (2 : Int32)) + ((2 : Int32) * l3))]) (rest := [.int ((l1 * (5 : Int32)) + l3), .ref v4]) D_57_39 mr_4_92 V_170 rfl rfl rfl hR (Nat.le_refl _) h1 h2 h (fun v6 hp7 h => ?_)
    refine mjq_sL D_57_42 h (fun hp8 h => ?_)
    refine mjr_aload_n (x := l0) D_57_43 rfl ?_
    refine mjr_iload_n (x := l1) D_57_44 rfl ?_
    refine mjr_aload_n (x := l0) D_57_45 rfl ?_
    refine mjq_gR D_57_46 fr_4_9 h (fun v9 h => ?_)
    refine mjr_iload (x := ((l2 + (2 : Int32)) + ((2 : Int32) * l3))) D_57_49 rfl ?_
    refine mjq_vL (As := [.int ((l2 + (2 : Int32)) + ((2 : Int32) * l3))]) (rest := [.int l1, .ref l0]) D_57_51 mr_4_92 V_170 rfl rfl rfl hR (Nat.le_refl _) h1 h2 h (fun v10 hp11 h => ?_)
    refine mjq_vI (As := [.int l1, .long v10]) (rest := []) D_57_54 mr_4_110 V_58 rfl rfl rfl hR (Nat.le_refl _) h1 h2 h (fun v12 hp13 h => ?_)
    refine mjr_iload_n (x := l3) D_57_57 rfl ?_
    refine mjq_icmp_ge (tgt := 71) D_57_58 rfl h (fun h => ?_) (fun h => ?_)
    · exact mjG.fg (lo' := [some (.ref l0), some (.int l1), some (.int l2), some (.int l3), none]) (And.intro rfl (And.intro rfl (And.intro rfl (And.intro rfl True.intro)))) ((t_57_71 hR h1 h2 hk2) _ _ _ _ _ _ h)
    · refine mjr_aload_n (x := l0) D_57_61 rfl ?_
      refine mjq_gR D_57_62 fr_4_9 h (fun v14 h => ?_)
      refine mjq_ic (v := (4 : Int32)) D_57_65 rfl ?_
      refine mjr_iload (x := ((l2 + (2 : Int32)) + ((2 : Int32) * l3))) D_57_66 rfl ?_
      refine mjq_vN (As := [.int (4 : Int32), .int ((l2 + (2 : Int32)) + ((2 : Int32) * l3))]) (rest := []) D_57_68 mr_4_100 V_178 rfl rfl rfl hR (Nat.le_refl _) h1 h2 h (fun  hp15 h => ?_)
      exact mjG.fg (lo' := [some (.ref l0), some (.int l1), some (.int l2), some (.int l3), none]) (And.intro rfl (And.intro rfl (And.intro rfl (And.intro rfl True.intro)))) ((t_57_71 hR h1 h2 hk2) _ _ _ _ _ _ h)
noncomputable def L_57_2 (R : mjR) (n : Nat) : Nat → Int32 → Int32 → Int32 → mjH → mjU := Nat.rec (motive := fun _ => Nat → Int32 → Int32 → Int32 → mjH → mjU) (fun _ _ _ _ _ => none) (fun _ self => b_57_2 R self) n
theorem T_57_2 {X : mjX} {d C S kc ks : Nat} {R : mjR} (hR : mjC R d) (h1 : kc ≤ C) (h2 : ks ≤ S) (n : Nat) : P_57_2 X (d + 1) C S kc ks (L_57_2 R n) := by
  induction n with
  | zero => intro _ _ _ _ _ _ h; exact mj_no h
  | succ n ih => exact t_57_2 hR h1 h2 ih
noncomputable def b_57_0 (R : mjR) (l0 : Nat) (l1 : Int32) (l2 : Int32) (hp : mjH) : mjU := L_57_2 R mjN l0 l1 l2 (0 : Int32) hp
theorem t_57_0 {X : mjX} {d C S kc ks : Nat} {R : mjR} (hR : mjC R d) (h1 : kc ≤ C) (h2 : ks ≤ S) : P_57_0 X (d + 1) C S kc ks (b_57_0 R) := by
  intro l0 l1 l2 hp q h
  unfold b_57_0 at h
  refine mjq_ic (v := (0 : Int32)) D_57_0 rfl ?_
  refine mjq_istore_n (lo' := [some (.ref l0), some (.int l1), some (.int l2), some (.int (0 : Int32)), none]) D_57_1 (Nat.le_of_ble_eq_true rfl) rfl ?_
  exact (T_57_2 hR h1 h2 mjN) _ _ _ _ _ _ h
noncomputable def f_57 (R : mjR) (a0 : Nat) (a1 : Int32) (a2 : Int32) (hp : mjH) : mjU := b_57_0 R a0 a1 a2 hp
theorem c_57 {R : mjR} {d : Nat} (hR : mjC R d) {a0 : Nat} {a1 : Int32} {a2 : Int32} {hp : mjH} {q : Option Value × mjH} (h : f_57 R a0 a1 a2 hp = some q) : mjM (d + 1) 0 0 57 [.ref a0, .int a1, .int a2] hp (mjEq q) :=
  mjM_of Ja_57 (Nat.le_of_ble_eq_true rfl) (mjG.fg (lo' := [some (.ref a0), some (.int a1), some (.int a2), none, none]) (And.intro rfl (And.intro rfl (And.intro rfl True.intro))) ((t_57_0 hR (Nat.le_refl 0) (Nat.le_refl 0)) a0 a1 a2 hp q h))
def J_58 : mjI := (⟨"OwnerHeap$Judge", "nameNumber", "(IJ)I"⟩, 4, prog_6_method_6_code, 5, (some .int), 2, false)
theorem Ja_58 : mjMt 58 = some J_58 := by rfl
theorem D_58_0 : decode J_58.2.2.1 0 = .ok (.iconst 0, 1) := dzq_3 (by decide +kernel)
theorem D_58_1 : decode J_58.2.2.1 1 = .ok (.istore 4, 2) := dzq_54 (by decide +kernel)
theorem D_58_3 : decode J_58.2.2.1 3 = .ok (.iload 4, 2) := dzq_21 (by decide +kernel)
theorem D_58_5 : decode J_58.2.2.1 5 = .ok (.aload_n 0, 1) := dzq_42 (by decide +kernel)
theorem D_58_6 : decode J_58.2.2.1 6 = .ok (.getfield 19, 3) := dzq_180 (by decide +kernel)
theorem D_58_9 : decode J_58.2.2.1 9 = .ok (.getfield 107, 3) := dzq_180 (by decide +kernel)
theorem D_58_12 : decode J_58.2.2.1 12 = .ok (.iload_n 1, 1) := dzq_27 (by decide +kernel)
theorem D_58_13 : decode J_58.2.2.1 13 = .ok (.iaload, 1) := dzq_46 (by decide +kernel)
theorem D_58_14 : decode J_58.2.2.1 14 = .ok (.if_icmp .ge 28, 3) := dzq_162 (by decide +kernel)
theorem D_58_17 : decode J_58.2.2.1 17 = .ok (.aload_n 0, 1) := dzq_42 (by decide +kernel)
theorem D_58_18 : decode J_58.2.2.1 18 = .ok (.getfield 34, 3) := dzq_180 (by decide +kernel)
theorem D_58_21 : decode J_58.2.2.1 21 = .ok (.iload_n 1, 1) := dzq_27 (by decide +kernel)
theorem D_58_22 : decode J_58.2.2.1 22 = .ok (.iconst 5, 1) := dzq_8 (by decide +kernel)
theorem D_58_23 : decode J_58.2.2.1 23 = .ok (.imul, 1) := dzq_104 (by decide +kernel)
theorem D_58_24 : decode J_58.2.2.1 24 = .ok (.iload 4, 2) := dzq_21 (by decide +kernel)
theorem D_58_26 : decode J_58.2.2.1 26 = .ok (.iadd, 1) := dzq_96 (by decide +kernel)
theorem D_58_27 : decode J_58.2.2.1 27 = .ok (.laload, 1) := dzq_47 (by decide +kernel)
theorem D_58_28 : decode J_58.2.2.1 28 = .ok (.lload_n 2, 1) := dzq_32 (by decide +kernel)
theorem D_58_29 : decode J_58.2.2.1 29 = .ok (.lcmp, 1) := by decide +kernel
theorem D_58_30 : decode J_58.2.2.1 30 = .ok (.ifCond .ne 6, 3) := dzq_154 (by decide +kernel)
theorem D_58_33 : decode J_58.2.2.1 33 = .ok (.iload 4, 2) := dzq_21 (by decide +kernel)
theorem D_58_35 : decode J_58.2.2.1 35 = .ok (.ireturn, 1) := dzq_172 (by decide +kernel)
theorem D_58_36 : decode J_58.2.2.1 36 = .ok (.iinc 4 1, 3) := dzq_132 (by decide +kernel)
theorem D_58_39 : decode J_58.2.2.1 39 = .ok (.goto (-36), 3) := dzq_167 (by decide +kernel)
theorem D_58_42 : decode J_58.2.2.1 42 = .ok (.iconst (-1), 1) := dzq_2 (by decide +kernel)
theorem D_58_43 : decode J_58.2.2.1 43 = .ok (.ireturn, 1) := dzq_172 (by decide +kernel)
def P_58_3 (X : mjX) (d C S kc ks : Nat) (k : Nat → Int32 → Int64 → Int32 → mjH → mjU) : Prop := ∀ (l0 : Nat) (l1 : Int32) (l2 : Int64) (l4 : Int32) (hp : mjH) (q : Option Value × mjH), k l0 l1 l2 l4 hp = some q → mjG X d C S J_58 (mjEq q) 3 [some (.ref l0), some (.int l1), some (.long l2), none, some (.int l4)] [] hp kc ks
def P_58_0 (X : mjX) (d C S kc ks : Nat) (k : Nat → Int32 → Int64 → mjH → mjU) : Prop := ∀ (l0 : Nat) (l1 : Int32) (l2 : Int64) (hp : mjH) (q : Option Value × mjH), k l0 l1 l2 hp = some q → mjG X d C S J_58 (mjEq q) 0 [some (.ref l0), some (.int l1), some (.long l2), none, none] [] hp kc ks
noncomputable def b_58_3 (R : mjR) (k3 : Nat → Int32 → Int64 → Int32 → mjH → mjU) (l0 : Nat) (l1 : Int32) (l2 : Int64) (l4 : Int32) (hp : mjH) : mjU := gR hp l0 4 2 (fun v1 => gR hp v1 7 1 (fun v2 => aI hp v2 l1 (fun v3 => (if v3 ≤ l4 then some (some (.int (-1 : Int32)), hp) else gR hp l0 4 6 (fun v4 => aL hp v4 ((l1 * (5 : Int32)) + l4) (fun v5 => (if (lg_cmp v5 l2) = 0 then some (some (.int l4), hp) else k3 l0 l1 l2 (l4 + (1 : Int32)) hp)))))))
theorem t_58_3 {X : mjX} {d C S kc ks : Nat} {R : mjR} (hR : mjC R d) (h1 : kc ≤ C) (h2 : ks ≤ S) {k3 : Nat → Int32 → Int64 → Int32 → mjH → mjU} (hk3 : P_58_3 X (d + 1) C S kc ks k3) : P_58_3 X (d + 1) C S kc ks (b_58_3 R k3) := by
  intro l0 l1 l2 l4 hp q h
  unfold b_58_3 at h
  refine mjr_iload (x := l4) D_58_3 rfl ?_
  refine mjr_aload_n (x := l0) D_58_5 rfl ?_
  refine mjq_gR D_58_6 fr_4_19 h (fun v1 h => ?_)
  refine mjq_gR D_58_9 fr_4_107 h (fun v2 h => ?_)
  refine mjr_iload_n (x := l1) D_58_12 rfl ?_
  refine mjq_aI D_58_13 h (fun v3 h => ?_)
  refine mjq_icmp_ge (tgt := 42) D_58_14 rfl h (fun h => ?_) (fun h => ?_)
  · refine mjq_ic (v := (-1 : Int32)) D_58_42 rfl ?_
    exact mjq_ret D_58_43 rfl h1 h2 h
  · refine mjr_aload_n (x := l0) D_58_17 rfl ?_
    refine mjq_gR D_58_18 fr_4_34 h (fun v4 h => ?_)
    refine mjr_iload_n (x := l1) D_58_21 rfl ?_
    refine mjq_ic (v := (5 : Int32)) D_58_22 rfl ?_
    refine mjr_imul D_58_23 ?_
    refine mjr_iload (x := l4) D_58_24 rfl ?_
    refine mjr_iadd D_58_26 ?_
    refine mjq_aL D_58_27 h (fun v5 h => ?_)
    refine mjr_lload_n (x := l2) D_58_28 rfl ?_
    refine mjr_lcmp D_58_29 ?_
    refine mjq_if_ne (tgt := 36) D_58_30 rfl h (fun h => ?_) (fun h => ?_)
    · refine mjq_iinc (x := l4) (c := (1 : Int32)) (lo' := [some (.ref l0), some (.int l1), some (.long l2), none, some (.int (l4 + (1 : Int32)))]) D_58_36 rfl (Nat.le_of_ble_eq_true rfl) rfl rfl ?_
      refine mjr_goto (tgt := 3) D_58_39 rfl ?_
      exact hk3 _ _ _ _ _ _ h
    · refine mjr_iload (x := l4) D_58_33 rfl ?_
      exact mjq_ret D_58_35 rfl h1 h2 h
noncomputable def L_58_3 (R : mjR) (n : Nat) : Nat → Int32 → Int64 → Int32 → mjH → mjU := Nat.rec (motive := fun _ => Nat → Int32 → Int64 → Int32 → mjH → mjU) (fun _ _ _ _ _ => none) (fun _ self => b_58_3 R self) n
theorem T_58_3 {X : mjX} {d C S kc ks : Nat} {R : mjR} (hR : mjC R d) (h1 : kc ≤ C) (h2 : ks ≤ S) (n : Nat) : P_58_3 X (d + 1) C S kc ks (L_58_3 R n) := by
  induction n with
  | zero => intro _ _ _ _ _ _ h; exact mj_no h
  | succ n ih => exact t_58_3 hR h1 h2 ih
noncomputable def b_58_0 (R : mjR) (l0 : Nat) (l1 : Int32) (l2 : Int64) (hp : mjH) : mjU := L_58_3 R mjN l0 l1 l2 (0 : Int32) hp
theorem t_58_0 {X : mjX} {d C S kc ks : Nat} {R : mjR} (hR : mjC R d) (h1 : kc ≤ C) (h2 : ks ≤ S) : P_58_0 X (d + 1) C S kc ks (b_58_0 R) := by
  intro l0 l1 l2 hp q h
  unfold b_58_0 at h
  refine mjq_ic (v := (0 : Int32)) D_58_0 rfl ?_
  refine mjq_istore (lo' := [some (.ref l0), some (.int l1), some (.long l2), none, some (.int (0 : Int32))]) D_58_1 (Nat.le_of_ble_eq_true rfl) rfl ?_
  exact (T_58_3 hR h1 h2 mjN) _ _ _ _ _ _ h
noncomputable def f_58 (R : mjR) (a0 : Nat) (a1 : Int32) (a2 : Int64) (hp : mjH) : mjU := b_58_0 R a0 a1 a2 hp
theorem c_58 {R : mjR} {d : Nat} (hR : mjC R d) {a0 : Nat} {a1 : Int32} {a2 : Int64} {hp : mjH} {q : Option Value × mjH} (h : f_58 R a0 a1 a2 hp = some q) : mjM (d + 1) 0 0 58 [.ref a0, .int a1, .long a2] hp (mjEq q) :=
  mjM_of Ja_58 (Nat.le_of_ble_eq_true rfl) (mjG.fg (lo' := [some (.ref a0), some (.int a1), some (.long a2), none, none]) (And.intro rfl (And.intro rfl (And.intro rfl True.intro))) ((t_58_0 hR (Nat.le_refl 0) (Nat.le_refl 0)) a0 a1 a2 hp q h))
def J_59 : mjI := (⟨"OwnerHeap$Judge", "judgeAboves", "()V"⟩, 4, prog_6_method_7_code, 4, none, 0, false)
theorem Ja_59 : mjMt 59 = some J_59 := by rfl
theorem D_59_0 : decode J_59.2.2.1 0 = .ok (.iconst 0, 1) := dzq_3 (by decide +kernel)
theorem D_59_1 : decode J_59.2.2.1 1 = .ok (.istore_n 1, 1) := dzq_60 (by decide +kernel)
theorem D_59_2 : decode J_59.2.2.1 2 = .ok (.iload_n 1, 1) := dzq_27 (by decide +kernel)
theorem D_59_3 : decode J_59.2.2.1 3 = .ok (.aload_n 0, 1) := dzq_42 (by decide +kernel)
theorem D_59_4 : decode J_59.2.2.1 4 = .ok (.getfield 19, 3) := dzq_180 (by decide +kernel)
theorem D_59_7 : decode J_59.2.2.1 7 = .ok (.getfield 82, 3) := dzq_180 (by decide +kernel)
theorem D_59_10 : decode J_59.2.2.1 10 = .ok (.if_icmp .ge 82, 3) := dzq_162 (by decide +kernel)
theorem D_59_13 : decode J_59.2.2.1 13 = .ok (.aload_n 0, 1) := dzq_42 (by decide +kernel)
theorem D_59_14 : decode J_59.2.2.1 14 = .ok (.getfield 9, 3) := dzq_180 (by decide +kernel)
theorem D_59_17 : decode J_59.2.2.1 17 = .ok (.invokevirtual 58, 3) := dzq_182 (by decide +kernel)
theorem D_59_20 : decode J_59.2.2.1 20 = .ok (.ifCond .eq 72, 3) := dzq_153 (by decide +kernel)
theorem D_59_23 : decode J_59.2.2.1 23 = .ok (.aload_n 0, 1) := dzq_42 (by decide +kernel)
theorem D_59_24 : decode J_59.2.2.1 24 = .ok (.getfield 15, 3) := dzq_180 (by decide +kernel)
theorem D_59_27 : decode J_59.2.2.1 27 = .ok (.getfield 114, 3) := dzq_180 (by decide +kernel)
theorem D_59_30 : decode J_59.2.2.1 30 = .ok (.iload_n 1, 1) := dzq_27 (by decide +kernel)
theorem D_59_31 : decode J_59.2.2.1 31 = .ok (.iaload, 1) := dzq_46 (by decide +kernel)
theorem D_59_32 : decode J_59.2.2.1 32 = .ok (.istore_n 2, 1) := dzq_61 (by decide +kernel)
theorem D_59_33 : decode J_59.2.2.1 33 = .ok (.iload_n 2, 1) := dzq_28 (by decide +kernel)
theorem D_59_34 : decode J_59.2.2.1 34 = .ok (.iconst (-1), 1) := dzq_2 (by decide +kernel)
theorem D_59_35 : decode J_59.2.2.1 35 = .ok (.if_icmp .ne 6, 3) := dzq_160 (by decide +kernel)
theorem D_59_38 : decode J_59.2.2.1 38 = .ok (.goto 48, 3) := dzq_167 (by decide +kernel)
theorem D_59_41 : decode J_59.2.2.1 41 = .ok (.aload_n 0, 1) := dzq_42 (by decide +kernel)
theorem D_59_42 : decode J_59.2.2.1 42 = .ok (.getfield 9, 3) := dzq_180 (by decide +kernel)
theorem D_59_45 : decode J_59.2.2.1 45 = .ok (.iload_n 2, 1) := dzq_28 (by decide +kernel)
theorem D_59_46 : decode J_59.2.2.1 46 = .ok (.iconst 1, 1) := dzq_4 (by decide +kernel)
theorem D_59_47 : decode J_59.2.2.1 47 = .ok (.iadd, 1) := dzq_96 (by decide +kernel)
theorem D_59_48 : decode J_59.2.2.1 48 = .ok (.invokevirtual 117, 3) := dzq_182 (by decide +kernel)
theorem D_59_51 : decode J_59.2.2.1 51 = .ok (.aload_n 0, 1) := dzq_42 (by decide +kernel)
theorem D_59_52 : decode J_59.2.2.1 52 = .ok (.iload_n 1, 1) := dzq_27 (by decide +kernel)
theorem D_59_53 : decode J_59.2.2.1 53 = .ok (.iconst 1, 1) := dzq_4 (by decide +kernel)
theorem D_59_54 : decode J_59.2.2.1 54 = .ok (.invokevirtual 121, 3) := dzq_182 (by decide +kernel)
theorem D_59_57 : decode J_59.2.2.1 57 = .ok (.istore_n 3, 1) := dzq_62 (by decide +kernel)
theorem D_59_58 : decode J_59.2.2.1 58 = .ok (.aload_n 0, 1) := dzq_42 (by decide +kernel)
theorem D_59_59 : decode J_59.2.2.1 59 = .ok (.getfield 19, 3) := dzq_180 (by decide +kernel)
theorem D_59_62 : decode J_59.2.2.1 62 = .ok (.getfield 125, 3) := dzq_180 (by decide +kernel)
theorem D_59_65 : decode J_59.2.2.1 65 = .ok (.iload_n 1, 1) := dzq_27 (by decide +kernel)
theorem D_59_66 : decode J_59.2.2.1 66 = .ok (.iload_n 3, 1) := dzq_29 (by decide +kernel)
theorem D_59_67 : decode J_59.2.2.1 67 = .ok (.iastore, 1) := dzq_79 (by decide +kernel)
theorem D_59_68 : decode J_59.2.2.1 68 = .ok (.iload_n 3, 1) := dzq_29 (by decide +kernel)
theorem D_59_69 : decode J_59.2.2.1 69 = .ok (.iconst 0, 1) := dzq_3 (by decide +kernel)
theorem D_59_70 : decode J_59.2.2.1 70 = .ok (.invokestatic 128, 3) := dzq_184 (by decide +kernel)
theorem D_59_73 : decode J_59.2.2.1 73 = .ok (.ifCond .eq 13, 3) := dzq_153 (by decide +kernel)
theorem D_59_76 : decode J_59.2.2.1 76 = .ok (.aload_n 0, 1) := dzq_42 (by decide +kernel)
theorem D_59_77 : decode J_59.2.2.1 77 = .ok (.getfield 9, 3) := dzq_180 (by decide +kernel)
theorem D_59_80 : decode J_59.2.2.1 80 = .ok (.bipush 11, 2) := dzq_16 (by decide +kernel)
theorem D_59_82 : decode J_59.2.2.1 82 = .ok (.iload_n 2, 1) := dzq_28 (by decide +kernel)
theorem D_59_83 : decode J_59.2.2.1 83 = .ok (.invokevirtual 100, 3) := dzq_182 (by decide +kernel)
theorem D_59_86 : decode J_59.2.2.1 86 = .ok (.iinc 1 1, 3) := dzq_132 (by decide +kernel)
theorem D_59_89 : decode J_59.2.2.1 89 = .ok (.goto (-87), 3) := dzq_167 (by decide +kernel)
theorem D_59_92 : decode J_59.2.2.1 92 = .ok (.return_, 1) := dzq_177 (by decide +kernel)
def P_59_86 (X : mjX) (d C S kc ks : Nat) (k : Nat → Int32 → mjH → mjU) : Prop := ∀ (l0 : Nat) (l1 : Int32) (hp : mjH) (q : Option Value × mjH), k l0 l1 hp = some q → mjG X d C S J_59 (mjEq q) 86 [some (.ref l0), some (.int l1), none, none] [] hp kc ks
def P_59_2 (X : mjX) (d C S kc ks : Nat) (k : Nat → Int32 → mjH → mjU) : Prop := ∀ (l0 : Nat) (l1 : Int32) (hp : mjH) (q : Option Value × mjH), k l0 l1 hp = some q → mjG X d C S J_59 (mjEq q) 2 [some (.ref l0), some (.int l1), none, none] [] hp kc ks
def P_59_0 (X : mjX) (d C S kc ks : Nat) (k : Nat → mjH → mjU) : Prop := ∀ (l0 : Nat) (hp : mjH) (q : Option Value × mjH), k l0 hp = some q → mjG X d C S J_59 (mjEq q) 0 [some (.ref l0), none, none, none] [] hp kc ks
noncomputable def b_59_86 (R : mjR) (k2 : Nat → Int32 → mjH → mjU) (l0 : Nat) (l1 : Int32) (hp : mjH) : mjU := k2 l0 (l1 + (1 : Int32)) hp
theorem t_59_86 {X : mjX} {d C S kc ks : Nat} {R : mjR} (hR : mjC R d) (h1 : kc ≤ C) (h2 : ks ≤ S) {k2 : Nat → Int32 → mjH → mjU} (hk2 : P_59_2 X (d + 1) C S kc ks k2) : P_59_86 X (d + 1) C S kc ks (b_59_86 R k2) := by
  intro l0 l1 hp q h
  unfold b_59_86 at h
  refine mjq_iinc (x := l1) (c := (1 : Int32)) (lo' := [some (.ref l0), some (.int (l1 + (1 : Int32))), none, none]) D_59_86 rfl (Nat.le_of_ble_eq_true rfl) rfl rfl ?_
  refine mjr_goto (tgt := 2) D_59_89 rfl ?_
  exact hk2 _ _ _ _ h
noncomputable def b_59_2 (R : mjR) (k2 : Nat → Int32 → mjH → mjU) (l0 : Nat) (l1 : Int32) (hp : mjH) : mjU := gR hp l0 4 2 (fun v1 => gI hp v1 7 0 (fun v2 => (if v2 ≤ l1 then some (none, hp) else gR hp l0 4 0 (fun v3 => rV hp v3 9 (bI (R 172 [.ref v3] hp) (fun v4 hp5 => (if v4 = 0 then some (none, hp5) else gR hp5 l0 4 1 (fun v6 => gR hp5 v6 8 4 (fun v7 => aI hp5 v7 l1 (fun v8 => (if v8 = (-1 : Int32) then b_59_86 R k2 l0 l1 hp5 else gR hp5 l0 4 0 (fun v9 => rV hp5 v9 9 (bN (R 179 [.ref v9, .int (v8 + (1 : Int32))] hp5) (fun  hp10 => rV hp10 l0 4 (bI (R 60 [.ref l0, .int l1, .int (1 : Int32)] hp10) (fun v11 hp12 => gR hp12 l0 4 2 (fun v13 => gR hp12 v13 7 5 (fun v14 => sI hp12 v14 l1 v11 (fun hp15 => bI (R 106 [.int v11, .int (0 : Int32)] hp15) (fun v16 hp17 => (if v16 = 0 then b_59_86 R k2 l0 l1 hp17 else gR hp17 l0 4 0 (fun v18 => rV hp17 v18 9 (bN (R 178 [.ref v18, .int (11 : Int32), .int v8] hp17) (fun  hp19 => b_59_86 R k2 l0 l1 hp19))))))))))))))))))))))))
theorem t_59_2 {X : mjX} {d C S kc ks : Nat} {R : mjR} (hR : mjC R d) (h1 : kc ≤ C) (h2 : ks ≤ S) {k2 : Nat → Int32 → mjH → mjU} (hk2 : P_59_2 X (d + 1) C S kc ks k2) : P_59_2 X (d + 1) C S kc ks (b_59_2 R k2) := by
  intro l0 l1 hp q h
  unfold b_59_2 at h
  refine mjr_iload_n (x := l1) D_59_2 rfl ?_
  refine mjr_aload_n (x := l0) D_59_3 rfl ?_
  refine mjq_gR D_59_4 fr_4_19 h (fun v1 h => ?_)
  refine mjq_gI D_59_7 fr_4_82 h (fun v2 h => ?_)
  refine mjq_icmp_ge (tgt := 92) D_59_10 rfl h (fun h => ?_) (fun h => ?_)
  · exact mjq_nret D_59_92 rfl h1 h2 h
  · refine mjr_aload_n (x := l0) D_59_13 rfl ?_
    refine mjq_gR D_59_14 fr_4_9 h (fun v3 h => ?_)
    refine mjq_vI (As := []) (rest := []) D_59_17 mr_4_58 V_172 rfl rfl rfl hR (Nat.le_refl _) h1 h2 h (fun v4 hp5 h => ?_)
    refine mjq_if_eq (tgt := 92) D_59_20 rfl h (fun h => ?_) (fun h => ?_)
    · exact mjq_nret D_59_92 rfl h1 h2 h
    · refine mjr_aload_n (x := l0) D_59_23 rfl ?_
      refine mjq_gR D_59_24 fr_4_15 h (fun v6 h => ?_)
      refine mjq_gR D_59_27 fr_4_114 h (fun v7 h => ?_)
      refine mjr_iload_n (x := l1) D_59_30 rfl ?_
      refine mjq_aI D_59_31 h (fun v8 h => ?_)
      refine mjq_istore_n (lo' := [some (.ref l0), some (.int l1), some (.int v8), none]) D_59_32 (Nat.le_of_ble_eq_true rfl) rfl ?_
      refine mjr_iload_n (x := v8) D_59_33 rfl ?_
      refine mjq_ic (v := (-1 : Int32)) D_59_34 rfl ?_
      refine mjq_icmp_ne (tgt := 41) D_59_35 rfl h (fun h => ?_) (fun h => ?_)
      · refine mjr_aload_n (x := l0) D_59_41 rfl ?_
        refine mjq_gR D_59_42 fr_4_9 h (fun v9 h => ?_)
        refine mjr_iload_n (x := v8) D_59_45 rfl ?_
        refine mjq_ic (v := (1 : Int32)) D_59_46 rfl ?_
        refine mjr_iadd D_59_47 ?_
        refine mjq_vN (As := [.int (v8 + (1 : Int32))]) (rest := []) D_59_48 mr_4_117 V_179 rfl rfl rfl hR (Nat.le_refl _) h1 h2 h (fun  hp10 h => ?_)
        refine mjr_aload_n (x := l0) D_59_51 rfl ?_
        refine mjr_iload_n (x := l1) D_59_52 rfl ?_
        refine mjq_ic (v := (1 : Int32)) D_59_53 rfl ?_
        refine mjq_vI (As := [.int l1, .int (1 : Int32)]) (rest := []) D_59_54 mr_4_121 V_60 rfl rfl rfl hR (Nat.le_refl _) h1 h2 h (fun v11 hp12 h => ?_)
        refine mjq_istore_n (lo' := [some (.ref l0), some (.int l1), some (.int v8), some (.int v11)]) D_59_57 (Nat.le_of_ble_eq_true rfl) rfl ?_
        refine mjr_aload_n (x := l0) D_59_58 rfl ?_
        refine mjq_gR D_59_59 fr_4_19 h (fun v13 h => ?_)
        refine mjq_gR D_59_62 fr_4_125 h (fun v14 h => ?_)
        refine mjr_iload_n (x := l1) D_59_65 rfl ?_
        refine mjr_iload_n (x := v11) D_59_66 rfl ?_
        refine mjq_sI D_59_67 h (fun hp15 h => ?_)
        refine mjr_iload_n (x := v11) D_59_68 rfl ?_
        refine mjq_ic (v := (0 : Int32)) D_59_69 rfl ?_
        refine mjq_scI (As := [.int v11, .int (0 : Int32)]) (rest := []) D_59_70 mr_4_128 V_106 rfl rfl rfl hR (Nat.le_refl _) h1 h2 h (fun v16 hp17 h => ?_)
        refine mjq_if_eq (tgt := 86) D_59_73 rfl h (fun h => ?_) (fun h => ?_)
        · exact mjG.fg (lo' := [some (.ref l0), some (.int l1), none, none]) (And.intro rfl (And.intro rfl True.intro)) ((t_59_86 hR h1 h2 hk2) _ _ _ _ h)
        · refine mjr_aload_n (x := l0) D_59_76 rfl ?_
          refine mjq_gR D_59_77 fr_4_9 h (fun v18 h => ?_)
          refine mjq_bi (v := (11 : Int32)) D_59_80 rfl ?_
          refine mjr_iload_n (x := v8) D_59_82 rfl ?_
          refine mjq_vN (As := [.int (11 : Int32), .int v8]) (rest := []) D_59_83 mr_4_100 V_178 rfl rfl rfl hR (Nat.le_refl _) h1 h2 h (fun  hp19 h => ?_)
          exact mjG.fg (lo' := [some (.ref l0), some (.int l1), none, none]) (And.intro rfl (And.intro rfl True.intro)) ((t_59_86 hR h1 h2 hk2) _ _ _ _ h)
      · refine mjr_goto (tgt := 86) D_59_38 rfl ?_
        exact mjG.fg (lo' := [some (.ref l0), some (.int l1), none, none]) (And.intro rfl (And.intro rfl True.intro)) ((t_59_86 hR h1 h2 hk2) _ _ _ _ h)
noncomputable def L_59_2 (R : mjR) (n : Nat) : Nat → Int32 → mjH → mjU := Nat.rec (motive := fun _ => Nat → Int32 → mjH → mjU) (fun _ _ _ => none) (fun _ self => b_59_2 R self) n
theorem T_59_2 {X : mjX} {d C S kc ks : Nat} {R : mjR} (hR : mjC R d) (h1 : kc ≤ C) (h2 : ks ≤ S) (n : Nat) : P_59_2 X (d + 1) C S kc ks (L_59_2 R n) := by
  induction n with
  | zero => intro _ _ _ _ h; exact mj_no h
  | succ n ih => exact t_59_2 hR h1 h2 ih
noncomputable def b_59_0 (R : mjR) (l0 : Nat) (hp : mjH) : mjU := L_59_2 R mjN l0 (0 : Int32) hp
theorem t_59_0 {X : mjX} {d C S kc ks : Nat} {R : mjR} (hR : mjC R d) (h1 : kc ≤ C) (h2 : ks ≤ S) : P_59_0 X (d + 1) C S kc ks (b_59_0 R) := by
  intro l0 hp q h
  unfold b_59_0 at h
  refine mjq_ic (v := (0 : Int32)) D_59_0 rfl ?_
  refine mjq_istore_n (lo' := [some (.ref l0), some (.int (0 : Int32)), none, none]) D_59_1 (Nat.le_of_ble_eq_true rfl) rfl ?_
  exact (T_59_2 hR h1 h2 mjN) _ _ _ _ h
noncomputable def f_59 (R : mjR) (a0 : Nat) (hp : mjH) : mjU := b_59_0 R a0 hp
theorem c_59 {R : mjR} {d : Nat} (hR : mjC R d) {a0 : Nat} {hp : mjH} {q : Option Value × mjH} (h : f_59 R a0 hp = some q) : mjM (d + 1) 0 0 59 [.ref a0] hp (mjEq q) :=
  mjM_of Ja_59 (Nat.le_of_ble_eq_true rfl) (mjG.fg (lo' := [some (.ref a0), none, none, none]) (And.intro rfl True.intro) ((t_59_0 hR (Nat.le_refl 0) (Nat.le_refl 0)) a0 hp q h))
def J_60 : mjI := (⟨"OwnerHeap$Judge", "kindHere", "(IZ)I"⟩, 4, prog_6_method_17_code, 9, (some .int), 2, false)
theorem Ja_60 : mjMt 60 = some J_60 := by rfl
theorem D_60_0 : decode J_60.2.2.1 0 = .ok (.aload_n 0, 1) := dzq_42 (by decide +kernel)
theorem D_60_1 : decode J_60.2.2.1 1 = .ok (.getfield 9, 3) := dzq_180 (by decide +kernel)
theorem D_60_4 : decode J_60.2.2.1 4 = .ok (.invokevirtual 190, 3) := dzq_182 (by decide +kernel)
theorem D_60_7 : decode J_60.2.2.1 7 = .ok (.istore_n 3, 1) := dzq_62 (by decide +kernel)
theorem D_60_8 : decode J_60.2.2.1 8 = .ok (.aload_n 0, 1) := dzq_42 (by decide +kernel)
theorem D_60_9 : decode J_60.2.2.1 9 = .ok (.aload_n 0, 1) := dzq_42 (by decide +kernel)
theorem D_60_10 : decode J_60.2.2.1 10 = .ok (.getfield 9, 3) := dzq_180 (by decide +kernel)
theorem D_60_13 : decode J_60.2.2.1 13 = .ok (.iload_n 3, 1) := dzq_29 (by decide +kernel)
theorem D_60_14 : decode J_60.2.2.1 14 = .ok (.invokevirtual 92, 3) := dzq_182 (by decide +kernel)
theorem D_60_17 : decode J_60.2.2.1 17 = .ok (.invokevirtual 96, 3) := dzq_182 (by decide +kernel)
theorem D_60_20 : decode J_60.2.2.1 20 = .ok (.istore 4, 2) := dzq_54 (by decide +kernel)
theorem D_60_22 : decode J_60.2.2.1 22 = .ok (.iload 4, 2) := dzq_21 (by decide +kernel)
theorem D_60_24 : decode J_60.2.2.1 24 = .ok (.iconst (-1), 1) := dzq_2 (by decide +kernel)
theorem D_60_25 : decode J_60.2.2.1 25 = .ok (.if_icmp .ne 14, 3) := dzq_160 (by decide +kernel)
theorem D_60_28 : decode J_60.2.2.1 28 = .ok (.aload_n 0, 1) := dzq_42 (by decide +kernel)
theorem D_60_29 : decode J_60.2.2.1 29 = .ok (.getfield 9, 3) := dzq_180 (by decide +kernel)
theorem D_60_32 : decode J_60.2.2.1 32 = .ok (.iconst 5, 1) := dzq_8 (by decide +kernel)
theorem D_60_33 : decode J_60.2.2.1 33 = .ok (.iload_n 3, 1) := dzq_29 (by decide +kernel)
theorem D_60_34 : decode J_60.2.2.1 34 = .ok (.invokevirtual 100, 3) := dzq_182 (by decide +kernel)
theorem D_60_37 : decode J_60.2.2.1 37 = .ok (.iconst 0, 1) := dzq_3 (by decide +kernel)
theorem D_60_38 : decode J_60.2.2.1 38 = .ok (.ireturn, 1) := dzq_172 (by decide +kernel)
theorem D_60_39 : decode J_60.2.2.1 39 = .ok (.aload_n 0, 1) := dzq_42 (by decide +kernel)
theorem D_60_40 : decode J_60.2.2.1 40 = .ok (.iload_n 3, 1) := dzq_29 (by decide +kernel)
theorem D_60_41 : decode J_60.2.2.1 41 = .ok (.invokevirtual 226, 3) := dzq_182 (by decide +kernel)
theorem D_60_44 : decode J_60.2.2.1 44 = .ok (.istore 5, 2) := dzq_54 (by decide +kernel)
theorem D_60_46 : decode J_60.2.2.1 46 = .ok (.iload 5, 2) := dzq_21 (by decide +kernel)
theorem D_60_48 : decode J_60.2.2.1 48 = .ok (.aload_n 0, 1) := dzq_42 (by decide +kernel)
theorem D_60_49 : decode J_60.2.2.1 49 = .ok (.getfield 19, 3) := dzq_180 (by decide +kernel)
theorem D_60_52 : decode J_60.2.2.1 52 = .ok (.getfield 107, 3) := dzq_180 (by decide +kernel)
theorem D_60_55 : decode J_60.2.2.1 55 = .ok (.iload 4, 2) := dzq_21 (by decide +kernel)
theorem D_60_57 : decode J_60.2.2.1 57 = .ok (.iaload, 1) := dzq_46 (by decide +kernel)
theorem D_60_58 : decode J_60.2.2.1 58 = .ok (.if_icmp .eq 15, 3) := dzq_159 (by decide +kernel)
theorem D_60_61 : decode J_60.2.2.1 61 = .ok (.aload_n 0, 1) := dzq_42 (by decide +kernel)
theorem D_60_62 : decode J_60.2.2.1 62 = .ok (.getfield 9, 3) := dzq_180 (by decide +kernel)
theorem D_60_65 : decode J_60.2.2.1 65 = .ok (.bipush 6, 2) := dzq_16 (by decide +kernel)
theorem D_60_67 : decode J_60.2.2.1 67 = .ok (.iload_n 3, 1) := dzq_29 (by decide +kernel)
theorem D_60_68 : decode J_60.2.2.1 68 = .ok (.invokevirtual 100, 3) := dzq_182 (by decide +kernel)
theorem D_60_71 : decode J_60.2.2.1 71 = .ok (.iconst 0, 1) := dzq_3 (by decide +kernel)
theorem D_60_72 : decode J_60.2.2.1 72 = .ok (.ireturn, 1) := dzq_172 (by decide +kernel)
theorem D_60_73 : decode J_60.2.2.1 73 = .ok (.iload 4, 2) := dzq_21 (by decide +kernel)
theorem D_60_75 : decode J_60.2.2.1 75 = .ok (.invokestatic 229, 3) := dzq_184 (by decide +kernel)
theorem D_60_78 : decode J_60.2.2.1 78 = .ok (.istore 6, 2) := dzq_54 (by decide +kernel)
theorem D_60_80 : decode J_60.2.2.1 80 = .ok (.iconst 0, 1) := dzq_3 (by decide +kernel)
theorem D_60_81 : decode J_60.2.2.1 81 = .ok (.istore 7, 2) := dzq_54 (by decide +kernel)
theorem D_60_83 : decode J_60.2.2.1 83 = .ok (.iload 7, 2) := dzq_21 (by decide +kernel)
theorem D_60_85 : decode J_60.2.2.1 85 = .ok (.iload 5, 2) := dzq_21 (by decide +kernel)
theorem D_60_87 : decode J_60.2.2.1 87 = .ok (.if_icmp .ge 60, 3) := dzq_162 (by decide +kernel)
theorem D_60_90 : decode J_60.2.2.1 90 = .ok (.aload_n 0, 1) := dzq_42 (by decide +kernel)
theorem D_60_91 : decode J_60.2.2.1 91 = .ok (.iload_n 1, 1) := dzq_27 (by decide +kernel)
theorem D_60_92 : decode J_60.2.2.1 92 = .ok (.iload_n 3, 1) := dzq_29 (by decide +kernel)
theorem D_60_93 : decode J_60.2.2.1 93 = .ok (.iconst 2, 1) := dzq_5 (by decide +kernel)
theorem D_60_94 : decode J_60.2.2.1 94 = .ok (.iadd, 1) := dzq_96 (by decide +kernel)
theorem D_60_95 : decode J_60.2.2.1 95 = .ok (.iconst 2, 1) := dzq_5 (by decide +kernel)
theorem D_60_96 : decode J_60.2.2.1 96 = .ok (.iload 7, 2) := dzq_21 (by decide +kernel)
theorem D_60_98 : decode J_60.2.2.1 98 = .ok (.imul, 1) := dzq_104 (by decide +kernel)
theorem D_60_99 : decode J_60.2.2.1 99 = .ok (.iadd, 1) := dzq_96 (by decide +kernel)
theorem D_60_100 : decode J_60.2.2.1 100 = .ok (.iload_n 2, 1) := dzq_28 (by decide +kernel)
theorem D_60_101 : decode J_60.2.2.1 101 = .ok (.invokevirtual 232, 3) := dzq_182 (by decide +kernel)
theorem D_60_104 : decode J_60.2.2.1 104 = .ok (.istore 8, 2) := dzq_54 (by decide +kernel)
theorem D_60_106 : decode J_60.2.2.1 106 = .ok (.iload 8, 2) := dzq_21 (by decide +kernel)
theorem D_60_108 : decode J_60.2.2.1 108 = .ok (.iconst (-1), 1) := dzq_2 (by decide +kernel)
theorem D_60_109 : decode J_60.2.2.1 109 = .ok (.if_icmp .ne 21, 3) := dzq_160 (by decide +kernel)
theorem D_60_112 : decode J_60.2.2.1 112 = .ok (.aload_n 0, 1) := dzq_42 (by decide +kernel)
theorem D_60_113 : decode J_60.2.2.1 113 = .ok (.getfield 9, 3) := dzq_180 (by decide +kernel)
theorem D_60_116 : decode J_60.2.2.1 116 = .ok (.iconst 5, 1) := dzq_8 (by decide +kernel)
theorem D_60_117 : decode J_60.2.2.1 117 = .ok (.iload_n 3, 1) := dzq_29 (by decide +kernel)
theorem D_60_118 : decode J_60.2.2.1 118 = .ok (.iconst 2, 1) := dzq_5 (by decide +kernel)
theorem D_60_119 : decode J_60.2.2.1 119 = .ok (.iadd, 1) := dzq_96 (by decide +kernel)
theorem D_60_120 : decode J_60.2.2.1 120 = .ok (.iconst 2, 1) := dzq_5 (by decide +kernel)
theorem D_60_121 : decode J_60.2.2.1 121 = .ok (.iload 7, 2) := dzq_21 (by decide +kernel)
theorem D_60_123 : decode J_60.2.2.1 123 = .ok (.imul, 1) := dzq_104 (by decide +kernel)
theorem D_60_124 : decode J_60.2.2.1 124 = .ok (.iadd, 1) := dzq_96 (by decide +kernel)
theorem D_60_125 : decode J_60.2.2.1 125 = .ok (.invokevirtual 100, 3) := dzq_182 (by decide +kernel)
theorem D_60_128 : decode J_60.2.2.1 128 = .ok (.iconst 0, 1) := dzq_3 (by decide +kernel)
theorem D_60_129 : decode J_60.2.2.1 129 = .ok (.ireturn, 1) := dzq_172 (by decide +kernel)
theorem D_60_130 : decode J_60.2.2.1 130 = .ok (.iload 6, 2) := dzq_21 (by decide +kernel)
theorem D_60_132 : decode J_60.2.2.1 132 = .ok (.iload 7, 2) := dzq_21 (by decide +kernel)
theorem D_60_134 : decode J_60.2.2.1 134 = .ok (.iload 8, 2) := dzq_21 (by decide +kernel)
theorem D_60_136 : decode J_60.2.2.1 136 = .ok (.invokestatic 236, 3) := dzq_184 (by decide +kernel)
theorem D_60_139 : decode J_60.2.2.1 139 = .ok (.istore 6, 2) := dzq_54 (by decide +kernel)
theorem D_60_141 : decode J_60.2.2.1 141 = .ok (.iinc 7 1, 3) := dzq_132 (by decide +kernel)
theorem D_60_144 : decode J_60.2.2.1 144 = .ok (.goto (-61), 3) := dzq_167 (by decide +kernel)
theorem D_60_147 : decode J_60.2.2.1 147 = .ok (.aload_n 0, 1) := dzq_42 (by decide +kernel)
theorem D_60_148 : decode J_60.2.2.1 148 = .ok (.getfield 9, 3) := dzq_180 (by decide +kernel)
theorem D_60_151 : decode J_60.2.2.1 151 = .ok (.iload_n 3, 1) := dzq_29 (by decide +kernel)
theorem D_60_152 : decode J_60.2.2.1 152 = .ok (.iconst 2, 1) := dzq_5 (by decide +kernel)
theorem D_60_153 : decode J_60.2.2.1 153 = .ok (.iadd, 1) := dzq_96 (by decide +kernel)
theorem D_60_154 : decode J_60.2.2.1 154 = .ok (.iconst 2, 1) := dzq_5 (by decide +kernel)
theorem D_60_155 : decode J_60.2.2.1 155 = .ok (.iload 5, 2) := dzq_21 (by decide +kernel)
theorem D_60_157 : decode J_60.2.2.1 157 = .ok (.imul, 1) := dzq_104 (by decide +kernel)
theorem D_60_158 : decode J_60.2.2.1 158 = .ok (.iadd, 1) := dzq_96 (by decide +kernel)
theorem D_60_159 : decode J_60.2.2.1 159 = .ok (.invokevirtual 117, 3) := dzq_182 (by decide +kernel)
theorem D_60_162 : decode J_60.2.2.1 162 = .ok (.iload_n 2, 1) := dzq_28 (by decide +kernel)
theorem D_60_163 : decode J_60.2.2.1 163 = .ok (.ifCond .ne 33, 3) := dzq_154 (by decide +kernel)
theorem D_60_166 : decode J_60.2.2.1 166 = .ok (.aload_n 0, 1) := dzq_42 (by decide +kernel)
theorem D_60_167 : decode J_60.2.2.1 167 = .ok (.getfield 42, 3) := dzq_180 (by decide +kernel)
theorem D_60_170 : decode J_60.2.2.1 170 = .ok (.ifCond .ne 26, 3) := dzq_154 (by decide +kernel)
theorem D_60_173 : decode J_60.2.2.1 173 = .ok (.aload_n 0, 1) := dzq_42 (by decide +kernel)
theorem D_60_174 : decode J_60.2.2.1 174 = .ok (.getfield 19, 3) := dzq_180 (by decide +kernel)
theorem D_60_177 : decode J_60.2.2.1 177 = .ok (.iload_n 1, 1) := dzq_27 (by decide +kernel)
theorem D_60_178 : decode J_60.2.2.1 178 = .ok (.iload 6, 2) := dzq_21 (by decide +kernel)
theorem D_60_180 : decode J_60.2.2.1 180 = .ok (.invokevirtual 149, 3) := dzq_182 (by decide +kernel)
theorem D_60_183 : decode J_60.2.2.1 183 = .ok (.ifCond .ne 13, 3) := dzq_154 (by decide +kernel)
theorem D_60_186 : decode J_60.2.2.1 186 = .ok (.aload_n 0, 1) := dzq_42 (by decide +kernel)
theorem D_60_187 : decode J_60.2.2.1 187 = .ok (.getfield 9, 3) := dzq_180 (by decide +kernel)
theorem D_60_190 : decode J_60.2.2.1 190 = .ok (.bipush 8, 2) := dzq_16 (by decide +kernel)
theorem D_60_192 : decode J_60.2.2.1 192 = .ok (.iload_n 3, 1) := dzq_29 (by decide +kernel)
theorem D_60_193 : decode J_60.2.2.1 193 = .ok (.invokevirtual 100, 3) := dzq_182 (by decide +kernel)
theorem D_60_196 : decode J_60.2.2.1 196 = .ok (.iload 6, 2) := dzq_21 (by decide +kernel)
theorem D_60_198 : decode J_60.2.2.1 198 = .ok (.ireturn, 1) := dzq_172 (by decide +kernel)
def P_60_196 (X : mjX) (d C S kc ks : Nat) (k : Int32 → mjH → mjU) : Prop := ∀ (l6 : Int32) (hp : mjH) (q : Option Value × mjH), k l6 hp = some q → mjG X d C S J_60 (mjEq q) 196 [none, none, none, none, none, none, some (.int l6), none, none] [] hp kc ks
def P_60_83 (X : mjX) (d C S kc ks : Nat) (k : Nat → Int32 → Int32 → Int32 → Int32 → Int32 → Int32 → mjH → mjU) : Prop := ∀ (l0 : Nat) (l1 : Int32) (l2 : Int32) (l3 : Int32) (l5 : Int32) (l6 : Int32) (l7 : Int32) (hp : mjH) (q : Option Value × mjH), k l0 l1 l2 l3 l5 l6 l7 hp = some q → mjG X d C S J_60 (mjEq q) 83 [some (.ref l0), some (.int l1), some (.int l2), some (.int l3), none, some (.int l5), some (.int l6), some (.int l7), none] [] hp kc ks
def P_60_0 (X : mjX) (d C S kc ks : Nat) (k : Nat → Int32 → Int32 → mjH → mjU) : Prop := ∀ (l0 : Nat) (l1 : Int32) (l2 : Int32) (hp : mjH) (q : Option Value × mjH), k l0 l1 l2 hp = some q → mjG X d C S J_60 (mjEq q) 0 [some (.ref l0), some (.int l1), some (.int l2), none, none, none, none, none, none] [] hp kc ks
noncomputable def b_60_196 (R : mjR) (l6 : Int32) (hp : mjH) : mjU := some (some (.int l6), hp)
theorem t_60_196 {X : mjX} {d C S kc ks : Nat} {R : mjR} (hR : mjC R d) (h1 : kc ≤ C) (h2 : ks ≤ S) : P_60_196 X (d + 1) C S kc ks (b_60_196 R) := by
  intro l6 hp q h
  unfold b_60_196 at h
  refine mjr_iload (x := l6) D_60_196 rfl ?_
  exact mjq_ret D_60_198 rfl h1 h2 h
noncomputable def b_60_83 (R : mjR) (k83 : Nat → Int32 → Int32 → Int32 → Int32 → Int32 → Int32 → mjH → mjU) (l0 : Nat) (l1 : Int32) (l2 : Int32) (l3 : Int32) (l5 : Int32) (l6 : Int32) (l7 : Int32) (hp : mjH) : mjU := (if l5 ≤ l7 then gR hp l0 4 0 (fun v1 => rV hp v1 9 (bN (R 179 [.ref v1, .int ((l3 + (2 : Int32)) + ((2 : Int32) * l5))] hp) (fun  hp2 => (if l2 = 0 then gI hp2 l0 4 4 (fun v3 => (if v3 = 0 then gR hp2 l0 4 2 (fun v4 => rV hp2 v4 7 (bI (R 104 [.ref v4, .int l1, .int l6] hp2) (fun v5 hp6 => (if v5 = 0 then gR hp6 l0 4 0 (fun v7 => rV hp6 v7 9 (bN (R 178 [.ref v7, .int (8 : Int32), .int l3] hp6) (fun  hp8 => b_60_196 R l6 hp8))) else b_60_196 R l6 hp6)))) else b_60_196 R l6 hp2)) else b_60_196 R l6 hp2)))) else rV hp l0 4 (bI (R 62 [.ref l0, .int l1, .int ((l3 + (2 : Int32)) + ((2 : Int32) * l7)), .int l2] hp) (fun v9 hp10 => (if v9 = (-1 : Int32) then gR hp10 l0 4 0 (fun v13 => rV hp10 v13 9 (bN (R 178 [.ref v13, .int (5 : Int32), .int ((l3 + (2 : Int32)) + ((2 : Int32) * l7))] hp10) (fun  hp14 => some (some (.int (0 : Int32)), hp14)))) else bI (R 103 [.int l6, .int l7, .int v9] hp10) (fun v11 hp12 => k83 l0 l1 l2 l3 l5 v11 (l7 + (1 : Int32)) hp12)))))
theorem t_60_83 {X : mjX} {d C S kc ks : Nat} {R : mjR} (hR : mjC R d) (h1 : kc ≤ C) (h2 : ks ≤ S) {k83 : Nat → Int32 → Int32 → Int32 → Int32 → Int32 → Int32 → mjH → mjU} (hk83 : P_60_83 X (d + 1) C S kc ks k83) : P_60_83 X (d + 1) C S kc ks (b_60_83 R k83) := by
  intro l0 l1 l2 l3 l5 l6 l7 hp q h
  unfold b_60_83 at h
  refine mjr_iload (x := l7) D_60_83 rfl ?_
  refine mjr_iload (x := l5) D_60_85 rfl ?_
  refine mjq_icmp_ge (tgt := 147) D_60_87 rfl h (fun h => ?_) (fun h => ?_)
  · refine mjr_aload_n (x := l0) D_60_147 rfl ?_
    refine mjq_gR D_60_148 fr_4_9 h (fun v1 h => ?_)
    refine mjr_iload_n (x := l3) D_60_151 rfl ?_
    refine mjq_ic (v := (2 : Int32)) D_60_152 rfl ?_
    refine mjr_iadd D_60_153 ?_
    refine mjq_ic (v := (2 : Int32)) D_60_154 rfl ?_
    refine mjr_iload (x := l5) D_60_155 rfl ?_
    refine mjr_imul D_60_157 ?_
    refine mjr_iadd D_60_158 ?_
    refine mjq_vN (As := [.int ((l3 + (2 : Int32)) + ((2 : Int32) * l5))]) (rest := []) D_60_159 mr_4_117 V_179 rfl rfl rfl hR (Nat.le_refl _) h1 h2 h (fun  hp2 h => ?_)
    refine mjr_iload_n (x := l2) D_60_162 rfl ?_
    refine mjq_if_ne (tgt := 196) D_60_163 rfl h (fun h => ?_) (fun h => ?_)
    · exact mjG.fg (lo' := [none, none, none, none, none, none, some (.int l6), none, none]) (And.intro rfl True.intro) ((t_60_196 hR h1 h2) _ _ _ h)
    · refine mjr_aload_n (x := l0) D_60_166 rfl ?_
      refine mjq_gI D_60_167 fr_4_42 h (fun v3 h => ?_)
      refine mjq_if_ne (tgt := 196) D_60_170 rfl h (fun h => ?_) (fun h => ?_)
      · exact mjG.fg (lo' := [none, none, none, none, none, none, some (.int l6), none, none]) (And.intro rfl True.intro) ((t_60_196 hR h1 h2) _ _ _ h)
      · refine mjr_aload_n (x := l0) D_60_173 rfl ?_
        refine mjq_gR D_60_174 fr_4_19 h (fun v4 h => ?_)
        refine mjr_iload_n (x := l1) D_60_177 rfl ?_
        refine mjr_iload (x := l6) D_60_178 rfl ?_
        refine mjq_vI (As := [.int l1, .int l6]) (rest := []) D_60_180 mr_4_149 V_104 rfl rfl rfl hR (Nat.le_refl _) h1 h2 h (fun v5 hp6 h => ?_)
        refine mjq_if_ne (tgt := 196) D_60_183 rfl h (fun h => ?_) (fun h => ?_)
        · exact mjG.fg (lo' := [none, none, none, none, none, none, some (.int l6), none, none]) (And.intro rfl True.intro) ((t_60_196 hR h1 h2) _ _ _ h)
        · refine mjr_aload_n (x := l0) D_60_186 rfl ?_
          refine mjq_gR D_60_187 fr_4_9 h (fun v7 h => ?_)
          refine mjq_bi (v := (8 : Int32)) D_60_190 rfl ?_
          refine mjr_iload_n (x := l3) D_60_192 rfl ?_
          refine mjq_vN (As := [.int (8 : Int32), .int l3]) (rest := []) D_60_193 mr_4_100 V_178 rfl rfl rfl hR (Nat.le_refl _) h1 h2 h (fun  hp8 h => ?_)
          exact mjG.fg (lo' := [none, none, none, none, none, none, some (.int l6), none, none]) (And.intro rfl True.intro) ((t_60_196 hR h1 h2) _ _ _ h)
  · refine mjr_aload_n (x := l0) D_60_90 rfl ?_
    refine mjr_iload_n (x := l1) D_60_91 rfl ?_
    refine mjr_iload_n (x := l3) D_60_92 rfl ?_
    refine mjq_ic (v := (2 : Int32)) D_60_93 rfl ?_
    refine mjr_iadd D_60_94 ?_
    refine mjq_ic (v := (2 : Int32)) D_60_95 rfl ?_
    refine mjr_iload (x := l7) D_60_96 rfl ?_
    refine mjr_imul D_60_98 ?_
    refine mjr_iadd D_60_99 ?_
    refine mjr_iload_n (x := l2) D_60_100 rfl ?_
    refine mjq_vI (As := [.int l1, .int ((l3 + (2 : Int32)) + ((2 : Int32) * l7)), .int l2]) (rest := []) D_60_101 mr_4_232 V_62 rfl rfl rfl hR (Nat.le_refl _) h1 h2 h (fun v9 hp10 h => ?_)
    refine mjq_istore (lo' := [some (.ref l0), some (.int l1), some (.int l2), some (.int l3), none, some (.int l5), some (.int l6), some (.int l7), some (.int v9)]) D_60_104 (Nat.le_of_ble_eq_true rfl) rfl ?_
    refine mjr_iload (x := v9) D_60_106 rfl ?_
    refine mjq_ic (v := (-1 : Int32)) D_60_108 rfl ?_
    refine mjq_icmp_ne (tgt := 130) D_60_109 rfl h (fun h => ?_) (fun h => ?_)
    · refine mjr_iload (x := l6) D_60_130 rfl ?_
      refine mjr_iload (x := l7) D_60_132 rfl ?_
      refine mjr_iload (x := v9) D_60_134 rfl ?_
      refine mjq_scI (As := [.int l6, .int l7, .int v9]) (rest := []) D_60_136 mr_4_236 V_103 rfl rfl rfl hR (Nat.le_refl _) h1 h2 h (fun v11 hp12 h => ?_)
      refine mjq_istore (lo' := [some (.ref l0), some (.int l1), some (.int l2), some (.int l3), none, some (.int l5), some (.int v11), some (.int l7), some (.int v9)]) D_60_139 (Nat.le_of_ble_eq_true rfl) rfl ?_
      refine mjq_iinc (x := l7) (c := (1 : Int32)) (lo' := [some (.ref l0), some (.int l1), some (.int l2), some (.int l3), none, some (.int l5), some (.int v11), some (.int (l7 + (1 : Int32))), some (.int v9)]) D_60_141 rfl (Nat.le_of_ble_eq_true rfl) rfl rfl ?_
      refine mjr_goto (tgt := 83) D_60_144 rfl ?_
      exact mjG.fg (lo' := [some (.ref l0), some (.int l1), some (.int l2), some (.int l3), none, some (.int l5), some (.int v11), some (.int (l7 + (1 : Int32))), none]) (And.intro rfl (And.intro rfl (And.intro rfl (And.intro rfl (And.intro rfl (And.intro rfl (And.intro rfl True.intro))))))) (hk83 _ _ _ _ _ _ _ _ _ h)
    · refine mjr_aload_n (x := l0) D_60_112 rfl ?_
      refine mjq_gR D_60_113 fr_4_9 h (fun v13 h => ?_)
      refine mjq_ic (v := (5 : Int32)) D_60_116 rfl ?_
      refine mjr_iload_n (x := l3) D_60_117 rfl ?_
      refine mjq_ic (v := (2 : Int32)) D_60_118 rfl ?_
      refine mjr_iadd D_60_119 ?_
      refine mjq_ic (v := (2 : Int32)) D_60_120 rfl ?_
      refine mjr_iload (x := l7) D_60_121 rfl ?_
      refine mjr_imul D_60_123 ?_
      refine mjr_iadd D_60_124 ?_
      refine mjq_vN (As := [.int (5 : Int32), .int ((l3 + (2 : Int32)) + ((2 : Int32) * l7))]) (rest := []) D_60_125 mr_4_100 V_178 rfl rfl rfl hR (Nat.le_refl _) h1 h2 h (fun  hp14 h => ?_)
      refine mjq_ic (v := (0 : Int32)) D_60_128 rfl ?_
      exact mjq_ret D_60_129 rfl h1 h2 h
noncomputable def L_60_83 (R : mjR) (n : Nat) : Nat → Int32 → Int32 → Int32 → Int32 → Int32 → Int32 → mjH → mjU := Nat.rec (motive := fun _ => Nat → Int32 → Int32 → Int32 → Int32 → Int32 → Int32 → mjH → mjU) (fun _ _ _ _ _ _ _ _ => none) (fun _ self => b_60_83 R self) n
theorem T_60_83 {X : mjX} {d C S kc ks : Nat} {R : mjR} (hR : mjC R d) (h1 : kc ≤ C) (h2 : ks ≤ S) (n : Nat) : P_60_83 X (d + 1) C S kc ks (L_60_83 R n) := by
  induction n with
  | zero => intro _ _ _ _ _ _ _ _ _ h; exact mj_no h
  | succ n ih => exact t_60_83 hR h1 h2 ih
noncomputable def b_60_0 (R : mjR) (l0 : Nat) (l1 : Int32) (l2 : Int32) (hp : mjH) : mjU := gR hp l0 4 0 (fun v1 => rV hp v1 9 (bI (R 167 [.ref v1] hp) (fun v2 hp3 => gR hp3 l0 4 0 (fun v4 => rV hp3 v4 9 (bL (R 170 [.ref v4, .int v2] hp3) (fun v5 hp6 => rV hp6 l0 4 (bI (R 56 [.ref l0, .long v5] hp6) (fun v7 hp8 => (if v7 = (-1 : Int32) then gR hp8 l0 4 0 (fun v18 => rV hp8 v18 9 (bN (R 178 [.ref v18, .int (5 : Int32), .int v2] hp8) (fun  hp19 => some (some (.int (0 : Int32)), hp19)))) else rV hp8 l0 4 (bI (R 61 [.ref l0, .int v2] hp8) (fun v9 hp10 => gR hp10 l0 4 2 (fun v11 => gR hp10 v11 7 1 (fun v12 => aI hp10 v12 v7 (fun v13 => (if v9 = v13 then bI (R 102 [.int v7] hp10) (fun v14 hp15 => L_60_83 R mjN l0 l1 l2 v2 v9 v14 (0 : Int32) hp15) else gR hp10 l0 4 0 (fun v16 => rV hp10 v16 9 (bN (R 178 [.ref v16, .int (6 : Int32), .int v2] hp10) (fun  hp17 => some (some (.int (0 : Int32)), hp17)))))))))))))))))))
theorem t_60_0 {X : mjX} {d C S kc ks : Nat} {R : mjR} (hR : mjC R d) (h1 : kc ≤ C) (h2 : ks ≤ S) : P_60_0 X (d + 1) C S kc ks (b_60_0 R) := by
  intro l0 l1 l2 hp q h
  unfold b_60_0 at h
  refine mjr_aload_n (x := l0) D_60_0 rfl ?_
  refine mjq_gR D_60_1 fr_4_9 h (fun v1 h => ?_)
  refine mjq_vI (As := []) (rest := []) D_60_4 mr_4_190 V_167 rfl rfl rfl hR (Nat.le_refl _) h1 h2 h (fun v2 hp3 h => ?_)
  refine mjq_istore_n (lo' := [some (.ref l0), some (.int l1), some (.int l2), some (.int v2), none, none, none, none, none]) D_60_7 (Nat.le_of_ble_eq_true rfl) rfl ?_
  refine mjr_aload_n (x := l0) D_60_8 rfl ?_
  refine mjr_aload_n (x := l0) D_60_9 rfl ?_
  refine mjq_gR D_60_10 fr_4_9 h (fun v4 h => ?_)
  refine mjr_iload_n (x := v2) D_60_13 rfl ?_
  refine mjq_vL (As := [.int v2]) (rest := [.ref l0]) D_60_14 mr_4_92 V_170 rfl rfl rfl hR (Nat.le_refl _) h1 h2 h (fun v5 hp6 h => ?_)
  refine mjq_vI (As := [.long v5]) (rest := []) D_60_17 mr_4_96 V_56 rfl rfl rfl hR (Nat.le_refl _) h1 h2 h (fun v7 hp8 h => ?_)
  refine mjq_istore (lo' := [some (.ref l0), some (.int l1), some (.int l2), some (.int v2), some (.int v7), none, none, none, none]) D_60_20 (Nat.le_of_ble_eq_true rfl) rfl ?_
  refine mjr_iload (x := v7) D_60_22 rfl ?_
  refine mjq_ic (v := (-1 : Int32)) D_60_24 rfl ?_
  refine mjq_icmp_ne (tgt := 39) D_60_25 rfl h (fun h => ?_) (fun h => ?_)
  · refine mjr_aload_n (x := l0) D_60_39 rfl ?_
    refine mjr_iload_n (x := v2) D_60_40 rfl ?_
    refine mjq_vI (As := [.int v2]) (rest := []) D_60_41 mr_4_226 V_61 rfl rfl rfl hR (Nat.le_refl _) h1 h2 h (fun v9 hp10 h => ?_)
    refine mjq_istore (lo' := [some (.ref l0), some (.int l1), some (.int l2), some (.int v2), some (.int v7), some (.int v9), none, none, none]) D_60_44 (Nat.le_of_ble_eq_true rfl) rfl ?_
    refine mjr_iload (x := v9) D_60_46 rfl ?_
    refine mjr_aload_n (x := l0) D_60_48 rfl ?_
    refine mjq_gR D_60_49 fr_4_19 h (fun v11 h => ?_)
    refine mjq_gR D_60_52 fr_4_107 h (fun v12 h => ?_)
    refine mjr_iload (x := v7) D_60_55 rfl ?_
    refine mjq_aI D_60_57 h (fun v13 h => ?_)
    refine mjq_icmp_eq (tgt := 73) D_60_58 rfl h (fun h => ?_) (fun h => ?_)
    · refine mjr_iload (x := v7) D_60_73 rfl ?_
      refine mjq_scI (As := [.int v7]) (rest := []) D_60_75 mr_4_229 V_102 rfl rfl rfl hR (Nat.le_refl _) h1 h2 h (fun v14 hp15 h => ?_)
      refine mjq_istore (lo' := [some (.ref l0), some (.int l1), some (.int l2), some (.int v2), some (.int v7), some (.int v9), some (.int v14), none, none]) D_60_78 (Nat.le_of_ble_eq_true rfl) rfl ?_
      refine mjq_ic (v := (0 : Int32)) D_60_80 rfl ?_
      refine mjq_istore (lo' := [some (.ref l0), some (.int l1), some (.int l2), some (.int v2), some (.int v7), some (.int v9), some (.int v14), some (.int (0 : Int32)), none]) D_60_81 (Nat.le_of_ble_eq_true rfl) rfl ?_
      exact mjG.fg (lo' := [some (.ref l0), some (.int l1), some (.int l2), some (.int v2), none, some (.int v9), some (.int v14), some (.int (0 : Int32)), none]) (And.intro rfl (And.intro rfl (And.intro rfl (And.intro rfl (And.intro rfl (And.intro rfl (And.intro rfl True.intro))))))) ((T_60_83 hR h1 h2 mjN) _ _ _ _ _ _ _ _ _ h)
    · refine mjr_aload_n (x := l0) D_60_61 rfl ?_
      refine mjq_gR D_60_62 fr_4_9 h (fun v16 h => ?_)
      refine mjq_bi (v := (6 : Int32)) D_60_65 rfl ?_
      refine mjr_iload_n (x := v2) D_60_67 rfl ?_
      refine mjq_vN (As := [.int (6 : Int32), .int v2]) (rest := []) D_60_68 mr_4_100 V_178 rfl rfl rfl hR (Nat.le_refl _) h1 h2 h (fun  hp17 h => ?_)
      refine mjq_ic (v := (0 : Int32)) D_60_71 rfl ?_
      exact mjq_ret D_60_72 rfl h1 h2 h
  · refine mjr_aload_n (x := l0) D_60_28 rfl ?_
    refine mjq_gR D_60_29 fr_4_9 h (fun v18 h => ?_)
    refine mjq_ic (v := (5 : Int32)) D_60_32 rfl ?_
    refine mjr_iload_n (x := v2) D_60_33 rfl ?_
    refine mjq_vN (As := [.int (5 : Int32), .int v2]) (rest := []) D_60_34 mr_4_100 V_178 rfl rfl rfl hR (Nat.le_refl _) h1 h2 h (fun  hp19 h => ?_)
    refine mjq_ic (v := (0 : Int32)) D_60_37 rfl ?_
    exact mjq_ret D_60_38 rfl h1 h2 h
noncomputable def f_60 (R : mjR) (a0 : Nat) (a1 : Int32) (a2 : Int32) (hp : mjH) : mjU := b_60_0 R a0 a1 a2 hp
theorem c_60 {R : mjR} {d : Nat} (hR : mjC R d) {a0 : Nat} {a1 : Int32} {a2 : Int32} {hp : mjH} {q : Option Value × mjH} (h : f_60 R a0 a1 a2 hp = some q) : mjM (d + 1) 0 0 60 [.ref a0, .int a1, .int a2] hp (mjEq q) :=
  mjM_of Ja_60 (Nat.le_of_ble_eq_true rfl) (mjG.fg (lo' := [some (.ref a0), some (.int a1), some (.int a2), none, none, none, none, none, none]) (And.intro rfl (And.intro rfl (And.intro rfl True.intro))) ((t_60_0 hR (Nat.le_refl 0) (Nat.le_refl 0)) a0 a1 a2 hp q h))
def J_61 : mjI := (⟨"OwnerHeap$Judge", "ownersAt", "(I)I"⟩, 4, prog_6_method_18_code, 3, (some .int), 1, false)
theorem Ja_61 : mjMt 61 = some J_61 := by rfl
theorem D_61_0 : decode J_61.2.2.1 0 = .ok (.iconst 1, 1) := dzq_4 (by decide +kernel)
theorem D_61_1 : decode J_61.2.2.1 1 = .ok (.istore_n 2, 1) := dzq_61 (by decide +kernel)
theorem D_61_2 : decode J_61.2.2.1 2 = .ok (.iload_n 2, 1) := dzq_28 (by decide +kernel)
theorem D_61_3 : decode J_61.2.2.1 3 = .ok (.iconst 5, 1) := dzq_8 (by decide +kernel)
theorem D_61_4 : decode J_61.2.2.1 4 = .ok (.if_icmp .ge 28, 3) := dzq_162 (by decide +kernel)
theorem D_61_7 : decode J_61.2.2.1 7 = .ok (.aload_n 0, 1) := dzq_42 (by decide +kernel)
theorem D_61_8 : decode J_61.2.2.1 8 = .ok (.getfield 9, 3) := dzq_180 (by decide +kernel)
theorem D_61_11 : decode J_61.2.2.1 11 = .ok (.iload_n 1, 1) := dzq_27 (by decide +kernel)
theorem D_61_12 : decode J_61.2.2.1 12 = .ok (.iconst 1, 1) := dzq_4 (by decide +kernel)
theorem D_61_13 : decode J_61.2.2.1 13 = .ok (.iadd, 1) := dzq_96 (by decide +kernel)
theorem D_61_14 : decode J_61.2.2.1 14 = .ok (.iconst 2, 1) := dzq_5 (by decide +kernel)
theorem D_61_15 : decode J_61.2.2.1 15 = .ok (.iload_n 2, 1) := dzq_28 (by decide +kernel)
theorem D_61_16 : decode J_61.2.2.1 16 = .ok (.imul, 1) := dzq_104 (by decide +kernel)
theorem D_61_17 : decode J_61.2.2.1 17 = .ok (.iadd, 1) := dzq_96 (by decide +kernel)
theorem D_61_18 : decode J_61.2.2.1 18 = .ok (.invokevirtual 240, 3) := dzq_182 (by decide +kernel)
theorem D_61_21 : decode J_61.2.2.1 21 = .ok (.bipush 44, 2) := dzq_16 (by decide +kernel)
theorem D_61_23 : decode J_61.2.2.1 23 = .ok (.if_icmp .ne 9, 3) := dzq_160 (by decide +kernel)
theorem D_61_26 : decode J_61.2.2.1 26 = .ok (.iinc 2 1, 3) := dzq_132 (by decide +kernel)
theorem D_61_29 : decode J_61.2.2.1 29 = .ok (.goto (-27), 3) := dzq_167 (by decide +kernel)
theorem D_61_32 : decode J_61.2.2.1 32 = .ok (.iload_n 2, 1) := dzq_28 (by decide +kernel)
theorem D_61_33 : decode J_61.2.2.1 33 = .ok (.ireturn, 1) := dzq_172 (by decide +kernel)
def P_61_32 (X : mjX) (d C S kc ks : Nat) (k : Int32 → mjH → mjU) : Prop := ∀ (l2 : Int32) (hp : mjH) (q : Option Value × mjH), k l2 hp = some q → mjG X d C S J_61 (mjEq q) 32 [none, none, some (.int l2)] [] hp kc ks
def P_61_2 (X : mjX) (d C S kc ks : Nat) (k : Nat → Int32 → Int32 → mjH → mjU) : Prop := ∀ (l0 : Nat) (l1 : Int32) (l2 : Int32) (hp : mjH) (q : Option Value × mjH), k l0 l1 l2 hp = some q → mjG X d C S J_61 (mjEq q) 2 [some (.ref l0), some (.int l1), some (.int l2)] [] hp kc ks
def P_61_0 (X : mjX) (d C S kc ks : Nat) (k : Nat → Int32 → mjH → mjU) : Prop := ∀ (l0 : Nat) (l1 : Int32) (hp : mjH) (q : Option Value × mjH), k l0 l1 hp = some q → mjG X d C S J_61 (mjEq q) 0 [some (.ref l0), some (.int l1), none] [] hp kc ks
noncomputable def b_61_32 (R : mjR) (l2 : Int32) (hp : mjH) : mjU := some (some (.int l2), hp)
theorem t_61_32 {X : mjX} {d C S kc ks : Nat} {R : mjR} (hR : mjC R d) (h1 : kc ≤ C) (h2 : ks ≤ S) : P_61_32 X (d + 1) C S kc ks (b_61_32 R) := by
  intro l2 hp q h
  unfold b_61_32 at h
  refine mjr_iload_n (x := l2) D_61_32 rfl ?_
  exact mjq_ret D_61_33 rfl h1 h2 h
noncomputable def b_61_2 (R : mjR) (k2 : Nat → Int32 → Int32 → mjH → mjU) (l0 : Nat) (l1 : Int32) (l2 : Int32) (hp : mjH) : mjU := (if (5 : Int32) ≤ l2 then b_61_32 R l2 hp else gR hp l0 4 0 (fun v1 => rV hp v1 9 (bI (R 180 [.ref v1, .int ((l1 + (1 : Int32)) + ((2 : Int32) * l2))] hp) (fun v2 hp3 => (if v2 = (44 : Int32) then k2 l0 l1 (l2 + (1 : Int32)) hp3 else b_61_32 R l2 hp3)))))
theorem t_61_2 {X : mjX} {d C S kc ks : Nat} {R : mjR} (hR : mjC R d) (h1 : kc ≤ C) (h2 : ks ≤ S) {k2 : Nat → Int32 → Int32 → mjH → mjU} (hk2 : P_61_2 X (d + 1) C S kc ks k2) : P_61_2 X (d + 1) C S kc ks (b_61_2 R k2) := by
  intro l0 l1 l2 hp q h
  unfold b_61_2 at h
  refine mjr_iload_n (x := l2) D_61_2 rfl ?_
  refine mjq_ic (v := (5 : Int32)) D_61_3 rfl ?_
  refine mjq_icmp_ge (tgt := 32) D_61_4 rfl h (fun h => ?_) (fun h => ?_)
  · exact mjG.fg (lo' := [none, none, some (.int l2)]) (And.intro rfl True.intro) ((t_61_32 hR h1 h2) _ _ _ h)
  · refine mjr_aload_n (x := l0) D_61_7 rfl ?_
    refine mjq_gR D_61_8 fr_4_9 h (fun v1 h => ?_)
    refine mjr_iload_n (x := l1) D_61_11 rfl ?_
    refine mjq_ic (v := (1 : Int32)) D_61_12 rfl ?_
    refine mjr_iadd D_61_13 ?_
    refine mjq_ic (v := (2 : Int32)) D_61_14 rfl ?_
    refine mjr_iload_n (x := l2) D_61_15 rfl ?_
    refine mjr_imul D_61_16 ?_
    refine mjr_iadd D_61_17 ?_
    refine mjq_vI (As := [.int ((l1 + (1 : Int32)) + ((2 : Int32) * l2))]) (rest := []) D_61_18 mr_4_240 V_180 rfl rfl rfl hR (Nat.le_refl _) h1 h2 h (fun v2 hp3 h => ?_)
    refine mjq_bi (v := (44 : Int32)) D_61_21 rfl ?_
    refine mjq_icmp_ne (tgt := 32) D_61_23 rfl h (fun h => ?_) (fun h => ?_)
    · exact mjG.fg (lo' := [none, none, some (.int l2)]) (And.intro rfl True.intro) ((t_61_32 hR h1 h2) _ _ _ h)
    · refine mjq_iinc (x := l2) (c := (1 : Int32)) (lo' := [some (.ref l0), some (.int l1), some (.int (l2 + (1 : Int32)))]) D_61_26 rfl (Nat.le_of_ble_eq_true rfl) rfl rfl ?_
      refine mjr_goto (tgt := 2) D_61_29 rfl ?_
      exact hk2 _ _ _ _ _ h
noncomputable def L_61_2 (R : mjR) (n : Nat) : Nat → Int32 → Int32 → mjH → mjU := Nat.rec (motive := fun _ => Nat → Int32 → Int32 → mjH → mjU) (fun _ _ _ _ => none) (fun _ self => b_61_2 R self) n
theorem T_61_2 {X : mjX} {d C S kc ks : Nat} {R : mjR} (hR : mjC R d) (h1 : kc ≤ C) (h2 : ks ≤ S) (n : Nat) : P_61_2 X (d + 1) C S kc ks (L_61_2 R n) := by
  induction n with
  | zero => intro _ _ _ _ _ h; exact mj_no h
  | succ n ih => exact t_61_2 hR h1 h2 ih
noncomputable def b_61_0 (R : mjR) (l0 : Nat) (l1 : Int32) (hp : mjH) : mjU := L_61_2 R mjN l0 l1 (1 : Int32) hp
theorem t_61_0 {X : mjX} {d C S kc ks : Nat} {R : mjR} (hR : mjC R d) (h1 : kc ≤ C) (h2 : ks ≤ S) : P_61_0 X (d + 1) C S kc ks (b_61_0 R) := by
  intro l0 l1 hp q h
  unfold b_61_0 at h
  refine mjq_ic (v := (1 : Int32)) D_61_0 rfl ?_
  refine mjq_istore_n (lo' := [some (.ref l0), some (.int l1), some (.int (1 : Int32))]) D_61_1 (Nat.le_of_ble_eq_true rfl) rfl ?_
  exact (T_61_2 hR h1 h2 mjN) _ _ _ _ _ h
noncomputable def f_61 (R : mjR) (a0 : Nat) (a1 : Int32) (hp : mjH) : mjU := b_61_0 R a0 a1 hp
theorem c_61 {R : mjR} {d : Nat} (hR : mjC R d) {a0 : Nat} {a1 : Int32} {hp : mjH} {q : Option Value × mjH} (h : f_61 R a0 a1 hp = some q) : mjM (d + 1) 0 0 61 [.ref a0, .int a1] hp (mjEq q) :=
  mjM_of Ja_61 (Nat.le_of_ble_eq_true rfl) (mjG.fg (lo' := [some (.ref a0), some (.int a1), none]) (And.intro rfl (And.intro rfl True.intro)) ((t_61_0 hR (Nat.le_refl 0) (Nat.le_refl 0)) a0 a1 hp q h))
def J_62 : mjI := (⟨"OwnerHeap$Judge", "ownerHere", "(IIZ)I"⟩, 4, prog_6_method_19_code, 4, (some .int), 3, false)
theorem Ja_62 : mjMt 62 = some J_62 := by rfl
theorem D_62_0 : decode J_62.2.2.1 0 = .ok (.aload_n 0, 1) := dzq_42 (by decide +kernel)
theorem D_62_1 : decode J_62.2.2.1 1 = .ok (.getfield 9, 3) := dzq_180 (by decide +kernel)
theorem D_62_4 : decode J_62.2.2.1 4 = .ok (.iload_n 2, 1) := dzq_28 (by decide +kernel)
theorem D_62_5 : decode J_62.2.2.1 5 = .ok (.invokevirtual 240, 3) := dzq_182 (by decide +kernel)
theorem D_62_8 : decode J_62.2.2.1 8 = .ok (.lookupswitch 46 #[(12, 30), (13, 28)], 28) := by decide +kernel
theorem D_62_36 : decode J_62.2.2.1 36 = .ok (.iconst 5, 1) := dzq_8 (by decide +kernel)
theorem D_62_37 : decode J_62.2.2.1 37 = .ok (.ireturn, 1) := dzq_172 (by decide +kernel)
theorem D_62_38 : decode J_62.2.2.1 38 = .ok (.iload_n 1, 1) := dzq_27 (by decide +kernel)
theorem D_62_39 : decode J_62.2.2.1 39 = .ok (.iconst (-1), 1) := dzq_2 (by decide +kernel)
theorem D_62_40 : decode J_62.2.2.1 40 = .ok (.if_icmp .eq 7, 3) := dzq_159 (by decide +kernel)
theorem D_62_43 : decode J_62.2.2.1 43 = .ok (.iload_n 3, 1) := dzq_29 (by decide +kernel)
theorem D_62_44 : decode J_62.2.2.1 44 = .ok (.ifCond .eq 7, 3) := dzq_153 (by decide +kernel)
theorem D_62_47 : decode J_62.2.2.1 47 = .ok (.iconst (-1), 1) := dzq_2 (by decide +kernel)
theorem D_62_48 : decode J_62.2.2.1 48 = .ok (.goto 5, 3) := dzq_167 (by decide +kernel)
theorem D_62_51 : decode J_62.2.2.1 51 = .ok (.bipush 6, 2) := dzq_16 (by decide +kernel)
theorem D_62_53 : decode J_62.2.2.1 53 = .ok (.ireturn, 1) := dzq_172 (by decide +kernel)
theorem D_62_54 : decode J_62.2.2.1 54 = .ok (.iload_n 1, 1) := dzq_27 (by decide +kernel)
theorem D_62_55 : decode J_62.2.2.1 55 = .ok (.iconst (-1), 1) := dzq_2 (by decide +kernel)
theorem D_62_56 : decode J_62.2.2.1 56 = .ok (.if_icmp .ne 7, 3) := dzq_160 (by decide +kernel)
theorem D_62_59 : decode J_62.2.2.1 59 = .ok (.iconst (-1), 1) := dzq_2 (by decide +kernel)
theorem D_62_60 : decode J_62.2.2.1 60 = .ok (.goto 16, 3) := dzq_167 (by decide +kernel)
theorem D_62_63 : decode J_62.2.2.1 63 = .ok (.aload_n 0, 1) := dzq_42 (by decide +kernel)
theorem D_62_64 : decode J_62.2.2.1 64 = .ok (.iload_n 1, 1) := dzq_27 (by decide +kernel)
theorem D_62_65 : decode J_62.2.2.1 65 = .ok (.aload_n 0, 1) := dzq_42 (by decide +kernel)
theorem D_62_66 : decode J_62.2.2.1 66 = .ok (.getfield 9, 3) := dzq_180 (by decide +kernel)
theorem D_62_69 : decode J_62.2.2.1 69 = .ok (.iload_n 2, 1) := dzq_28 (by decide +kernel)
theorem D_62_70 : decode J_62.2.2.1 70 = .ok (.invokevirtual 92, 3) := dzq_182 (by decide +kernel)
theorem D_62_73 : decode J_62.2.2.1 73 = .ok (.invokevirtual 110, 3) := dzq_182 (by decide +kernel)
theorem D_62_76 : decode J_62.2.2.1 76 = .ok (.ireturn, 1) := dzq_172 (by decide +kernel)
def P_62_47 (X : mjX) (d C S kc ks : Nat) (k : mjH → mjU) : Prop := ∀  (hp : mjH) (q : Option Value × mjH), k  hp = some q → mjG X d C S J_62 (mjEq q) 47 [none, none, none, none] [] hp kc ks
def P_62_0 (X : mjX) (d C S kc ks : Nat) (k : Nat → Int32 → Int32 → Int32 → mjH → mjU) : Prop := ∀ (l0 : Nat) (l1 : Int32) (l2 : Int32) (l3 : Int32) (hp : mjH) (q : Option Value × mjH), k l0 l1 l2 l3 hp = some q → mjG X d C S J_62 (mjEq q) 0 [some (.ref l0), some (.int l1), some (.int l2), some (.int l3)] [] hp kc ks
noncomputable def b_62_47 (R : mjR)  (hp : mjH) : mjU := some (some (.int (-1 : Int32)), hp)
theorem t_62_47 {X : mjX} {d C S kc ks : Nat} {R : mjR} (hR : mjC R d) (h1 : kc ≤ C) (h2 : ks ≤ S) : P_62_47 X (d + 1) C S kc ks (b_62_47 R) := by
  intro  hp q h
  unfold b_62_47 at h
  refine mjq_ic (v := (-1 : Int32)) D_62_47 rfl ?_
  refine mjr_goto (tgt := 53) D_62_48 rfl ?_
  exact mjq_ret D_62_53 rfl h1 h2 h
noncomputable def b_62_0 (R : mjR) (l0 : Nat) (l1 : Int32) (l2 : Int32) (l3 : Int32) (hp : mjH) : mjU := gR hp l0 4 0 (fun v1 => rV hp v1 9 (bI (R 180 [.ref v1, .int l2] hp) (fun v2 hp3 => (if v2 = (12 : Int32) then (if l1 = (-1 : Int32) then b_62_47 R hp3 else (if l3 = 0 then some (some (.int (6 : Int32)), hp3) else b_62_47 R hp3)) else if v2 = (13 : Int32) then some (some (.int (5 : Int32)), hp3) else (if l1 = (-1 : Int32) then some (some (.int (-1 : Int32)), hp3) else gR hp3 l0 4 0 (fun v6 => rV hp3 v6 9 (bL (R 170 [.ref v6, .int l2] hp3) (fun v7 hp8 => rV hp8 l0 4 (bI (R 58 [.ref l0, .int l1, .long v7] hp8) (fun v9 hp10 => some (some (.int v9), hp10)))))))))))
theorem t_62_0 {X : mjX} {d C S kc ks : Nat} {R : mjR} (hR : mjC R d) (h1 : kc ≤ C) (h2 : ks ≤ S) : P_62_0 X (d + 1) C S kc ks (b_62_0 R) := by
  intro l0 l1 l2 l3 hp q h
  unfold b_62_0 at h
  refine mjr_aload_n (x := l0) D_62_0 rfl ?_
  refine mjq_gR D_62_1 fr_4_9 h (fun v1 h => ?_)
  refine mjr_iload_n (x := l2) D_62_4 rfl ?_
  refine mjq_vI (As := [.int l2]) (rest := []) D_62_5 mr_4_240 V_180 rfl rfl rfl hR (Nat.le_refl _) h1 h2 h (fun v2 hp3 h => ?_)
  refine mjq_lsw (c := (12 : Int32)) (tgt := 38) D_62_8 rfl (by decide) h (fun h => ?_) (fun n4 h => ?_)
  · refine mjr_iload_n (x := l1) D_62_38 rfl ?_
    refine mjq_ic (v := (-1 : Int32)) D_62_39 rfl ?_
    refine mjq_icmp_eq (tgt := 47) D_62_40 rfl h (fun h => ?_) (fun h => ?_)
    · exact mjG.fg (lo' := [none, none, none, none]) True.intro ((t_62_47 hR h1 h2) _ _ h)
    · refine mjr_iload_n (x := l3) D_62_43 rfl ?_
      refine mjq_if_eq (tgt := 51) D_62_44 rfl h (fun h => ?_) (fun h => ?_)
      · refine mjq_bi (v := (6 : Int32)) D_62_51 rfl ?_
        exact mjq_ret D_62_53 rfl h1 h2 h
      · exact mjG.fg (lo' := [none, none, none, none]) True.intro ((t_62_47 hR h1 h2) _ _ h)
  refine mjq_lsw (c := (13 : Int32)) (tgt := 36) D_62_8 rfl (by decide) h (fun h => ?_) (fun n5 h => ?_)
  · refine mjq_ic (v := (5 : Int32)) D_62_36 rfl ?_
    exact mjq_ret D_62_37 rfl h1 h2 h
  refine mjq_lswD (tgt := 54) [(12 : Int32), (13 : Int32)] D_62_8 rfl (by decide) (mj_all1 n4 (mj_all1 n5 mj_all0)) rfl ?_
  refine mjr_iload_n (x := l1) D_62_54 rfl ?_
  refine mjq_ic (v := (-1 : Int32)) D_62_55 rfl ?_
  refine mjq_icmp_ne (tgt := 63) D_62_56 rfl h (fun h => ?_) (fun h => ?_)
  · refine mjr_aload_n (x := l0) D_62_63 rfl ?_
    refine mjr_iload_n (x := l1) D_62_64 rfl ?_
    refine mjr_aload_n (x := l0) D_62_65 rfl ?_
    refine mjq_gR D_62_66 fr_4_9 h (fun v6 h => ?_)
    refine mjr_iload_n (x := l2) D_62_69 rfl ?_
    refine mjq_vL (As := [.int l2]) (rest := [.int l1, .ref l0]) D_62_70 mr_4_92 V_170 rfl rfl rfl hR (Nat.le_refl _) h1 h2 h (fun v7 hp8 h => ?_)
    refine mjq_vI (As := [.int l1, .long v7]) (rest := []) D_62_73 mr_4_110 V_58 rfl rfl rfl hR (Nat.le_refl _) h1 h2 h (fun v9 hp10 h => ?_)
    exact mjq_ret D_62_76 rfl h1 h2 h
  · refine mjq_ic (v := (-1 : Int32)) D_62_59 rfl ?_
    refine mjr_goto (tgt := 76) D_62_60 rfl ?_
    exact mjq_ret D_62_76 rfl h1 h2 h
noncomputable def f_62 (R : mjR) (a0 : Nat) (a1 : Int32) (a2 : Int32) (a3 : Int32) (hp : mjH) : mjU := b_62_0 R a0 a1 a2 a3 hp
theorem c_62 {R : mjR} {d : Nat} (hR : mjC R d) {a0 : Nat} {a1 : Int32} {a2 : Int32} {a3 : Int32} {hp : mjH} {q : Option Value × mjH} (h : f_62 R a0 a1 a2 a3 hp = some q) : mjM (d + 1) 0 0 62 [.ref a0, .int a1, .int a2, .int a3] hp (mjEq q) :=
  mjM_of Ja_62 (Nat.le_of_ble_eq_true rfl) (mjG.fg (lo' := [some (.ref a0), some (.int a1), some (.int a2), some (.int a3)]) (And.intro rfl (And.intro rfl (And.intro rfl (And.intro rfl True.intro)))) ((t_62_0 hR (Nat.le_refl 0) (Nat.le_refl 0)) a0 a1 a2 a3 hp q h))
def J_63 : mjI := (⟨"OwnerHeap$Judge", "judgeCircles", "()V"⟩, 4, prog_6_method_8_code, 4, none, 0, false)
theorem Ja_63 : mjMt 63 = some J_63 := by rfl
theorem D_63_0 : decode J_63.2.2.1 0 = .ok (.iconst 0, 1) := dzq_3 (by decide +kernel)
theorem D_63_1 : decode J_63.2.2.1 1 = .ok (.istore_n 1, 1) := dzq_60 (by decide +kernel)
theorem D_63_2 : decode J_63.2.2.1 2 = .ok (.iload_n 1, 1) := dzq_27 (by decide +kernel)
theorem D_63_3 : decode J_63.2.2.1 3 = .ok (.aload_n 0, 1) := dzq_42 (by decide +kernel)
theorem D_63_4 : decode J_63.2.2.1 4 = .ok (.getfield 19, 3) := dzq_180 (by decide +kernel)
theorem D_63_7 : decode J_63.2.2.1 7 = .ok (.getfield 82, 3) := dzq_180 (by decide +kernel)
theorem D_63_10 : decode J_63.2.2.1 10 = .ok (.if_icmp .ge 84, 3) := dzq_162 (by decide +kernel)
theorem D_63_13 : decode J_63.2.2.1 13 = .ok (.aload_n 0, 1) := dzq_42 (by decide +kernel)
theorem D_63_14 : decode J_63.2.2.1 14 = .ok (.getfield 9, 3) := dzq_180 (by decide +kernel)
theorem D_63_17 : decode J_63.2.2.1 17 = .ok (.invokevirtual 58, 3) := dzq_182 (by decide +kernel)
theorem D_63_20 : decode J_63.2.2.1 20 = .ok (.ifCond .eq 74, 3) := dzq_153 (by decide +kernel)
theorem D_63_23 : decode J_63.2.2.1 23 = .ok (.aload_n 0, 1) := dzq_42 (by decide +kernel)
theorem D_63_24 : decode J_63.2.2.1 24 = .ok (.getfield 19, 3) := dzq_180 (by decide +kernel)
theorem D_63_27 : decode J_63.2.2.1 27 = .ok (.iload_n 1, 1) := dzq_27 (by decide +kernel)
theorem D_63_28 : decode J_63.2.2.1 28 = .ok (.invokevirtual 132, 3) := dzq_182 (by decide +kernel)
theorem D_63_31 : decode J_63.2.2.1 31 = .ok (.istore_n 2, 1) := dzq_61 (by decide +kernel)
theorem D_63_32 : decode J_63.2.2.1 32 = .ok (.iconst 0, 1) := dzq_3 (by decide +kernel)
theorem D_63_33 : decode J_63.2.2.1 33 = .ok (.istore_n 3, 1) := dzq_62 (by decide +kernel)
theorem D_63_34 : decode J_63.2.2.1 34 = .ok (.iload_n 3, 1) := dzq_29 (by decide +kernel)
theorem D_63_35 : decode J_63.2.2.1 35 = .ok (.bipush 16, 2) := dzq_16 (by decide +kernel)
theorem D_63_37 : decode J_63.2.2.1 37 = .ok (.if_icmp .ge 28, 3) := dzq_162 (by decide +kernel)
theorem D_63_40 : decode J_63.2.2.1 40 = .ok (.iload_n 2, 1) := dzq_28 (by decide +kernel)
theorem D_63_41 : decode J_63.2.2.1 41 = .ok (.iconst (-1), 1) := dzq_2 (by decide +kernel)
theorem D_63_42 : decode J_63.2.2.1 42 = .ok (.if_icmp .eq 23, 3) := dzq_159 (by decide +kernel)
theorem D_63_45 : decode J_63.2.2.1 45 = .ok (.iload_n 2, 1) := dzq_28 (by decide +kernel)
theorem D_63_46 : decode J_63.2.2.1 46 = .ok (.iload_n 1, 1) := dzq_27 (by decide +kernel)
theorem D_63_47 : decode J_63.2.2.1 47 = .ok (.if_icmp .eq 18, 3) := dzq_159 (by decide +kernel)
theorem D_63_50 : decode J_63.2.2.1 50 = .ok (.aload_n 0, 1) := dzq_42 (by decide +kernel)
theorem D_63_51 : decode J_63.2.2.1 51 = .ok (.getfield 19, 3) := dzq_180 (by decide +kernel)
theorem D_63_54 : decode J_63.2.2.1 54 = .ok (.iload_n 2, 1) := dzq_28 (by decide +kernel)
theorem D_63_55 : decode J_63.2.2.1 55 = .ok (.invokevirtual 132, 3) := dzq_182 (by decide +kernel)
theorem D_63_58 : decode J_63.2.2.1 58 = .ok (.istore_n 2, 1) := dzq_61 (by decide +kernel)
theorem D_63_59 : decode J_63.2.2.1 59 = .ok (.iinc 3 1, 3) := dzq_132 (by decide +kernel)
theorem D_63_62 : decode J_63.2.2.1 62 = .ok (.goto (-28), 3) := dzq_167 (by decide +kernel)
theorem D_63_65 : decode J_63.2.2.1 65 = .ok (.iload_n 2, 1) := dzq_28 (by decide +kernel)
theorem D_63_66 : decode J_63.2.2.1 66 = .ok (.iload_n 1, 1) := dzq_27 (by decide +kernel)
theorem D_63_67 : decode J_63.2.2.1 67 = .ok (.if_icmp .ne 21, 3) := dzq_160 (by decide +kernel)
theorem D_63_70 : decode J_63.2.2.1 70 = .ok (.aload_n 0, 1) := dzq_42 (by decide +kernel)
theorem D_63_71 : decode J_63.2.2.1 71 = .ok (.getfield 9, 3) := dzq_180 (by decide +kernel)
theorem D_63_74 : decode J_63.2.2.1 74 = .ok (.bipush 11, 2) := dzq_16 (by decide +kernel)
theorem D_63_76 : decode J_63.2.2.1 76 = .ok (.aload_n 0, 1) := dzq_42 (by decide +kernel)
theorem D_63_77 : decode J_63.2.2.1 77 = .ok (.getfield 15, 3) := dzq_180 (by decide +kernel)
theorem D_63_80 : decode J_63.2.2.1 80 = .ok (.getfield 114, 3) := dzq_180 (by decide +kernel)
theorem D_63_83 : decode J_63.2.2.1 83 = .ok (.iload_n 1, 1) := dzq_27 (by decide +kernel)
theorem D_63_84 : decode J_63.2.2.1 84 = .ok (.iaload, 1) := dzq_46 (by decide +kernel)
theorem D_63_85 : decode J_63.2.2.1 85 = .ok (.invokevirtual 100, 3) := dzq_182 (by decide +kernel)
theorem D_63_88 : decode J_63.2.2.1 88 = .ok (.iinc 1 1, 3) := dzq_132 (by decide +kernel)
theorem D_63_91 : decode J_63.2.2.1 91 = .ok (.goto (-89), 3) := dzq_167 (by decide +kernel)
theorem D_63_94 : decode J_63.2.2.1 94 = .ok (.return_, 1) := dzq_177 (by decide +kernel)
def P_63_88 (X : mjX) (d C S kc ks : Nat) (k : Nat → Int32 → mjH → mjU) : Prop := ∀ (l0 : Nat) (l1 : Int32) (hp : mjH) (q : Option Value × mjH), k l0 l1 hp = some q → mjG X d C S J_63 (mjEq q) 88 [some (.ref l0), some (.int l1), none, none] [] hp kc ks
def P_63_65 (X : mjX) (d C S kc ks : Nat) (k : Nat → Int32 → Int32 → mjH → mjU) : Prop := ∀ (l0 : Nat) (l1 : Int32) (l2 : Int32) (hp : mjH) (q : Option Value × mjH), k l0 l1 l2 hp = some q → mjG X d C S J_63 (mjEq q) 65 [some (.ref l0), some (.int l1), some (.int l2), none] [] hp kc ks
def P_63_34 (X : mjX) (d C S kc ks : Nat) (k : Nat → Int32 → Int32 → Int32 → mjH → mjU) : Prop := ∀ (l0 : Nat) (l1 : Int32) (l2 : Int32) (l3 : Int32) (hp : mjH) (q : Option Value × mjH), k l0 l1 l2 l3 hp = some q → mjG X d C S J_63 (mjEq q) 34 [some (.ref l0), some (.int l1), some (.int l2), some (.int l3)] [] hp kc ks
def P_63_2 (X : mjX) (d C S kc ks : Nat) (k : Nat → Int32 → mjH → mjU) : Prop := ∀ (l0 : Nat) (l1 : Int32) (hp : mjH) (q : Option Value × mjH), k l0 l1 hp = some q → mjG X d C S J_63 (mjEq q) 2 [some (.ref l0), some (.int l1), none, none] [] hp kc ks
def P_63_0 (X : mjX) (d C S kc ks : Nat) (k : Nat → mjH → mjU) : Prop := ∀ (l0 : Nat) (hp : mjH) (q : Option Value × mjH), k l0 hp = some q → mjG X d C S J_63 (mjEq q) 0 [some (.ref l0), none, none, none] [] hp kc ks
noncomputable def b_63_88 (R : mjR) (k2 : Nat → Int32 → mjH → mjU) (l0 : Nat) (l1 : Int32) (hp : mjH) : mjU := k2 l0 (l1 + (1 : Int32)) hp
theorem t_63_88 {X : mjX} {d C S kc ks : Nat} {R : mjR} (hR : mjC R d) (h1 : kc ≤ C) (h2 : ks ≤ S) {k2 : Nat → Int32 → mjH → mjU} (hk2 : P_63_2 X (d + 1) C S kc ks k2) : P_63_88 X (d + 1) C S kc ks (b_63_88 R k2) := by
  intro l0 l1 hp q h
  unfold b_63_88 at h
  refine mjq_iinc (x := l1) (c := (1 : Int32)) (lo' := [some (.ref l0), some (.int (l1 + (1 : Int32))), none, none]) D_63_88 rfl (Nat.le_of_ble_eq_true rfl) rfl rfl ?_
  refine mjr_goto (tgt := 2) D_63_91 rfl ?_
  exact hk2 _ _ _ _ h
noncomputable def b_63_65 (R : mjR) (k2 : Nat → Int32 → mjH → mjU) (l0 : Nat) (l1 : Int32) (l2 : Int32) (hp : mjH) : mjU := (if l2 = l1 then gR hp l0 4 0 (fun v1 => gR hp l0 4 1 (fun v2 => gR hp v2 8 4 (fun v3 => aI hp v3 l1 (fun v4 => rV hp v1 9 (bN (R 178 [.ref v1, .int (11 : Int32), .int v4] hp) (fun  hp5 => b_63_88 R k2 l0 l1 hp5)))))) else b_63_88 R k2 l0 l1 hp)
theorem t_63_65 {X : mjX} {d C S kc ks : Nat} {R : mjR} (hR : mjC R d) (h1 : kc ≤ C) (h2 : ks ≤ S) {k2 : Nat → Int32 → mjH → mjU} (hk2 : P_63_2 X (d + 1) C S kc ks k2) : P_63_65 X (d + 1) C S kc ks (b_63_65 R k2) := by
  intro l0 l1 l2 hp q h
  unfold b_63_65 at h
  refine mjr_iload_n (x := l2) D_63_65 rfl ?_
  refine mjr_iload_n (x := l1) D_63_66 rfl ?_
  refine mjq_icmp_ne (tgt := 88) D_63_67 rfl h (fun h => ?_) (fun h => ?_)
  · exact mjG.fg (lo' := [some (.ref l0), some (.int l1), none, none]) (And.intro rfl (And.intro rfl True.intro)) ((t_63_88 hR h1 h2 hk2) _ _ _ _ h)
  · refine mjr_aload_n (x := l0) D_63_70 rfl ?_
    refine mjq_gR D_63_71 fr_4_9 h (fun v1 h => ?_)
    refine mjq_bi (v := (11 : Int32)) D_63_74 rfl ?_
    refine mjr_aload_n (x := l0) D_63_76 rfl ?_
    refine mjq_gR D_63_77 fr_4_15 h (fun v2 h => ?_)
    refine mjq_gR D_63_80 fr_4_114 h (fun v3 h => ?_)
    refine mjr_iload_n (x := l1) D_63_83 rfl ?_
    refine mjq_aI D_63_84 h (fun v4 h => ?_)
    refine mjq_vN (As := [.int (11 : Int32), .int v4]) (rest := []) D_63_85 mr_4_100 V_178 rfl rfl rfl hR (Nat.le_refl _) h1 h2 h (fun  hp5 h => ?_)
    exact mjG.fg (lo' := [some (.ref l0), some (.int l1), none, none]) (And.intro rfl (And.intro rfl True.intro)) ((t_63_88 hR h1 h2 hk2) _ _ _ _ h)
noncomputable def b_63_34 (R : mjR) (k2 : Nat → Int32 → mjH → mjU) (k34 : Nat → Int32 → Int32 → Int32 → mjH → mjU) (l0 : Nat) (l1 : Int32) (l2 : Int32) (l3 : Int32) (hp : mjH) : mjU := (if (16 : Int32) ≤ l3 then b_63_65 R k2 l0 l1 l2 hp else (if l2 = (-1 : Int32) then b_63_65 R k2 l0 l1 l2 hp else (if l2 = l1 then b_63_65 R k2 l0 l1 l2 hp else gR hp l0 4 2 (fun v1 => rV hp v1 7 (bI (R 108 [.ref v1, .int l2] hp) (fun v2 hp3 => k34 l0 l1 v2 (l3 + (1 : Int32)) hp3))))))
theorem t_63_34 {X : mjX} {d C S kc ks : Nat} {R : mjR} (hR : mjC R d) (h1 : kc ≤ C) (h2 : ks ≤ S) {k2 : Nat → Int32 → mjH → mjU} (hk2 : P_63_2 X (d + 1) C S kc ks k2) {k34 : Nat → Int32 → Int32 → Int32 → mjH → mjU} (hk34 : P_63_34 X (d + 1) C S kc ks k34) : P_63_34 X (d + 1) C S kc ks (b_63_34 R k2 k34) := by
  intro l0 l1 l2 l3 hp q h
  unfold b_63_34 at h
  refine mjr_iload_n (x := l3) D_63_34 rfl ?_
  refine mjq_bi (v := (16 : Int32)) D_63_35 rfl ?_
  refine mjq_icmp_ge (tgt := 65) D_63_37 rfl h (fun h => ?_) (fun h => ?_)
  · exact mjG.fg (lo' := [some (.ref l0), some (.int l1), some (.int l2), none]) (And.intro rfl (And.intro rfl (And.intro rfl True.intro))) ((t_63_65 hR h1 h2 hk2) _ _ _ _ _ h)
  · refine mjr_iload_n (x := l2) D_63_40 rfl ?_
    refine mjq_ic (v := (-1 : Int32)) D_63_41 rfl ?_
    refine mjq_icmp_eq (tgt := 65) D_63_42 rfl h (fun h => ?_) (fun h => ?_)
    · exact mjG.fg (lo' := [some (.ref l0), some (.int l1), some (.int l2), none]) (And.intro rfl (And.intro rfl (And.intro rfl True.intro))) ((t_63_65 hR h1 h2 hk2) _ _ _ _ _ h)
    · refine mjr_iload_n (x := l2) D_63_45 rfl ?_
      refine mjr_iload_n (x := l1) D_63_46 rfl ?_
      refine mjq_icmp_eq (tgt := 65) D_63_47 rfl h (fun h => ?_) (fun h => ?_)
      · exact mjG.fg (lo' := [some (.ref l0), some (.int l1), some (.int l2), none]) (And.intro rfl (And.intro rfl (And.intro rfl True.intro))) ((t_63_65 hR h1 h2 hk2) _ _ _ _ _ h)
      · refine mjr_aload_n (x := l0) D_63_50 rfl ?_
        refine mjq_gR D_63_51 fr_4_19 h (fun v1 h => ?_)
        refine mjr_iload_n (x := l2) D_63_54 rfl ?_
        refine mjq_vI (As := [.int l2]) (rest := []) D_63_55 mr_4_132 V_108 rfl rfl rfl hR (Nat.le_refl _) h1 h2 h (fun v2 hp3 h => ?_)
        refine mjq_istore_n (lo' := [some (.ref l0), some (.int l1), some (.int v2), some (.int l3)]) D_63_58 (Nat.le_of_ble_eq_true rfl) rfl ?_
        refine mjq_iinc (x := l3) (c := (1 : Int32)) (lo' := [some (.ref l0), some (.int l1), some (.int v2), some (.int (l3 + (1 : Int32)))]) D_63_59 rfl (Nat.le_of_ble_eq_true rfl) rfl rfl ?_
        refine mjr_goto (tgt := 34) D_63_62 rfl ?_
        exact hk34 _ _ _ _ _ _ h
noncomputable def L_63_34 (R : mjR) (k2 : Nat → Int32 → mjH → mjU) (n : Nat) : Nat → Int32 → Int32 → Int32 → mjH → mjU := Nat.rec (motive := fun _ => Nat → Int32 → Int32 → Int32 → mjH → mjU) (fun _ _ _ _ _ => none) (fun _ self => b_63_34 R k2 self) n
theorem T_63_34 {X : mjX} {d C S kc ks : Nat} {R : mjR} (hR : mjC R d) (h1 : kc ≤ C) (h2 : ks ≤ S) {k2 : Nat → Int32 → mjH → mjU} (hk2 : P_63_2 X (d + 1) C S kc ks k2) (n : Nat) : P_63_34 X (d + 1) C S kc ks (L_63_34 R k2 n) := by
  induction n with
  | zero => intro _ _ _ _ _ _ h; exact mj_no h
  | succ n ih => exact t_63_34 hR h1 h2 hk2 ih
noncomputable def b_63_2 (R : mjR) (k2 : Nat → Int32 → mjH → mjU) (l0 : Nat) (l1 : Int32) (hp : mjH) : mjU := gR hp l0 4 2 (fun v1 => gI hp v1 7 0 (fun v2 => (if v2 ≤ l1 then some (none, hp) else gR hp l0 4 0 (fun v3 => rV hp v3 9 (bI (R 172 [.ref v3] hp) (fun v4 hp5 => (if v4 = 0 then some (none, hp5) else gR hp5 l0 4 2 (fun v6 => rV hp5 v6 7 (bI (R 108 [.ref v6, .int l1] hp5) (fun v7 hp8 => L_63_34 R k2 mjN l0 l1 v7 (0 : Int32) hp8))))))))))
theorem t_63_2 {X : mjX} {d C S kc ks : Nat} {R : mjR} (hR : mjC R d) (h1 : kc ≤ C) (h2 : ks ≤ S) {k2 : Nat → Int32 → mjH → mjU} (hk2 : P_63_2 X (d + 1) C S kc ks k2) : P_63_2 X (d + 1) C S kc ks (b_63_2 R k2) := by
  intro l0 l1 hp q h
  unfold b_63_2 at h
  refine mjr_iload_n (x := l1) D_63_2 rfl ?_
  refine mjr_aload_n (x := l0) D_63_3 rfl ?_
  refine mjq_gR D_63_4 fr_4_19 h (fun v1 h => ?_)
  refine mjq_gI D_63_7 fr_4_82 h (fun v2 h => ?_)
  refine mjq_icmp_ge (tgt := 94) D_63_10 rfl h (fun h => ?_) (fun h => ?_)
  · exact mjq_nret D_63_94 rfl h1 h2 h
  · refine mjr_aload_n (x := l0) D_63_13 rfl ?_
    refine mjq_gR D_63_14 fr_4_9 h (fun v3 h => ?_)
    refine mjq_vI (As := []) (rest := []) D_63_17 mr_4_58 V_172 rfl rfl rfl hR (Nat.le_refl _) h1 h2 h (fun v4 hp5 h => ?_)
    refine mjq_if_eq (tgt := 94) D_63_20 rfl h (fun h => ?_) (fun h => ?_)
    · exact mjq_nret D_63_94 rfl h1 h2 h
    · refine mjr_aload_n (x := l0) D_63_23 rfl ?_
      refine mjq_gR D_63_24 fr_4_19 h (fun v6 h => ?_)
      refine mjr_iload_n (x := l1) D_63_27 rfl ?_
      refine mjq_vI (As := [.int l1]) (rest := []) D_63_28 mr_4_132 V_108 rfl rfl rfl hR (Nat.le_refl _) h1 h2 h (fun v7 hp8 h => ?_)
      refine mjq_istore_n (lo' := [some (.ref l0), some (.int l1), some (.int v7), none]) D_63_31 (Nat.le_of_ble_eq_true rfl) rfl ?_
      refine mjq_ic (v := (0 : Int32)) D_63_32 rfl ?_
      refine mjq_istore_n (lo' := [some (.ref l0), some (.int l1), some (.int v7), some (.int (0 : Int32))]) D_63_33 (Nat.le_of_ble_eq_true rfl) rfl ?_
      exact (T_63_34 hR h1 h2 hk2 mjN) _ _ _ _ _ _ h
noncomputable def L_63_2 (R : mjR) (n : Nat) : Nat → Int32 → mjH → mjU := Nat.rec (motive := fun _ => Nat → Int32 → mjH → mjU) (fun _ _ _ => none) (fun _ self => b_63_2 R self) n
theorem T_63_2 {X : mjX} {d C S kc ks : Nat} {R : mjR} (hR : mjC R d) (h1 : kc ≤ C) (h2 : ks ≤ S) (n : Nat) : P_63_2 X (d + 1) C S kc ks (L_63_2 R n) := by
  induction n with
  | zero => intro _ _ _ _ h; exact mj_no h
  | succ n ih => exact t_63_2 hR h1 h2 ih
noncomputable def b_63_0 (R : mjR) (l0 : Nat) (hp : mjH) : mjU := L_63_2 R mjN l0 (0 : Int32) hp
theorem t_63_0 {X : mjX} {d C S kc ks : Nat} {R : mjR} (hR : mjC R d) (h1 : kc ≤ C) (h2 : ks ≤ S) : P_63_0 X (d + 1) C S kc ks (b_63_0 R) := by
  intro l0 hp q h
  unfold b_63_0 at h
  refine mjq_ic (v := (0 : Int32)) D_63_0 rfl ?_
  refine mjq_istore_n (lo' := [some (.ref l0), some (.int (0 : Int32)), none, none]) D_63_1 (Nat.le_of_ble_eq_true rfl) rfl ?_
  exact (T_63_2 hR h1 h2 mjN) _ _ _ _ h
noncomputable def f_63 (R : mjR) (a0 : Nat) (hp : mjH) : mjU := b_63_0 R a0 hp
theorem c_63 {R : mjR} {d : Nat} (hR : mjC R d) {a0 : Nat} {hp : mjH} {q : Option Value × mjH} (h : f_63 R a0 hp = some q) : mjM (d + 1) 0 0 63 [.ref a0] hp (mjEq q) :=
  mjM_of Ja_63 (Nat.le_of_ble_eq_true rfl) (mjG.fg (lo' := [some (.ref a0), none, none, none]) (And.intro rfl True.intro) ((t_63_0 hR (Nat.le_refl 0) (Nat.le_refl 0)) a0 hp q h))
def J_64 : mjI := (⟨"OwnerHeap$Judge", "judgeIns", "()V"⟩, 4, prog_6_method_9_code, 6, none, 0, false)
theorem Ja_64 : mjMt 64 = some J_64 := by rfl
theorem D_64_0 : decode J_64.2.2.1 0 = .ok (.iconst 0, 1) := dzq_3 (by decide +kernel)
theorem D_64_1 : decode J_64.2.2.1 1 = .ok (.istore_n 1, 1) := dzq_60 (by decide +kernel)
theorem D_64_2 : decode J_64.2.2.1 2 = .ok (.iload_n 1, 1) := dzq_27 (by decide +kernel)
theorem D_64_3 : decode J_64.2.2.1 3 = .ok (.aload_n 0, 1) := dzq_42 (by decide +kernel)
theorem D_64_4 : decode J_64.2.2.1 4 = .ok (.getfield 19, 3) := dzq_180 (by decide +kernel)
theorem D_64_7 : decode J_64.2.2.1 7 = .ok (.getfield 82, 3) := dzq_180 (by decide +kernel)
theorem D_64_10 : decode J_64.2.2.1 10 = .ok (.if_icmp .ge 95, 3) := dzq_162 (by decide +kernel)
theorem D_64_13 : decode J_64.2.2.1 13 = .ok (.aload_n 0, 1) := dzq_42 (by decide +kernel)
theorem D_64_14 : decode J_64.2.2.1 14 = .ok (.getfield 9, 3) := dzq_180 (by decide +kernel)
theorem D_64_17 : decode J_64.2.2.1 17 = .ok (.invokevirtual 58, 3) := dzq_182 (by decide +kernel)
theorem D_64_20 : decode J_64.2.2.1 20 = .ok (.ifCond .eq 85, 3) := dzq_153 (by decide +kernel)
theorem D_64_23 : decode J_64.2.2.1 23 = .ok (.iconst 0, 1) := dzq_3 (by decide +kernel)
theorem D_64_24 : decode J_64.2.2.1 24 = .ok (.istore_n 2, 1) := dzq_61 (by decide +kernel)
theorem D_64_25 : decode J_64.2.2.1 25 = .ok (.iload_n 2, 1) := dzq_28 (by decide +kernel)
theorem D_64_26 : decode J_64.2.2.1 26 = .ok (.aload_n 0, 1) := dzq_42 (by decide +kernel)
theorem D_64_27 : decode J_64.2.2.1 27 = .ok (.getfield 19, 3) := dzq_180 (by decide +kernel)
theorem D_64_30 : decode J_64.2.2.1 30 = .ok (.getfield 136, 3) := dzq_180 (by decide +kernel)
theorem D_64_33 : decode J_64.2.2.1 33 = .ok (.iload_n 1, 1) := dzq_27 (by decide +kernel)
theorem D_64_34 : decode J_64.2.2.1 34 = .ok (.iaload, 1) := dzq_46 (by decide +kernel)
theorem D_64_35 : decode J_64.2.2.1 35 = .ok (.if_icmp .ge 64, 3) := dzq_162 (by decide +kernel)
theorem D_64_38 : decode J_64.2.2.1 38 = .ok (.aload_n 0, 1) := dzq_42 (by decide +kernel)
theorem D_64_39 : decode J_64.2.2.1 39 = .ok (.getfield 9, 3) := dzq_180 (by decide +kernel)
theorem D_64_42 : decode J_64.2.2.1 42 = .ok (.invokevirtual 58, 3) := dzq_182 (by decide +kernel)
theorem D_64_45 : decode J_64.2.2.1 45 = .ok (.ifCond .eq 54, 3) := dzq_153 (by decide +kernel)
theorem D_64_48 : decode J_64.2.2.1 48 = .ok (.aload_n 0, 1) := dzq_42 (by decide +kernel)
theorem D_64_49 : decode J_64.2.2.1 49 = .ok (.getfield 15, 3) := dzq_180 (by decide +kernel)
theorem D_64_52 : decode J_64.2.2.1 52 = .ok (.getfield 139, 3) := dzq_180 (by decide +kernel)
theorem D_64_55 : decode J_64.2.2.1 55 = .ok (.iload_n 1, 1) := dzq_27 (by decide +kernel)
theorem D_64_56 : decode J_64.2.2.1 56 = .ok (.iaload, 1) := dzq_46 (by decide +kernel)
theorem D_64_57 : decode J_64.2.2.1 57 = .ok (.iconst 4, 1) := dzq_7 (by decide +kernel)
theorem D_64_58 : decode J_64.2.2.1 58 = .ok (.iload_n 2, 1) := dzq_28 (by decide +kernel)
theorem D_64_59 : decode J_64.2.2.1 59 = .ok (.imul, 1) := dzq_104 (by decide +kernel)
theorem D_64_60 : decode J_64.2.2.1 60 = .ok (.iadd, 1) := dzq_96 (by decide +kernel)
theorem D_64_61 : decode J_64.2.2.1 61 = .ok (.istore_n 3, 1) := dzq_62 (by decide +kernel)
theorem D_64_62 : decode J_64.2.2.1 62 = .ok (.aload_n 0, 1) := dzq_42 (by decide +kernel)
theorem D_64_63 : decode J_64.2.2.1 63 = .ok (.iload_n 1, 1) := dzq_27 (by decide +kernel)
theorem D_64_64 : decode J_64.2.2.1 64 = .ok (.iload_n 3, 1) := dzq_29 (by decide +kernel)
theorem D_64_65 : decode J_64.2.2.1 65 = .ok (.invokevirtual 142, 3) := dzq_182 (by decide +kernel)
theorem D_64_68 : decode J_64.2.2.1 68 = .ok (.istore 4, 2) := dzq_54 (by decide +kernel)
theorem D_64_70 : decode J_64.2.2.1 70 = .ok (.aload_n 0, 1) := dzq_42 (by decide +kernel)
theorem D_64_71 : decode J_64.2.2.1 71 = .ok (.iload_n 1, 1) := dzq_27 (by decide +kernel)
theorem D_64_72 : decode J_64.2.2.1 72 = .ok (.iload_n 3, 1) := dzq_29 (by decide +kernel)
theorem D_64_73 : decode J_64.2.2.1 73 = .ok (.iconst 2, 1) := dzq_5 (by decide +kernel)
theorem D_64_74 : decode J_64.2.2.1 74 = .ok (.iadd, 1) := dzq_96 (by decide +kernel)
theorem D_64_75 : decode J_64.2.2.1 75 = .ok (.invokevirtual 142, 3) := dzq_182 (by decide +kernel)
theorem D_64_78 : decode J_64.2.2.1 78 = .ok (.istore 5, 2) := dzq_54 (by decide +kernel)
theorem D_64_80 : decode J_64.2.2.1 80 = .ok (.aload_n 0, 1) := dzq_42 (by decide +kernel)
theorem D_64_81 : decode J_64.2.2.1 81 = .ok (.getfield 19, 3) := dzq_180 (by decide +kernel)
theorem D_64_84 : decode J_64.2.2.1 84 = .ok (.iload_n 1, 1) := dzq_27 (by decide +kernel)
theorem D_64_85 : decode J_64.2.2.1 85 = .ok (.iload_n 2, 1) := dzq_28 (by decide +kernel)
theorem D_64_86 : decode J_64.2.2.1 86 = .ok (.iload 4, 2) := dzq_21 (by decide +kernel)
theorem D_64_88 : decode J_64.2.2.1 88 = .ok (.iload 5, 2) := dzq_21 (by decide +kernel)
theorem D_64_90 : decode J_64.2.2.1 90 = .ok (.invokevirtual 145, 3) := dzq_182 (by decide +kernel)
theorem D_64_93 : decode J_64.2.2.1 93 = .ok (.iinc 2 1, 3) := dzq_132 (by decide +kernel)
theorem D_64_96 : decode J_64.2.2.1 96 = .ok (.goto (-71), 3) := dzq_167 (by decide +kernel)
theorem D_64_99 : decode J_64.2.2.1 99 = .ok (.iinc 1 1, 3) := dzq_132 (by decide +kernel)
theorem D_64_102 : decode J_64.2.2.1 102 = .ok (.goto (-100), 3) := dzq_167 (by decide +kernel)
theorem D_64_105 : decode J_64.2.2.1 105 = .ok (.return_, 1) := dzq_177 (by decide +kernel)
def P_64_99 (X : mjX) (d C S kc ks : Nat) (k : Nat → Int32 → mjH → mjU) : Prop := ∀ (l0 : Nat) (l1 : Int32) (hp : mjH) (q : Option Value × mjH), k l0 l1 hp = some q → mjG X d C S J_64 (mjEq q) 99 [some (.ref l0), some (.int l1), none, none, none, none] [] hp kc ks
def P_64_25 (X : mjX) (d C S kc ks : Nat) (k : Nat → Int32 → Int32 → mjH → mjU) : Prop := ∀ (l0 : Nat) (l1 : Int32) (l2 : Int32) (hp : mjH) (q : Option Value × mjH), k l0 l1 l2 hp = some q → mjG X d C S J_64 (mjEq q) 25 [some (.ref l0), some (.int l1), some (.int l2), none, none, none] [] hp kc ks
def P_64_2 (X : mjX) (d C S kc ks : Nat) (k : Nat → Int32 → mjH → mjU) : Prop := ∀ (l0 : Nat) (l1 : Int32) (hp : mjH) (q : Option Value × mjH), k l0 l1 hp = some q → mjG X d C S J_64 (mjEq q) 2 [some (.ref l0), some (.int l1), none, none, none, none] [] hp kc ks
def P_64_0 (X : mjX) (d C S kc ks : Nat) (k : Nat → mjH → mjU) : Prop := ∀ (l0 : Nat) (hp : mjH) (q : Option Value × mjH), k l0 hp = some q → mjG X d C S J_64 (mjEq q) 0 [some (.ref l0), none, none, none, none, none] [] hp kc ks
noncomputable def b_64_99 (R : mjR) (k2 : Nat → Int32 → mjH → mjU) (l0 : Nat) (l1 : Int32) (hp : mjH) : mjU := k2 l0 (l1 + (1 : Int32)) hp
theorem t_64_99 {X : mjX} {d C S kc ks : Nat} {R : mjR} (hR : mjC R d) (h1 : kc ≤ C) (h2 : ks ≤ S) {k2 : Nat → Int32 → mjH → mjU} (hk2 : P_64_2 X (d + 1) C S kc ks k2) : P_64_99 X (d + 1) C S kc ks (b_64_99 R k2) := by
  intro l0 l1 hp q h
  unfold b_64_99 at h
  refine mjq_iinc (x := l1) (c := (1 : Int32)) (lo' := [some (.ref l0), some (.int (l1 + (1 : Int32))), none, none, none, none]) D_64_99 rfl (Nat.le_of_ble_eq_true rfl) rfl rfl ?_
  refine mjr_goto (tgt := 2) D_64_102 rfl ?_
  exact hk2 _ _ _ _ h
noncomputable def b_64_25 (R : mjR) (k2 : Nat → Int32 → mjH → mjU) (k25 : Nat → Int32 → Int32 → mjH → mjU) (l0 : Nat) (l1 : Int32) (l2 : Int32) (hp : mjH) : mjU := gR hp l0 4 2 (fun v1 => gR hp v1 7 3 (fun v2 => aI hp v2 l1 (fun v3 => (if v3 ≤ l2 then b_64_99 R k2 l0 l1 hp else gR hp l0 4 0 (fun v4 => rV hp v4 9 (bI (R 172 [.ref v4] hp) (fun v5 hp6 => (if v5 = 0 then b_64_99 R k2 l0 l1 hp6 else gR hp6 l0 4 1 (fun v7 => gR hp6 v7 8 5 (fun v8 => aI hp6 v8 l1 (fun v9 => rV hp6 l0 4 (bI (R 65 [.ref l0, .int l1, .int (v9 + ((4 : Int32) * l2))] hp6) (fun v10 hp11 => rV hp11 l0 4 (bI (R 65 [.ref l0, .int l1, .int ((v9 + ((4 : Int32) * l2)) + (2 : Int32))] hp11) (fun v12 hp13 => gR hp13 l0 4 2 (fun v14 => rV hp13 v14 7 (bN (R 109 [.ref v14, .int l1, .int l2, .int v10, .int v12] hp13) (fun  hp15 => k25 l0 l1 (l2 + (1 : Int32)) hp15))))))))))))))))))
theorem t_64_25 {X : mjX} {d C S kc ks : Nat} {R : mjR} (hR : mjC R d) (h1 : kc ≤ C) (h2 : ks ≤ S) {k2 : Nat → Int32 → mjH → mjU} (hk2 : P_64_2 X (d + 1) C S kc ks k2) {k25 : Nat → Int32 → Int32 → mjH → mjU} (hk25 : P_64_25 X (d + 1) C S kc ks k25) : P_64_25 X (d + 1) C S kc ks (b_64_25 R k2 k25) := by
  intro l0 l1 l2 hp q h
  unfold b_64_25 at h
  refine mjr_iload_n (x := l2) D_64_25 rfl ?_
  refine mjr_aload_n (x := l0) D_64_26 rfl ?_
  refine mjq_gR D_64_27 fr_4_19 h (fun v1 h => ?_)
  refine mjq_gR D_64_30 fr_4_136 h (fun v2 h => ?_)
  refine mjr_iload_n (x := l1) D_64_33 rfl ?_
  refine mjq_aI D_64_34 h (fun v3 h => ?_)
  refine mjq_icmp_ge (tgt := 99) D_64_35 rfl h (fun h => ?_) (fun h => ?_)
  · exact mjG.fg (lo' := [some (.ref l0), some (.int l1), none, none, none, none]) (And.intro rfl (And.intro rfl True.intro)) ((t_64_99 hR h1 h2 hk2) _ _ _ _ h)
  · refine mjr_aload_n (x := l0) D_64_38 rfl ?_
    refine mjq_gR D_64_39 fr_4_9 h (fun v4 h => ?_)
    refine mjq_vI (As := []) (rest := []) D_64_42 mr_4_58 V_172 rfl rfl rfl hR (Nat.le_refl _) h1 h2 h (fun v5 hp6 h => ?_)
    refine mjq_if_eq (tgt := 99) D_64_45 rfl h (fun h => ?_) (fun h => ?_)
    · exact mjG.fg (lo' := [some (.ref l0), some (.int l1), none, none, none, none]) (And.intro rfl (And.intro rfl True.intro)) ((t_64_99 hR h1 h2 hk2) _ _ _ _ h)
    · refine mjr_aload_n (x := l0) D_64_48 rfl ?_
      refine mjq_gR D_64_49 fr_4_15 h (fun v7 h => ?_)
      refine mjq_gR D_64_52 fr_4_139 h (fun v8 h => ?_)
      refine mjr_iload_n (x := l1) D_64_55 rfl ?_
      refine mjq_aI D_64_56 h (fun v9 h => ?_)
      refine mjq_ic (v := (4 : Int32)) D_64_57 rfl ?_
      refine mjr_iload_n (x := l2) D_64_58 rfl ?_
      refine mjr_imul D_64_59 ?_
      refine mjr_iadd D_64_60 ?_
      refine mjq_istore_n (lo' := [some (.ref l0), some (.int l1), some (.int l2), some (.int (v9 + ((4 : Int32) * l2))), none, none]) D_64_61 (Nat.le_of_ble_eq_true rfl) rfl ?_
      refine mjr_aload_n (x := l0) D_64_62 rfl ?_
      refine mjr_iload_n (x := l1) D_64_63 rfl ?_
      refine mjr_iload_n (x := (v9 + ((4 : Int32) * l2))) D_64_64 rfl ?_
      refine mjq_vI (As := [.int l1, .int (v9 + ((4 : Int32) * l2))]) (rest := []) D_64_65 mr_4_142 V_65 rfl rfl rfl hR (Nat.le_refl _) h1 h2 h (fun v10 hp11 h => ?_)
      refine mjq_istore (lo' := [some (.ref l0), some (.int l1), some (.int l2), some (.int (v9 + ((4 : Int32) * l2))), some (.int v10), none]) D_64_68 (Nat.le_of_ble_eq_true rfl) rfl ?_
      refine mjr_aload_n (x := l0) D_64_70 rfl ?_
      refine mjr_iload_n (x := l1) D_64_71 rfl ?_
      refine mjr_iload_n (x := (v9 + ((4 : Int32) * l2))) D_64_72 rfl ?_
      refine mjq_ic (v := (2 : Int32)) D_64_73 rfl ?_
      refine mjr_iadd D_64_74 ?_
      refine mjq_vI (As := [.int l1, .int ((v9 + ((4 : Int32) * l2)) + (2 : Int32))]) (rest := []) D_64_75 mr_4_142 V_65 rfl rfl rfl hR (Nat.le_refl _) h1 h2 h (fun v12 hp13 h => ?_)
      refine mjq_istore (lo' := [some (.ref l0), some (.int l1), some (.int l2), some (.int (v9 + ((4 : Int32) * l2))), some (.int v10), some (.int v12)]) D_64_78 (Nat.le_of_ble_eq_true rfl) rfl ?_
      refine mjr_aload_n (x := l0) D_64_80 rfl ?_
      refine mjq_gR D_64_81 fr_4_19 h (fun v14 h => ?_)
      refine mjr_iload_n (x := l1) D_64_84 rfl ?_
      refine mjr_iload_n (x := l2) D_64_85 rfl ?_
      refine mjr_iload (x := v10) D_64_86 rfl ?_
      refine mjr_iload (x := v12) D_64_88 rfl ?_
      refine mjq_vN (As := [.int l1, .int l2, .int v10, .int v12]) (rest := []) D_64_90 mr_4_145 V_109 rfl rfl rfl hR (Nat.le_refl _) h1 h2 h (fun  hp15 h => ?_)
      refine mjq_iinc (x := l2) (c := (1 : Int32)) (lo' := [some (.ref l0), some (.int l1), some (.int (l2 + (1 : Int32))), some (.int (v9 + ((4 : Int32) * l2))), some (.int v10), some (.int v12)]) D_64_93 rfl (Nat.le_of_ble_eq_true rfl) rfl rfl ?_
      refine mjr_goto (tgt := 25) D_64_96 rfl ?_
      exact mjG.fg (lo' := [some (.ref l0), some (.int l1), some (.int (l2 + (1 : Int32))), none, none, none]) (And.intro rfl (And.intro rfl (And.intro rfl True.intro))) (hk25 _ _ _ _ _ h)
noncomputable def L_64_25 (R : mjR) (k2 : Nat → Int32 → mjH → mjU) (n : Nat) : Nat → Int32 → Int32 → mjH → mjU := Nat.rec (motive := fun _ => Nat → Int32 → Int32 → mjH → mjU) (fun _ _ _ _ => none) (fun _ self => b_64_25 R k2 self) n
theorem T_64_25 {X : mjX} {d C S kc ks : Nat} {R : mjR} (hR : mjC R d) (h1 : kc ≤ C) (h2 : ks ≤ S) {k2 : Nat → Int32 → mjH → mjU} (hk2 : P_64_2 X (d + 1) C S kc ks k2) (n : Nat) : P_64_25 X (d + 1) C S kc ks (L_64_25 R k2 n) := by
  induction n with
  | zero => intro _ _ _ _ _ h; exact mj_no h
  | succ n ih => exact t_64_25 hR h1 h2 hk2 ih
noncomputable def b_64_2 (R : mjR) (k2 : Nat → Int32 → mjH → mjU) (l0 : Nat) (l1 : Int32) (hp : mjH) : mjU := gR hp l0 4 2 (fun v1 => gI hp v1 7 0 (fun v2 => (if v2 ≤ l1 then some (none, hp) else gR hp l0 4 0 (fun v3 => rV hp v3 9 (bI (R 172 [.ref v3] hp) (fun v4 hp5 => (if v4 = 0 then some (none, hp5) else L_64_25 R k2 mjN l0 l1 (0 : Int32) hp5)))))))
theorem t_64_2 {X : mjX} {d C S kc ks : Nat} {R : mjR} (hR : mjC R d) (h1 : kc ≤ C) (h2 : ks ≤ S) {k2 : Nat → Int32 → mjH → mjU} (hk2 : P_64_2 X (d + 1) C S kc ks k2) : P_64_2 X (d + 1) C S kc ks (b_64_2 R k2) := by
  intro l0 l1 hp q h
  unfold b_64_2 at h
  refine mjr_iload_n (x := l1) D_64_2 rfl ?_
  refine mjr_aload_n (x := l0) D_64_3 rfl ?_
  refine mjq_gR D_64_4 fr_4_19 h (fun v1 h => ?_)
  refine mjq_gI D_64_7 fr_4_82 h (fun v2 h => ?_)
  refine mjq_icmp_ge (tgt := 105) D_64_10 rfl h (fun h => ?_) (fun h => ?_)
  · exact mjq_nret D_64_105 rfl h1 h2 h
  · refine mjr_aload_n (x := l0) D_64_13 rfl ?_
    refine mjq_gR D_64_14 fr_4_9 h (fun v3 h => ?_)
    refine mjq_vI (As := []) (rest := []) D_64_17 mr_4_58 V_172 rfl rfl rfl hR (Nat.le_refl _) h1 h2 h (fun v4 hp5 h => ?_)
    refine mjq_if_eq (tgt := 105) D_64_20 rfl h (fun h => ?_) (fun h => ?_)
    · exact mjq_nret D_64_105 rfl h1 h2 h
    · refine mjq_ic (v := (0 : Int32)) D_64_23 rfl ?_
      refine mjq_istore_n (lo' := [some (.ref l0), some (.int l1), some (.int (0 : Int32)), none, none, none]) D_64_24 (Nat.le_of_ble_eq_true rfl) rfl ?_
      exact (T_64_25 hR h1 h2 hk2 mjN) _ _ _ _ _ h
noncomputable def L_64_2 (R : mjR) (n : Nat) : Nat → Int32 → mjH → mjU := Nat.rec (motive := fun _ => Nat → Int32 → mjH → mjU) (fun _ _ _ => none) (fun _ self => b_64_2 R self) n
theorem T_64_2 {X : mjX} {d C S kc ks : Nat} {R : mjR} (hR : mjC R d) (h1 : kc ≤ C) (h2 : ks ≤ S) (n : Nat) : P_64_2 X (d + 1) C S kc ks (L_64_2 R n) := by
  induction n with
  | zero => intro _ _ _ _ h; exact mj_no h
  | succ n ih => exact t_64_2 hR h1 h2 ih
noncomputable def b_64_0 (R : mjR) (l0 : Nat) (hp : mjH) : mjU := L_64_2 R mjN l0 (0 : Int32) hp
theorem t_64_0 {X : mjX} {d C S kc ks : Nat} {R : mjR} (hR : mjC R d) (h1 : kc ≤ C) (h2 : ks ≤ S) : P_64_0 X (d + 1) C S kc ks (b_64_0 R) := by
  intro l0 hp q h
  unfold b_64_0 at h
  refine mjq_ic (v := (0 : Int32)) D_64_0 rfl ?_
  refine mjq_istore_n (lo' := [some (.ref l0), some (.int (0 : Int32)), none, none, none, none]) D_64_1 (Nat.le_of_ble_eq_true rfl) rfl ?_
  exact (T_64_2 hR h1 h2 mjN) _ _ _ _ h
noncomputable def f_64 (R : mjR) (a0 : Nat) (hp : mjH) : mjU := b_64_0 R a0 hp
theorem c_64 {R : mjR} {d : Nat} (hR : mjC R d) {a0 : Nat} {hp : mjH} {q : Option Value × mjH} (h : f_64 R a0 hp = some q) : mjM (d + 1) 0 0 64 [.ref a0] hp (mjEq q) :=
  mjM_of Ja_64 (Nat.le_of_ble_eq_true rfl) (mjG.fg (lo' := [some (.ref a0), none, none, none, none, none]) (And.intro rfl True.intro) ((t_64_0 hR (Nat.le_refl 0) (Nat.le_refl 0)) a0 hp q h))
def J_65 : mjI := (⟨"OwnerHeap$Judge", "nameInIn", "(II)I"⟩, 4, prog_6_method_10_code, 4, (some .int), 2, false)
theorem Ja_65 : mjMt 65 = some J_65 := by rfl
theorem D_65_0 : decode J_65.2.2.1 0 = .ok (.aload_n 0, 1) := dzq_42 (by decide +kernel)
theorem D_65_1 : decode J_65.2.2.1 1 = .ok (.iload_n 1, 1) := dzq_27 (by decide +kernel)
theorem D_65_2 : decode J_65.2.2.1 2 = .ok (.aload_n 0, 1) := dzq_42 (by decide +kernel)
theorem D_65_3 : decode J_65.2.2.1 3 = .ok (.getfield 9, 3) := dzq_180 (by decide +kernel)
theorem D_65_6 : decode J_65.2.2.1 6 = .ok (.iload_n 2, 1) := dzq_28 (by decide +kernel)
theorem D_65_7 : decode J_65.2.2.1 7 = .ok (.invokevirtual 92, 3) := dzq_182 (by decide +kernel)
theorem D_65_10 : decode J_65.2.2.1 10 = .ok (.invokevirtual 110, 3) := dzq_182 (by decide +kernel)
theorem D_65_13 : decode J_65.2.2.1 13 = .ok (.istore_n 3, 1) := dzq_62 (by decide +kernel)
theorem D_65_14 : decode J_65.2.2.1 14 = .ok (.iload_n 3, 1) := dzq_29 (by decide +kernel)
theorem D_65_15 : decode J_65.2.2.1 15 = .ok (.iconst (-1), 1) := dzq_2 (by decide +kernel)
theorem D_65_16 : decode J_65.2.2.1 16 = .ok (.if_icmp .ne 12, 3) := dzq_160 (by decide +kernel)
theorem D_65_19 : decode J_65.2.2.1 19 = .ok (.aload_n 0, 1) := dzq_42 (by decide +kernel)
theorem D_65_20 : decode J_65.2.2.1 20 = .ok (.getfield 9, 3) := dzq_180 (by decide +kernel)
theorem D_65_23 : decode J_65.2.2.1 23 = .ok (.iconst 5, 1) := dzq_8 (by decide +kernel)
theorem D_65_24 : decode J_65.2.2.1 24 = .ok (.iload_n 2, 1) := dzq_28 (by decide +kernel)
theorem D_65_25 : decode J_65.2.2.1 25 = .ok (.invokevirtual 100, 3) := dzq_182 (by decide +kernel)
theorem D_65_28 : decode J_65.2.2.1 28 = .ok (.iload_n 3, 1) := dzq_29 (by decide +kernel)
theorem D_65_29 : decode J_65.2.2.1 29 = .ok (.ireturn, 1) := dzq_172 (by decide +kernel)
def P_65_28 (X : mjX) (d C S kc ks : Nat) (k : Int32 → mjH → mjU) : Prop := ∀ (l3 : Int32) (hp : mjH) (q : Option Value × mjH), k l3 hp = some q → mjG X d C S J_65 (mjEq q) 28 [none, none, none, some (.int l3)] [] hp kc ks
def P_65_0 (X : mjX) (d C S kc ks : Nat) (k : Nat → Int32 → Int32 → mjH → mjU) : Prop := ∀ (l0 : Nat) (l1 : Int32) (l2 : Int32) (hp : mjH) (q : Option Value × mjH), k l0 l1 l2 hp = some q → mjG X d C S J_65 (mjEq q) 0 [some (.ref l0), some (.int l1), some (.int l2), none] [] hp kc ks
noncomputable def b_65_28 (R : mjR) (l3 : Int32) (hp : mjH) : mjU := some (some (.int l3), hp)
theorem t_65_28 {X : mjX} {d C S kc ks : Nat} {R : mjR} (hR : mjC R d) (h1 : kc ≤ C) (h2 : ks ≤ S) : P_65_28 X (d + 1) C S kc ks (b_65_28 R) := by
  intro l3 hp q h
  unfold b_65_28 at h
  refine mjr_iload_n (x := l3) D_65_28 rfl ?_
  exact mjq_ret D_65_29 rfl h1 h2 h
noncomputable def b_65_0 (R : mjR) (l0 : Nat) (l1 : Int32) (l2 : Int32) (hp : mjH) : mjU := gR hp l0 4 0 (fun v1 => rV hp v1 9 (bL (R 170 [.ref v1, .int l2] hp) (fun v2 hp3 => rV hp3 l0 4 (bI (R 58 [.ref l0, .int l1, .long v2] hp3) (fun v4 hp5 => (if v4 = (-1 : Int32) then gR hp5 l0 4 0 (fun v6 => rV hp5 v6 9 (bN (R 178 [.ref v6, .int (5 : Int32), .int l2] hp5) (fun  hp7 => b_65_28 R v4 hp7))) else b_65_28 R v4 hp5))))))
theorem t_65_0 {X : mjX} {d C S kc ks : Nat} {R : mjR} (hR : mjC R d) (h1 : kc ≤ C) (h2 : ks ≤ S) : P_65_0 X (d + 1) C S kc ks (b_65_0 R) := by
  intro l0 l1 l2 hp q h
  unfold b_65_0 at h
  refine mjr_aload_n (x := l0) D_65_0 rfl ?_
  refine mjr_iload_n (x := l1) D_65_1 rfl ?_
  refine mjr_aload_n (x := l0) D_65_2 rfl ?_
  refine mjq_gR D_65_3 fr_4_9 h (fun v1 h => ?_)
  refine mjr_iload_n (x := l2) D_65_6 rfl ?_
  refine mjq_vL (As := [.int l2]) (rest := [.int l1, .ref l0]) D_65_7 mr_4_92 V_170 rfl rfl rfl hR (Nat.le_refl _) h1 h2 h (fun v2 hp3 h => ?_)
  refine mjq_vI (As := [.int l1, .long v2]) (rest := []) D_65_10 mr_4_110 V_58 rfl rfl rfl hR (Nat.le_refl _) h1 h2 h (fun v4 hp5 h => ?_)
  refine mjq_istore_n (lo' := [some (.ref l0), some (.int l1), some (.int l2), some (.int v4)]) D_65_13 (Nat.le_of_ble_eq_true rfl) rfl ?_
  refine mjr_iload_n (x := v4) D_65_14 rfl ?_
  refine mjq_ic (v := (-1 : Int32)) D_65_15 rfl ?_
  refine mjq_icmp_ne (tgt := 28) D_65_16 rfl h (fun h => ?_) (fun h => ?_)
  · exact mjG.fg (lo' := [none, none, none, some (.int v4)]) (And.intro rfl True.intro) ((t_65_28 hR h1 h2) _ _ _ h)
  · refine mjr_aload_n (x := l0) D_65_19 rfl ?_
    refine mjq_gR D_65_20 fr_4_9 h (fun v6 h => ?_)
    refine mjq_ic (v := (5 : Int32)) D_65_23 rfl ?_
    refine mjr_iload_n (x := l2) D_65_24 rfl ?_
    refine mjq_vN (As := [.int (5 : Int32), .int l2]) (rest := []) D_65_25 mr_4_100 V_178 rfl rfl rfl hR (Nat.le_refl _) h1 h2 h (fun  hp7 h => ?_)
    exact mjG.fg (lo' := [none, none, none, some (.int v4)]) (And.intro rfl True.intro) ((t_65_28 hR h1 h2) _ _ _ h)
noncomputable def f_65 (R : mjR) (a0 : Nat) (a1 : Int32) (a2 : Int32) (hp : mjH) : mjU := b_65_0 R a0 a1 a2 hp
theorem c_65 {R : mjR} {d : Nat} (hR : mjC R d) {a0 : Nat} {a1 : Int32} {a2 : Int32} {hp : mjH} {q : Option Value × mjH} (h : f_65 R a0 a1 a2 hp = some q) : mjM (d + 1) 0 0 65 [.ref a0, .int a1, .int a2] hp (mjEq q) :=
  mjM_of Ja_65 (Nat.le_of_ble_eq_true rfl) (mjG.fg (lo' := [some (.ref a0), some (.int a1), some (.int a2), none]) (And.intro rfl (And.intro rfl (And.intro rfl True.intro))) ((t_65_0 hR (Nat.le_refl 0) (Nat.le_refl 0)) a0 a1 a2 hp q h))
def J_66 : mjI := (⟨"OwnerHeap$Judge", "judgeMembers", "()V"⟩, 4, prog_6_method_11_code, 5, none, 0, false)
theorem Ja_66 : mjMt 66 = some J_66 := by rfl
theorem D_66_0 : decode J_66.2.2.1 0 = .ok (.iconst 0, 1) := dzq_3 (by decide +kernel)
theorem D_66_1 : decode J_66.2.2.1 1 = .ok (.istore_n 1, 1) := dzq_60 (by decide +kernel)
theorem D_66_2 : decode J_66.2.2.1 2 = .ok (.iload_n 1, 1) := dzq_27 (by decide +kernel)
theorem D_66_3 : decode J_66.2.2.1 3 = .ok (.aload_n 0, 1) := dzq_42 (by decide +kernel)
theorem D_66_4 : decode J_66.2.2.1 4 = .ok (.getfield 19, 3) := dzq_180 (by decide +kernel)
theorem D_66_7 : decode J_66.2.2.1 7 = .ok (.getfield 82, 3) := dzq_180 (by decide +kernel)
theorem D_66_10 : decode J_66.2.2.1 10 = .ok (.if_icmp .ge 124, 3) := dzq_162 (by decide +kernel)
theorem D_66_13 : decode J_66.2.2.1 13 = .ok (.aload_n 0, 1) := dzq_42 (by decide +kernel)
theorem D_66_14 : decode J_66.2.2.1 14 = .ok (.getfield 9, 3) := dzq_180 (by decide +kernel)
theorem D_66_17 : decode J_66.2.2.1 17 = .ok (.invokevirtual 58, 3) := dzq_182 (by decide +kernel)
theorem D_66_20 : decode J_66.2.2.1 20 = .ok (.ifCond .eq 114, 3) := dzq_153 (by decide +kernel)
theorem D_66_23 : decode J_66.2.2.1 23 = .ok (.aload_n 0, 1) := dzq_42 (by decide +kernel)
theorem D_66_24 : decode J_66.2.2.1 24 = .ok (.getfield 19, 3) := dzq_180 (by decide +kernel)
theorem D_66_27 : decode J_66.2.2.1 27 = .ok (.getfield 125, 3) := dzq_180 (by decide +kernel)
theorem D_66_30 : decode J_66.2.2.1 30 = .ok (.iload_n 1, 1) := dzq_27 (by decide +kernel)
theorem D_66_31 : decode J_66.2.2.1 31 = .ok (.iaload, 1) := dzq_46 (by decide +kernel)
theorem D_66_32 : decode J_66.2.2.1 32 = .ok (.istore_n 2, 1) := dzq_61 (by decide +kernel)
theorem D_66_33 : decode J_66.2.2.1 33 = .ok (.iload_n 2, 1) := dzq_28 (by decide +kernel)
theorem D_66_34 : decode J_66.2.2.1 34 = .ok (.ifCond .lt 42, 3) := dzq_155 (by decide +kernel)
theorem D_66_37 : decode J_66.2.2.1 37 = .ok (.aload_n 0, 1) := dzq_42 (by decide +kernel)
theorem D_66_38 : decode J_66.2.2.1 38 = .ok (.getfield 42, 3) := dzq_180 (by decide +kernel)
theorem D_66_41 : decode J_66.2.2.1 41 = .ok (.ifCond .ne 35, 3) := dzq_154 (by decide +kernel)
theorem D_66_44 : decode J_66.2.2.1 44 = .ok (.aload_n 0, 1) := dzq_42 (by decide +kernel)
theorem D_66_45 : decode J_66.2.2.1 45 = .ok (.getfield 19, 3) := dzq_180 (by decide +kernel)
theorem D_66_48 : decode J_66.2.2.1 48 = .ok (.iload_n 1, 1) := dzq_27 (by decide +kernel)
theorem D_66_49 : decode J_66.2.2.1 49 = .ok (.iload_n 2, 1) := dzq_28 (by decide +kernel)
theorem D_66_50 : decode J_66.2.2.1 50 = .ok (.invokevirtual 149, 3) := dzq_182 (by decide +kernel)
theorem D_66_53 : decode J_66.2.2.1 53 = .ok (.ifCond .ne 23, 3) := dzq_154 (by decide +kernel)
theorem D_66_56 : decode J_66.2.2.1 56 = .ok (.aload_n 0, 1) := dzq_42 (by decide +kernel)
theorem D_66_57 : decode J_66.2.2.1 57 = .ok (.getfield 9, 3) := dzq_180 (by decide +kernel)
theorem D_66_60 : decode J_66.2.2.1 60 = .ok (.bipush 8, 2) := dzq_16 (by decide +kernel)
theorem D_66_62 : decode J_66.2.2.1 62 = .ok (.aload_n 0, 1) := dzq_42 (by decide +kernel)
theorem D_66_63 : decode J_66.2.2.1 63 = .ok (.getfield 15, 3) := dzq_180 (by decide +kernel)
theorem D_66_66 : decode J_66.2.2.1 66 = .ok (.getfield 114, 3) := dzq_180 (by decide +kernel)
theorem D_66_69 : decode J_66.2.2.1 69 = .ok (.iload_n 1, 1) := dzq_27 (by decide +kernel)
theorem D_66_70 : decode J_66.2.2.1 70 = .ok (.iaload, 1) := dzq_46 (by decide +kernel)
theorem D_66_71 : decode J_66.2.2.1 71 = .ok (.iconst 1, 1) := dzq_4 (by decide +kernel)
theorem D_66_72 : decode J_66.2.2.1 72 = .ok (.iadd, 1) := dzq_96 (by decide +kernel)
theorem D_66_73 : decode J_66.2.2.1 73 = .ok (.invokevirtual 100, 3) := dzq_182 (by decide +kernel)
theorem D_66_76 : decode J_66.2.2.1 76 = .ok (.aload_n 0, 1) := dzq_42 (by decide +kernel)
theorem D_66_77 : decode J_66.2.2.1 77 = .ok (.getfield 19, 3) := dzq_180 (by decide +kernel)
theorem D_66_80 : decode J_66.2.2.1 80 = .ok (.getfield 153, 3) := dzq_180 (by decide +kernel)
theorem D_66_83 : decode J_66.2.2.1 83 = .ok (.iload_n 1, 1) := dzq_27 (by decide +kernel)
theorem D_66_84 : decode J_66.2.2.1 84 = .ok (.iaload, 1) := dzq_46 (by decide +kernel)
theorem D_66_85 : decode J_66.2.2.1 85 = .ok (.istore_n 3, 1) := dzq_62 (by decide +kernel)
theorem D_66_86 : decode J_66.2.2.1 86 = .ok (.iload_n 3, 1) := dzq_29 (by decide +kernel)
theorem D_66_87 : decode J_66.2.2.1 87 = .ok (.istore 4, 2) := dzq_54 (by decide +kernel)
theorem D_66_89 : decode J_66.2.2.1 89 = .ok (.iload 4, 2) := dzq_21 (by decide +kernel)
theorem D_66_91 : decode J_66.2.2.1 91 = .ok (.iload_n 3, 1) := dzq_29 (by decide +kernel)
theorem D_66_92 : decode J_66.2.2.1 92 = .ok (.aload_n 0, 1) := dzq_42 (by decide +kernel)
theorem D_66_93 : decode J_66.2.2.1 93 = .ok (.getfield 19, 3) := dzq_180 (by decide +kernel)
theorem D_66_96 : decode J_66.2.2.1 96 = .ok (.getfield 156, 3) := dzq_180 (by decide +kernel)
theorem D_66_99 : decode J_66.2.2.1 99 = .ok (.iload_n 1, 1) := dzq_27 (by decide +kernel)
theorem D_66_100 : decode J_66.2.2.1 100 = .ok (.iaload, 1) := dzq_46 (by decide +kernel)
theorem D_66_101 : decode J_66.2.2.1 101 = .ok (.iadd, 1) := dzq_96 (by decide +kernel)
theorem D_66_102 : decode J_66.2.2.1 102 = .ok (.if_icmp .ge 26, 3) := dzq_162 (by decide +kernel)
theorem D_66_105 : decode J_66.2.2.1 105 = .ok (.aload_n 0, 1) := dzq_42 (by decide +kernel)
theorem D_66_106 : decode J_66.2.2.1 106 = .ok (.getfield 9, 3) := dzq_180 (by decide +kernel)
theorem D_66_109 : decode J_66.2.2.1 109 = .ok (.invokevirtual 58, 3) := dzq_182 (by decide +kernel)
theorem D_66_112 : decode J_66.2.2.1 112 = .ok (.ifCond .eq 16, 3) := dzq_153 (by decide +kernel)
theorem D_66_115 : decode J_66.2.2.1 115 = .ok (.aload_n 0, 1) := dzq_42 (by decide +kernel)
theorem D_66_116 : decode J_66.2.2.1 116 = .ok (.iload_n 1, 1) := dzq_27 (by decide +kernel)
theorem D_66_117 : decode J_66.2.2.1 117 = .ok (.iload 4, 2) := dzq_21 (by decide +kernel)
theorem D_66_119 : decode J_66.2.2.1 119 = .ok (.invokevirtual 159, 3) := dzq_182 (by decide +kernel)
theorem D_66_122 : decode J_66.2.2.1 122 = .ok (.iinc 4 1, 3) := dzq_132 (by decide +kernel)
theorem D_66_125 : decode J_66.2.2.1 125 = .ok (.goto (-36), 3) := dzq_167 (by decide +kernel)
theorem D_66_128 : decode J_66.2.2.1 128 = .ok (.iinc 1 1, 3) := dzq_132 (by decide +kernel)
theorem D_66_131 : decode J_66.2.2.1 131 = .ok (.goto (-129), 3) := dzq_167 (by decide +kernel)
theorem D_66_134 : decode J_66.2.2.1 134 = .ok (.return_, 1) := dzq_177 (by decide +kernel)
def P_66_128 (X : mjX) (d C S kc ks : Nat) (k : Nat → Int32 → mjH → mjU) : Prop := ∀ (l0 : Nat) (l1 : Int32) (hp : mjH) (q : Option Value × mjH), k l0 l1 hp = some q → mjG X d C S J_66 (mjEq q) 128 [some (.ref l0), some (.int l1), none, none, none] [] hp kc ks
def P_66_89 (X : mjX) (d C S kc ks : Nat) (k : Nat → Int32 → Int32 → Int32 → mjH → mjU) : Prop := ∀ (l0 : Nat) (l1 : Int32) (l3 : Int32) (l4 : Int32) (hp : mjH) (q : Option Value × mjH), k l0 l1 l3 l4 hp = some q → mjG X d C S J_66 (mjEq q) 89 [some (.ref l0), some (.int l1), none, some (.int l3), some (.int l4)] [] hp kc ks
def P_66_76 (X : mjX) (d C S kc ks : Nat) (k : Nat → Int32 → mjH → mjU) : Prop := ∀ (l0 : Nat) (l1 : Int32) (hp : mjH) (q : Option Value × mjH), k l0 l1 hp = some q → mjG X d C S J_66 (mjEq q) 76 [some (.ref l0), some (.int l1), none, none, none] [] hp kc ks
def P_66_2 (X : mjX) (d C S kc ks : Nat) (k : Nat → Int32 → mjH → mjU) : Prop := ∀ (l0 : Nat) (l1 : Int32) (hp : mjH) (q : Option Value × mjH), k l0 l1 hp = some q → mjG X d C S J_66 (mjEq q) 2 [some (.ref l0), some (.int l1), none, none, none] [] hp kc ks
def P_66_0 (X : mjX) (d C S kc ks : Nat) (k : Nat → mjH → mjU) : Prop := ∀ (l0 : Nat) (hp : mjH) (q : Option Value × mjH), k l0 hp = some q → mjG X d C S J_66 (mjEq q) 0 [some (.ref l0), none, none, none, none] [] hp kc ks
noncomputable def b_66_128 (R : mjR) (k2 : Nat → Int32 → mjH → mjU) (l0 : Nat) (l1 : Int32) (hp : mjH) : mjU := k2 l0 (l1 + (1 : Int32)) hp
theorem t_66_128 {X : mjX} {d C S kc ks : Nat} {R : mjR} (hR : mjC R d) (h1 : kc ≤ C) (h2 : ks ≤ S) {k2 : Nat → Int32 → mjH → mjU} (hk2 : P_66_2 X (d + 1) C S kc ks k2) : P_66_128 X (d + 1) C S kc ks (b_66_128 R k2) := by
  intro l0 l1 hp q h
  unfold b_66_128 at h
  refine mjq_iinc (x := l1) (c := (1 : Int32)) (lo' := [some (.ref l0), some (.int (l1 + (1 : Int32))), none, none, none]) D_66_128 rfl (Nat.le_of_ble_eq_true rfl) rfl rfl ?_
  refine mjr_goto (tgt := 2) D_66_131 rfl ?_
  exact hk2 _ _ _ _ h
noncomputable def b_66_89 (R : mjR) (k2 : Nat → Int32 → mjH → mjU) (k89 : Nat → Int32 → Int32 → Int32 → mjH → mjU) (l0 : Nat) (l1 : Int32) (l3 : Int32) (l4 : Int32) (hp : mjH) : mjU := gR hp l0 4 2 (fun v1 => gR hp v1 7 10 (fun v2 => aI hp v2 l1 (fun v3 => (if (l3 + v3) ≤ l4 then b_66_128 R k2 l0 l1 hp else gR hp l0 4 0 (fun v4 => rV hp v4 9 (bI (R 172 [.ref v4] hp) (fun v5 hp6 => (if v5 = 0 then b_66_128 R k2 l0 l1 hp6 else rV hp6 l0 4 (bN (R 67 [.ref l0, .int l1, .int l4] hp6) (fun  hp7 => k89 l0 l1 l3 (l4 + (1 : Int32)) hp7))))))))))
theorem t_66_89 {X : mjX} {d C S kc ks : Nat} {R : mjR} (hR : mjC R d) (h1 : kc ≤ C) (h2 : ks ≤ S) {k2 : Nat → Int32 → mjH → mjU} (hk2 : P_66_2 X (d + 1) C S kc ks k2) {k89 : Nat → Int32 → Int32 → Int32 → mjH → mjU} (hk89 : P_66_89 X (d + 1) C S kc ks k89) : P_66_89 X (d + 1) C S kc ks (b_66_89 R k2 k89) := by
  intro l0 l1 l3 l4 hp q h
  unfold b_66_89 at h
  refine mjr_iload (x := l4) D_66_89 rfl ?_
  refine mjr_iload_n (x := l3) D_66_91 rfl ?_
  refine mjr_aload_n (x := l0) D_66_92 rfl ?_
  refine mjq_gR D_66_93 fr_4_19 h (fun v1 h => ?_)
  refine mjq_gR D_66_96 fr_4_156 h (fun v2 h => ?_)
  refine mjr_iload_n (x := l1) D_66_99 rfl ?_
  refine mjq_aI D_66_100 h (fun v3 h => ?_)
  refine mjr_iadd D_66_101 ?_
  refine mjq_icmp_ge (tgt := 128) D_66_102 rfl h (fun h => ?_) (fun h => ?_)
  · exact mjG.fg (lo' := [some (.ref l0), some (.int l1), none, none, none]) (And.intro rfl (And.intro rfl True.intro)) ((t_66_128 hR h1 h2 hk2) _ _ _ _ h)
  · refine mjr_aload_n (x := l0) D_66_105 rfl ?_
    refine mjq_gR D_66_106 fr_4_9 h (fun v4 h => ?_)
    refine mjq_vI (As := []) (rest := []) D_66_109 mr_4_58 V_172 rfl rfl rfl hR (Nat.le_refl _) h1 h2 h (fun v5 hp6 h => ?_)
    refine mjq_if_eq (tgt := 128) D_66_112 rfl h (fun h => ?_) (fun h => ?_)
    · exact mjG.fg (lo' := [some (.ref l0), some (.int l1), none, none, none]) (And.intro rfl (And.intro rfl True.intro)) ((t_66_128 hR h1 h2 hk2) _ _ _ _ h)
    · refine mjr_aload_n (x := l0) D_66_115 rfl ?_
      refine mjr_iload_n (x := l1) D_66_116 rfl ?_
      refine mjr_iload (x := l4) D_66_117 rfl ?_
      refine mjq_vN (As := [.int l1, .int l4]) (rest := []) D_66_119 mr_4_159 V_67 rfl rfl rfl hR (Nat.le_refl _) h1 h2 h (fun  hp7 h => ?_)
      refine mjq_iinc (x := l4) (c := (1 : Int32)) (lo' := [some (.ref l0), some (.int l1), none, some (.int l3), some (.int (l4 + (1 : Int32)))]) D_66_122 rfl (Nat.le_of_ble_eq_true rfl) rfl rfl ?_
      refine mjr_goto (tgt := 89) D_66_125 rfl ?_
      exact hk89 _ _ _ _ _ _ h
noncomputable def L_66_89 (R : mjR) (k2 : Nat → Int32 → mjH → mjU) (n : Nat) : Nat → Int32 → Int32 → Int32 → mjH → mjU := Nat.rec (motive := fun _ => Nat → Int32 → Int32 → Int32 → mjH → mjU) (fun _ _ _ _ _ => none) (fun _ self => b_66_89 R k2 self) n
theorem T_66_89 {X : mjX} {d C S kc ks : Nat} {R : mjR} (hR : mjC R d) (h1 : kc ≤ C) (h2 : ks ≤ S) {k2 : Nat → Int32 → mjH → mjU} (hk2 : P_66_2 X (d + 1) C S kc ks k2) (n : Nat) : P_66_89 X (d + 1) C S kc ks (L_66_89 R k2 n) := by
  induction n with
  | zero => intro _ _ _ _ _ _ h; exact mj_no h
  | succ n ih => exact t_66_89 hR h1 h2 hk2 ih
noncomputable def b_66_76 (R : mjR) (k2 : Nat → Int32 → mjH → mjU) (l0 : Nat) (l1 : Int32) (hp : mjH) : mjU := gR hp l0 4 2 (fun v1 => gR hp v1 7 9 (fun v2 => aI hp v2 l1 (fun v3 => L_66_89 R k2 mjN l0 l1 v3 v3 hp)))
theorem t_66_76 {X : mjX} {d C S kc ks : Nat} {R : mjR} (hR : mjC R d) (h1 : kc ≤ C) (h2 : ks ≤ S) {k2 : Nat → Int32 → mjH → mjU} (hk2 : P_66_2 X (d + 1) C S kc ks k2) : P_66_76 X (d + 1) C S kc ks (b_66_76 R k2) := by
  intro l0 l1 hp q h
  unfold b_66_76 at h
  refine mjr_aload_n (x := l0) D_66_76 rfl ?_
  refine mjq_gR D_66_77 fr_4_19 h (fun v1 h => ?_)
  refine mjq_gR D_66_80 fr_4_153 h (fun v2 h => ?_)
  refine mjr_iload_n (x := l1) D_66_83 rfl ?_
  refine mjq_aI D_66_84 h (fun v3 h => ?_)
  refine mjq_istore_n (lo' := [some (.ref l0), some (.int l1), none, some (.int v3), none]) D_66_85 (Nat.le_of_ble_eq_true rfl) rfl ?_
  refine mjr_iload_n (x := v3) D_66_86 rfl ?_
  refine mjq_istore (lo' := [some (.ref l0), some (.int l1), none, some (.int v3), some (.int v3)]) D_66_87 (Nat.le_of_ble_eq_true rfl) rfl ?_
  exact (T_66_89 hR h1 h2 hk2 mjN) _ _ _ _ _ _ h
noncomputable def b_66_2 (R : mjR) (k2 : Nat → Int32 → mjH → mjU) (l0 : Nat) (l1 : Int32) (hp : mjH) : mjU := gR hp l0 4 2 (fun v1 => gI hp v1 7 0 (fun v2 => (if v2 ≤ l1 then some (none, hp) else gR hp l0 4 0 (fun v3 => rV hp v3 9 (bI (R 172 [.ref v3] hp) (fun v4 hp5 => (if v4 = 0 then some (none, hp5) else gR hp5 l0 4 2 (fun v6 => gR hp5 v6 7 5 (fun v7 => aI hp5 v7 l1 (fun v8 => (if v8 < 0 then b_66_76 R k2 l0 l1 hp5 else gI hp5 l0 4 4 (fun v9 => (if v9 = 0 then gR hp5 l0 4 2 (fun v10 => rV hp5 v10 7 (bI (R 104 [.ref v10, .int l1, .int v8] hp5) (fun v11 hp12 => (if v11 = 0 then gR hp12 l0 4 0 (fun v13 => gR hp12 l0 4 1 (fun v14 => gR hp12 v14 8 4 (fun v15 => aI hp12 v15 l1 (fun v16 => rV hp12 v13 9 (bN (R 178 [.ref v13, .int (8 : Int32), .int (v16 + (1 : Int32))] hp12) (fun  hp17 => b_66_76 R k2 l0 l1 hp17)))))) else b_66_76 R k2 l0 l1 hp12)))) else b_66_76 R k2 l0 l1 hp5)))))))))))))
theorem t_66_2 {X : mjX} {d C S kc ks : Nat} {R : mjR} (hR : mjC R d) (h1 : kc ≤ C) (h2 : ks ≤ S) {k2 : Nat → Int32 → mjH → mjU} (hk2 : P_66_2 X (d + 1) C S kc ks k2) : P_66_2 X (d + 1) C S kc ks (b_66_2 R k2) := by
  intro l0 l1 hp q h
  unfold b_66_2 at h
  refine mjr_iload_n (x := l1) D_66_2 rfl ?_
  refine mjr_aload_n (x := l0) D_66_3 rfl ?_
  refine mjq_gR D_66_4 fr_4_19 h (fun v1 h => ?_)
  refine mjq_gI D_66_7 fr_4_82 h (fun v2 h => ?_)
  refine mjq_icmp_ge (tgt := 134) D_66_10 rfl h (fun h => ?_) (fun h => ?_)
  · exact mjq_nret D_66_134 rfl h1 h2 h
  · refine mjr_aload_n (x := l0) D_66_13 rfl ?_
    refine mjq_gR D_66_14 fr_4_9 h (fun v3 h => ?_)
    refine mjq_vI (As := []) (rest := []) D_66_17 mr_4_58 V_172 rfl rfl rfl hR (Nat.le_refl _) h1 h2 h (fun v4 hp5 h => ?_)
    refine mjq_if_eq (tgt := 134) D_66_20 rfl h (fun h => ?_) (fun h => ?_)
    · exact mjq_nret D_66_134 rfl h1 h2 h
    · refine mjr_aload_n (x := l0) D_66_23 rfl ?_
      refine mjq_gR D_66_24 fr_4_19 h (fun v6 h => ?_)
      refine mjq_gR D_66_27 fr_4_125 h (fun v7 h => ?_)
      refine mjr_iload_n (x := l1) D_66_30 rfl ?_
      refine mjq_aI D_66_31 h (fun v8 h => ?_)
      refine mjq_istore_n (lo' := [some (.ref l0), some (.int l1), some (.int v8), none, none]) D_66_32 (Nat.le_of_ble_eq_true rfl) rfl ?_
      refine mjr_iload_n (x := v8) D_66_33 rfl ?_
      refine mjq_if_lt (tgt := 76) D_66_34 rfl h (fun h => ?_) (fun h => ?_)
      · exact mjG.fg (lo' := [some (.ref l0), some (.int l1), none, none, none]) (And.intro rfl (And.intro rfl True.intro)) ((t_66_76 hR h1 h2 hk2) _ _ _ _ h)
      · refine mjr_aload_n (x := l0) D_66_37 rfl ?_
        refine mjq_gI D_66_38 fr_4_42 h (fun v9 h => ?_)
        refine mjq_if_ne (tgt := 76) D_66_41 rfl h (fun h => ?_) (fun h => ?_)
        · exact mjG.fg (lo' := [some (.ref l0), some (.int l1), none, none, none]) (And.intro rfl (And.intro rfl True.intro)) ((t_66_76 hR h1 h2 hk2) _ _ _ _ h)
        · refine mjr_aload_n (x := l0) D_66_44 rfl ?_
          refine mjq_gR D_66_45 fr_4_19 h (fun v10 h => ?_)
          refine mjr_iload_n (x := l1) D_66_48 rfl ?_
          refine mjr_iload_n (x := v8) D_66_49 rfl ?_
          refine mjq_vI (As := [.int l1, .int v8]) (rest := []) D_66_50 mr_4_149 V_104 rfl rfl rfl hR (Nat.le_refl _) h1 h2 h (fun v11 hp12 h => ?_)
          refine mjq_if_ne (tgt := 76) D_66_53 rfl h (fun h => ?_) (fun h => ?_)
          · exact mjG.fg (lo' := [some (.ref l0), some (.int l1), none, none, none]) (And.intro rfl (And.intro rfl True.intro)) ((t_66_76 hR h1 h2 hk2) _ _ _ _ h)
          · refine mjr_aload_n (x := l0) D_66_56 rfl ?_
            refine mjq_gR D_66_57 fr_4_9 h (fun v13 h => ?_)
            refine mjq_bi (v := (8 : Int32)) D_66_60 rfl ?_
            refine mjr_aload_n (x := l0) D_66_62 rfl ?_
            refine mjq_gR D_66_63 fr_4_15 h (fun v14 h => ?_)
            refine mjq_gR D_66_66 fr_4_114 h (fun v15 h => ?_)
            refine mjr_iload_n (x := l1) D_66_69 rfl ?_
            refine mjq_aI D_66_70 h (fun v16 h => ?_)
            refine mjq_ic (v := (1 : Int32)) D_66_71 rfl ?_
            refine mjr_iadd D_66_72 ?_
            refine mjq_vN (As := [.int (8 : Int32), .int (v16 + (1 : Int32))]) (rest := []) D_66_73 mr_4_100 V_178 rfl rfl rfl hR (Nat.le_refl _) h1 h2 h (fun  hp17 h => ?_)
            exact mjG.fg (lo' := [some (.ref l0), some (.int l1), none, none, none]) (And.intro rfl (And.intro rfl True.intro)) ((t_66_76 hR h1 h2 hk2) _ _ _ _ h)
noncomputable def L_66_2 (R : mjR) (n : Nat) : Nat → Int32 → mjH → mjU := Nat.rec (motive := fun _ => Nat → Int32 → mjH → mjU) (fun _ _ _ => none) (fun _ self => b_66_2 R self) n
theorem T_66_2 {X : mjX} {d C S kc ks : Nat} {R : mjR} (hR : mjC R d) (h1 : kc ≤ C) (h2 : ks ≤ S) (n : Nat) : P_66_2 X (d + 1) C S kc ks (L_66_2 R n) := by
  induction n with
  | zero => intro _ _ _ _ h; exact mj_no h
  | succ n ih => exact t_66_2 hR h1 h2 ih
noncomputable def b_66_0 (R : mjR) (l0 : Nat) (hp : mjH) : mjU := L_66_2 R mjN l0 (0 : Int32) hp
theorem t_66_0 {X : mjX} {d C S kc ks : Nat} {R : mjR} (hR : mjC R d) (h1 : kc ≤ C) (h2 : ks ≤ S) : P_66_0 X (d + 1) C S kc ks (b_66_0 R) := by
  intro l0 hp q h
  unfold b_66_0 at h
  refine mjq_ic (v := (0 : Int32)) D_66_0 rfl ?_
  refine mjq_istore_n (lo' := [some (.ref l0), some (.int (0 : Int32)), none, none, none]) D_66_1 (Nat.le_of_ble_eq_true rfl) rfl ?_
  exact (T_66_2 hR h1 h2 mjN) _ _ _ _ h
noncomputable def f_66 (R : mjR) (a0 : Nat) (hp : mjH) : mjU := b_66_0 R a0 hp
theorem c_66 {R : mjR} {d : Nat} (hR : mjC R d) {a0 : Nat} {hp : mjH} {q : Option Value × mjH} (h : f_66 R a0 hp = some q) : mjM (d + 1) 0 0 66 [.ref a0] hp (mjEq q) :=
  mjM_of Ja_66 (Nat.le_of_ble_eq_true rfl) (mjG.fg (lo' := [some (.ref a0), none, none, none, none]) (And.intro rfl True.intro) ((t_66_0 hR (Nat.le_refl 0) (Nat.le_refl 0)) a0 hp q h))
def J_67 : mjI := (⟨"OwnerHeap$Judge", "judgeMember", "(II)V"⟩, 4, prog_6_method_12_code, 5, none, 2, false)
theorem Ja_67 : mjMt 67 = some J_67 := by rfl
theorem D_67_0 : decode J_67.2.2.1 0 = .ok (.aload_n 0, 1) := dzq_42 (by decide +kernel)
theorem D_67_1 : decode J_67.2.2.1 1 = .ok (.getfield 9, 3) := dzq_180 (by decide +kernel)
theorem D_67_4 : decode J_67.2.2.1 4 = .ok (.aload_n 0, 1) := dzq_42 (by decide +kernel)
theorem D_67_5 : decode J_67.2.2.1 5 = .ok (.getfield 15, 3) := dzq_180 (by decide +kernel)
theorem D_67_8 : decode J_67.2.2.1 8 = .ok (.getfield 162, 3) := dzq_180 (by decide +kernel)
theorem D_67_11 : decode J_67.2.2.1 11 = .ok (.iload_n 2, 1) := dzq_28 (by decide +kernel)
theorem D_67_12 : decode J_67.2.2.1 12 = .ok (.iaload, 1) := dzq_46 (by decide +kernel)
theorem D_67_13 : decode J_67.2.2.1 13 = .ok (.invokevirtual 117, 3) := dzq_182 (by decide +kernel)
theorem D_67_16 : decode J_67.2.2.1 16 = .ok (.aload_n 0, 1) := dzq_42 (by decide +kernel)
theorem D_67_17 : decode J_67.2.2.1 17 = .ok (.getfield 29, 3) := dzq_180 (by decide +kernel)
theorem D_67_20 : decode J_67.2.2.1 20 = .ok (.getfield 165, 3) := dzq_180 (by decide +kernel)
theorem D_67_23 : decode J_67.2.2.1 23 = .ok (.iload_n 2, 1) := dzq_28 (by decide +kernel)
theorem D_67_24 : decode J_67.2.2.1 24 = .ok (.aload_n 0, 1) := dzq_42 (by decide +kernel)
theorem D_67_25 : decode J_67.2.2.1 25 = .ok (.iload_n 1, 1) := dzq_27 (by decide +kernel)
theorem D_67_26 : decode J_67.2.2.1 26 = .ok (.invokevirtual 168, 3) := dzq_182 (by decide +kernel)
theorem D_67_29 : decode J_67.2.2.1 29 = .ok (.iastore, 1) := dzq_79 (by decide +kernel)
theorem D_67_30 : decode J_67.2.2.1 30 = .ok (.aload_n 0, 1) := dzq_42 (by decide +kernel)
theorem D_67_31 : decode J_67.2.2.1 31 = .ok (.getfield 15, 3) := dzq_180 (by decide +kernel)
theorem D_67_34 : decode J_67.2.2.1 34 = .ok (.getfield 171, 3) := dzq_180 (by decide +kernel)
theorem D_67_37 : decode J_67.2.2.1 37 = .ok (.iload_n 2, 1) := dzq_28 (by decide +kernel)
theorem D_67_38 : decode J_67.2.2.1 38 = .ok (.iaload, 1) := dzq_46 (by decide +kernel)
theorem D_67_39 : decode J_67.2.2.1 39 = .ok (.istore_n 3, 1) := dzq_62 (by decide +kernel)
theorem D_67_40 : decode J_67.2.2.1 40 = .ok (.aload_n 0, 1) := dzq_42 (by decide +kernel)
theorem D_67_41 : decode J_67.2.2.1 41 = .ok (.getfield 19, 3) := dzq_180 (by decide +kernel)
theorem D_67_44 : decode J_67.2.2.1 44 = .ok (.iload_n 1, 1) := dzq_27 (by decide +kernel)
theorem D_67_45 : decode J_67.2.2.1 45 = .ok (.aload_n 0, 1) := dzq_42 (by decide +kernel)
theorem D_67_46 : decode J_67.2.2.1 46 = .ok (.getfield 29, 3) := dzq_180 (by decide +kernel)
theorem D_67_49 : decode J_67.2.2.1 49 = .ok (.getfield 174, 3) := dzq_180 (by decide +kernel)
theorem D_67_52 : decode J_67.2.2.1 52 = .ok (.iload_n 2, 1) := dzq_28 (by decide +kernel)
theorem D_67_53 : decode J_67.2.2.1 53 = .ok (.laload, 1) := dzq_47 (by decide +kernel)
theorem D_67_54 : decode J_67.2.2.1 54 = .ok (.invokevirtual 177, 3) := dzq_182 (by decide +kernel)
theorem D_67_57 : decode J_67.2.2.1 57 = .ok (.iload_n 2, 1) := dzq_28 (by decide +kernel)
theorem D_67_58 : decode J_67.2.2.1 58 = .ok (.if_icmp .eq 12, 3) := dzq_159 (by decide +kernel)
theorem D_67_61 : decode J_67.2.2.1 61 = .ok (.aload_n 0, 1) := dzq_42 (by decide +kernel)
theorem D_67_62 : decode J_67.2.2.1 62 = .ok (.getfield 9, 3) := dzq_180 (by decide +kernel)
theorem D_67_65 : decode J_67.2.2.1 65 = .ok (.iconst 4, 1) := dzq_7 (by decide +kernel)
theorem D_67_66 : decode J_67.2.2.1 66 = .ok (.iload_n 3, 1) := dzq_29 (by decide +kernel)
theorem D_67_67 : decode J_67.2.2.1 67 = .ok (.invokevirtual 100, 3) := dzq_182 (by decide +kernel)
theorem D_67_70 : decode J_67.2.2.1 70 = .ok (.aload_n 0, 1) := dzq_42 (by decide +kernel)
theorem D_67_71 : decode J_67.2.2.1 71 = .ok (.getfield 9, 3) := dzq_180 (by decide +kernel)
theorem D_67_74 : decode J_67.2.2.1 74 = .ok (.iload_n 3, 1) := dzq_29 (by decide +kernel)
theorem D_67_75 : decode J_67.2.2.1 75 = .ok (.iconst 2, 1) := dzq_5 (by decide +kernel)
theorem D_67_76 : decode J_67.2.2.1 76 = .ok (.iadd, 1) := dzq_96 (by decide +kernel)
theorem D_67_77 : decode J_67.2.2.1 77 = .ok (.invokevirtual 117, 3) := dzq_182 (by decide +kernel)
theorem D_67_80 : decode J_67.2.2.1 80 = .ok (.iconst 0, 1) := dzq_3 (by decide +kernel)
theorem D_67_81 : decode J_67.2.2.1 81 = .ok (.istore 4, 2) := dzq_54 (by decide +kernel)
theorem D_67_83 : decode J_67.2.2.1 83 = .ok (.iload 4, 2) := dzq_21 (by decide +kernel)
theorem D_67_85 : decode J_67.2.2.1 85 = .ok (.aload_n 0, 1) := dzq_42 (by decide +kernel)
theorem D_67_86 : decode J_67.2.2.1 86 = .ok (.getfield 29, 3) := dzq_180 (by decide +kernel)
theorem D_67_89 : decode J_67.2.2.1 89 = .ok (.getfield 180, 3) := dzq_180 (by decide +kernel)
theorem D_67_92 : decode J_67.2.2.1 92 = .ok (.iload_n 2, 1) := dzq_28 (by decide +kernel)
theorem D_67_93 : decode J_67.2.2.1 93 = .ok (.iaload, 1) := dzq_46 (by decide +kernel)
theorem D_67_94 : decode J_67.2.2.1 94 = .ok (.if_icmp .ge 40, 3) := dzq_162 (by decide +kernel)
theorem D_67_97 : decode J_67.2.2.1 97 = .ok (.aload_n 0, 1) := dzq_42 (by decide +kernel)
theorem D_67_98 : decode J_67.2.2.1 98 = .ok (.getfield 9, 3) := dzq_180 (by decide +kernel)
theorem D_67_101 : decode J_67.2.2.1 101 = .ok (.invokevirtual 58, 3) := dzq_182 (by decide +kernel)
theorem D_67_104 : decode J_67.2.2.1 104 = .ok (.ifCond .eq 30, 3) := dzq_153 (by decide +kernel)
theorem D_67_107 : decode J_67.2.2.1 107 = .ok (.aload_n 0, 1) := dzq_42 (by decide +kernel)
theorem D_67_108 : decode J_67.2.2.1 108 = .ok (.getfield 29, 3) := dzq_180 (by decide +kernel)
theorem D_67_111 : decode J_67.2.2.1 111 = .ok (.iload_n 2, 1) := dzq_28 (by decide +kernel)
theorem D_67_112 : decode J_67.2.2.1 112 = .ok (.iload 4, 2) := dzq_21 (by decide +kernel)
theorem D_67_114 : decode J_67.2.2.1 114 = .ok (.aload_n 0, 1) := dzq_42 (by decide +kernel)
theorem D_67_115 : decode J_67.2.2.1 115 = .ok (.iload_n 1, 1) := dzq_27 (by decide +kernel)
theorem D_67_116 : decode J_67.2.2.1 116 = .ok (.invokevirtual 168, 3) := dzq_182 (by decide +kernel)
theorem D_67_119 : decode J_67.2.2.1 119 = .ok (.invokevirtual 183, 3) := dzq_182 (by decide +kernel)
theorem D_67_122 : decode J_67.2.2.1 122 = .ok (.aload_n 0, 1) := dzq_42 (by decide +kernel)
theorem D_67_123 : decode J_67.2.2.1 123 = .ok (.iload 4, 2) := dzq_21 (by decide +kernel)
theorem D_67_125 : decode J_67.2.2.1 125 = .ok (.invokevirtual 187, 3) := dzq_182 (by decide +kernel)
theorem D_67_128 : decode J_67.2.2.1 128 = .ok (.iinc 4 1, 3) := dzq_132 (by decide +kernel)
theorem D_67_131 : decode J_67.2.2.1 131 = .ok (.goto (-48), 3) := dzq_167 (by decide +kernel)
theorem D_67_134 : decode J_67.2.2.1 134 = .ok (.return_, 1) := dzq_177 (by decide +kernel)
def P_67_83 (X : mjX) (d C S kc ks : Nat) (k : Nat → Int32 → Int32 → Int32 → mjH → mjU) : Prop := ∀ (l0 : Nat) (l1 : Int32) (l2 : Int32) (l4 : Int32) (hp : mjH) (q : Option Value × mjH), k l0 l1 l2 l4 hp = some q → mjG X d C S J_67 (mjEq q) 83 [some (.ref l0), some (.int l1), some (.int l2), none, some (.int l4)] [] hp kc ks
def P_67_70 (X : mjX) (d C S kc ks : Nat) (k : Nat → Int32 → Int32 → Int32 → mjH → mjU) : Prop := ∀ (l0 : Nat) (l1 : Int32) (l2 : Int32) (l3 : Int32) (hp : mjH) (q : Option Value × mjH), k l0 l1 l2 l3 hp = some q → mjG X d C S J_67 (mjEq q) 70 [some (.ref l0), some (.int l1), some (.int l2), some (.int l3), none] [] hp kc ks
def P_67_0 (X : mjX) (d C S kc ks : Nat) (k : Nat → Int32 → Int32 → mjH → mjU) : Prop := ∀ (l0 : Nat) (l1 : Int32) (l2 : Int32) (hp : mjH) (q : Option Value × mjH), k l0 l1 l2 hp = some q → mjG X d C S J_67 (mjEq q) 0 [some (.ref l0), some (.int l1), some (.int l2), none, none] [] hp kc ks
noncomputable def b_67_83 (R : mjR) (k83 : Nat → Int32 → Int32 → Int32 → mjH → mjU) (l0 : Nat) (l1 : Int32) (l2 : Int32) (l4 : Int32) (hp : mjH) : mjU := gR hp l0 4 3 (fun v1 => gR hp v1 6 6 (fun v2 => aI hp v2 l2 (fun v3 => (if v3 ≤ l4 then some (none, hp) else gR hp l0 4 0 (fun v4 => rV hp v4 9 (bI (R 172 [.ref v4] hp) (fun v5 hp6 => (if v5 = 0 then some (none, hp6) else gR hp6 l0 4 3 (fun v7 => rV hp6 l0 4 (bI (R 68 [.ref l0, .int l1] hp6) (fun v8 hp9 => rV hp9 v7 6 (bN (R 97 [.ref v7, .int l2, .int l4, .int v8] hp9) (fun  hp10 => rV hp10 l0 4 (bN (R 69 [.ref l0, .int l4] hp10) (fun  hp11 => k83 l0 l1 l2 (l4 + (1 : Int32)) hp11)))))))))))))))
theorem t_67_83 {X : mjX} {d C S kc ks : Nat} {R : mjR} (hR : mjC R d) (h1 : kc ≤ C) (h2 : ks ≤ S) {k83 : Nat → Int32 → Int32 → Int32 → mjH → mjU} (hk83 : P_67_83 X (d + 1) C S kc ks k83) : P_67_83 X (d + 1) C S kc ks (b_67_83 R k83) := by
  intro l0 l1 l2 l4 hp q h
  unfold b_67_83 at h
  refine mjr_iload (x := l4) D_67_83 rfl ?_
  refine mjr_aload_n (x := l0) D_67_85 rfl ?_
  refine mjq_gR D_67_86 fr_4_29 h (fun v1 h => ?_)
  refine mjq_gR D_67_89 fr_4_180 h (fun v2 h => ?_)
  refine mjr_iload_n (x := l2) D_67_92 rfl ?_
  refine mjq_aI D_67_93 h (fun v3 h => ?_)
  refine mjq_icmp_ge (tgt := 134) D_67_94 rfl h (fun h => ?_) (fun h => ?_)
  · exact mjq_nret D_67_134 rfl h1 h2 h
  · refine mjr_aload_n (x := l0) D_67_97 rfl ?_
    refine mjq_gR D_67_98 fr_4_9 h (fun v4 h => ?_)
    refine mjq_vI (As := []) (rest := []) D_67_101 mr_4_58 V_172 rfl rfl rfl hR (Nat.le_refl _) h1 h2 h (fun v5 hp6 h => ?_)
    refine mjq_if_eq (tgt := 134) D_67_104 rfl h (fun h => ?_) (fun h => ?_)
    · exact mjq_nret D_67_134 rfl h1 h2 h
    · refine mjr_aload_n (x := l0) D_67_107 rfl ?_
      refine mjq_gR D_67_108 fr_4_29 h (fun v7 h => ?_)
      refine mjr_iload_n (x := l2) D_67_111 rfl ?_
      refine mjr_iload (x := l4) D_67_112 rfl ?_
      refine mjr_aload_n (x := l0) D_67_114 rfl ?_
      refine mjr_iload_n (x := l1) D_67_115 rfl ?_
      refine mjq_vI (As := [.int l1]) (rest := [.int l4, .int l2, .ref v7]) D_67_116 mr_4_168 V_68 rfl rfl rfl hR (Nat.le_refl _) h1 h2 h (fun v8 hp9 h => ?_)
      refine mjq_vN (As := [.int l2, .int l4, .int v8]) (rest := []) D_67_119 mr_4_183 V_97 rfl rfl rfl hR (Nat.le_refl _) h1 h2 h (fun  hp10 h => ?_)
      refine mjr_aload_n (x := l0) D_67_122 rfl ?_
      refine mjr_iload (x := l4) D_67_123 rfl ?_
      refine mjq_vN (As := [.int l4]) (rest := []) D_67_125 mr_4_187 V_69 rfl rfl rfl hR (Nat.le_refl _) h1 h2 h (fun  hp11 h => ?_)
      refine mjq_iinc (x := l4) (c := (1 : Int32)) (lo' := [some (.ref l0), some (.int l1), some (.int l2), none, some (.int (l4 + (1 : Int32)))]) D_67_128 rfl (Nat.le_of_ble_eq_true rfl) rfl rfl ?_
      refine mjr_goto (tgt := 83) D_67_131 rfl ?_
      exact hk83 _ _ _ _ _ _ h
noncomputable def L_67_83 (R : mjR) (n : Nat) : Nat → Int32 → Int32 → Int32 → mjH → mjU := Nat.rec (motive := fun _ => Nat → Int32 → Int32 → Int32 → mjH → mjU) (fun _ _ _ _ _ => none) (fun _ self => b_67_83 R self) n
theorem T_67_83 {X : mjX} {d C S kc ks : Nat} {R : mjR} (hR : mjC R d) (h1 : kc ≤ C) (h2 : ks ≤ S) (n : Nat) : P_67_83 X (d + 1) C S kc ks (L_67_83 R n) := by
  induction n with
  | zero => intro _ _ _ _ _ _ h; exact mj_no h
  | succ n ih => exact t_67_83 hR h1 h2 ih
noncomputable def b_67_70 (R : mjR) (l0 : Nat) (l1 : Int32) (l2 : Int32) (l3 : Int32) (hp : mjH) : mjU := gR hp l0 4 0 (fun v1 => rV hp v1 9 (bN (R 179 [.ref v1, .int (l3 + (2 : Int32))] hp) (fun  hp2 => L_67_83 R mjN l0 l1 l2 (0 : Int32) hp2)))
theorem t_67_70 {X : mjX} {d C S kc ks : Nat} {R : mjR} (hR : mjC R d) (h1 : kc ≤ C) (h2 : ks ≤ S) : P_67_70 X (d + 1) C S kc ks (b_67_70 R) := by
  intro l0 l1 l2 l3 hp q h
  unfold b_67_70 at h
  refine mjr_aload_n (x := l0) D_67_70 rfl ?_
  refine mjq_gR D_67_71 fr_4_9 h (fun v1 h => ?_)
  refine mjr_iload_n (x := l3) D_67_74 rfl ?_
  refine mjq_ic (v := (2 : Int32)) D_67_75 rfl ?_
  refine mjr_iadd D_67_76 ?_
  refine mjq_vN (As := [.int (l3 + (2 : Int32))]) (rest := []) D_67_77 mr_4_117 V_179 rfl rfl rfl hR (Nat.le_refl _) h1 h2 h (fun  hp2 h => ?_)
  refine mjq_ic (v := (0 : Int32)) D_67_80 rfl ?_
  refine mjq_istore (lo' := [some (.ref l0), some (.int l1), some (.int l2), some (.int l3), some (.int (0 : Int32))]) D_67_81 (Nat.le_of_ble_eq_true rfl) rfl ?_
  exact mjG.fg (lo' := [some (.ref l0), some (.int l1), some (.int l2), none, some (.int (0 : Int32))]) (And.intro rfl (And.intro rfl (And.intro rfl (And.intro rfl True.intro)))) ((T_67_83 hR h1 h2 mjN) _ _ _ _ _ _ h)
noncomputable def b_67_0 (R : mjR) (l0 : Nat) (l1 : Int32) (l2 : Int32) (hp : mjH) : mjU := gR hp l0 4 0 (fun v1 => gR hp l0 4 1 (fun v2 => gR hp v2 8 6 (fun v3 => aI hp v3 l2 (fun v4 => rV hp v1 9 (bN (R 179 [.ref v1, .int v4] hp) (fun  hp5 => gR hp5 l0 4 3 (fun v6 => gR hp5 v6 6 3 (fun v7 => rV hp5 l0 4 (bI (R 68 [.ref l0, .int l1] hp5) (fun v8 hp9 => sI hp9 v7 l2 v8 (fun hp10 => gR hp10 l0 4 1 (fun v11 => gR hp10 v11 8 7 (fun v12 => aI hp10 v12 l2 (fun v13 => gR hp10 l0 4 2 (fun v14 => gR hp10 l0 4 3 (fun v15 => gR hp10 v15 6 1 (fun v16 => aL hp10 v16 l2 (fun v17 => rV hp10 v14 7 (bI (R 119 [.ref v14, .int l1, .long v17] hp10) (fun v18 hp19 => (if v18 = l2 then b_67_70 R l0 l1 l2 v13 hp19 else gR hp19 l0 4 0 (fun v20 => rV hp19 v20 9 (bN (R 178 [.ref v20, .int (4 : Int32), .int v13] hp19) (fun  hp21 => b_67_70 R l0 l1 l2 v13 hp21))))))))))))))))))))))))
theorem t_67_0 {X : mjX} {d C S kc ks : Nat} {R : mjR} (hR : mjC R d) (h1 : kc ≤ C) (h2 : ks ≤ S) : P_67_0 X (d + 1) C S kc ks (b_67_0 R) := by
  intro l0 l1 l2 hp q h
  unfold b_67_0 at h
  refine mjr_aload_n (x := l0) D_67_0 rfl ?_
  refine mjq_gR D_67_1 fr_4_9 h (fun v1 h => ?_)
  refine mjr_aload_n (x := l0) D_67_4 rfl ?_
  refine mjq_gR D_67_5 fr_4_15 h (fun v2 h => ?_)
  refine mjq_gR D_67_8 fr_4_162 h (fun v3 h => ?_)
  refine mjr_iload_n (x := l2) D_67_11 rfl ?_
  refine mjq_aI D_67_12 h (fun v4 h => ?_)
  refine mjq_vN (As := [.int v4]) (rest := []) D_67_13 mr_4_117 V_179 rfl rfl rfl hR (Nat.le_refl _) h1 h2 h (fun  hp5 h => ?_)
  refine mjr_aload_n (x := l0) D_67_16 rfl ?_
  refine mjq_gR D_67_17 fr_4_29 h (fun v6 h => ?_)
  refine mjq_gR D_67_20 fr_4_165 h (fun v7 h => ?_)
  refine mjr_iload_n (x := l2) D_67_23 rfl ?_
  refine mjr_aload_n (x := l0) D_67_24 rfl ?_
  refine mjr_iload_n (x := l1) D_67_25 rfl ?_
  refine mjq_vI (As := [.int l1]) (rest := [.int l2, .ref v7]) D_67_26 mr_4_168 V_68 rfl rfl rfl hR (Nat.le_refl _) h1 h2 h (fun v8 hp9 h => ?_)
  refine mjq_sI D_67_29 h (fun hp10 h => ?_)
  refine mjr_aload_n (x := l0) D_67_30 rfl ?_
  refine mjq_gR D_67_31 fr_4_15 h (fun v11 h => ?_)
  refine mjq_gR D_67_34 fr_4_171 h (fun v12 h => ?_)
  refine mjr_iload_n (x := l2) D_67_37 rfl ?_
  refine mjq_aI D_67_38 h (fun v13 h => ?_)
  refine mjq_istore_n (lo' := [some (.ref l0), some (.int l1), some (.int l2), some (.int v13), none]) D_67_39 (Nat.le_of_ble_eq_true rfl) rfl ?_
  refine mjr_aload_n (x := l0) D_67_40 rfl ?_
  refine mjq_gR D_67_41 fr_4_19 h (fun v14 h => ?_)
  refine mjr_iload_n (x := l1) D_67_44 rfl ?_
  refine mjr_aload_n (x := l0) D_67_45 rfl ?_
  refine mjq_gR D_67_46 fr_4_29 h (fun v15 h => ?_)
  refine mjq_gR D_67_49 fr_4_174 h (fun v16 h => ?_)
  refine mjr_iload_n (x := l2) D_67_52 rfl ?_
  refine mjq_aL D_67_53 h (fun v17 h => ?_)
  refine mjq_vI (As := [.int l1, .long v17]) (rest := []) D_67_54 mr_4_177 V_119 rfl rfl rfl hR (Nat.le_refl _) h1 h2 h (fun v18 hp19 h => ?_)
  refine mjr_iload_n (x := l2) D_67_57 rfl ?_
  refine mjq_icmp_eq (tgt := 70) D_67_58 rfl h (fun h => ?_) (fun h => ?_)
  · exact (t_67_70 hR h1 h2) _ _ _ _ _ _ h
  · refine mjr_aload_n (x := l0) D_67_61 rfl ?_
    refine mjq_gR D_67_62 fr_4_9 h (fun v20 h => ?_)
    refine mjq_ic (v := (4 : Int32)) D_67_65 rfl ?_
    refine mjr_iload_n (x := v13) D_67_66 rfl ?_
    refine mjq_vN (As := [.int (4 : Int32), .int v13]) (rest := []) D_67_67 mr_4_100 V_178 rfl rfl rfl hR (Nat.le_refl _) h1 h2 h (fun  hp21 h => ?_)
    exact (t_67_70 hR h1 h2) _ _ _ _ _ _ h
noncomputable def f_67 (R : mjR) (a0 : Nat) (a1 : Int32) (a2 : Int32) (hp : mjH) : mjU := b_67_0 R a0 a1 a2 hp
theorem c_67 {R : mjR} {d : Nat} (hR : mjC R d) {a0 : Nat} {a1 : Int32} {a2 : Int32} {hp : mjH} {q : Option Value × mjH} (h : f_67 R a0 a1 a2 hp = some q) : mjM (d + 1) 0 0 67 [.ref a0, .int a1, .int a2] hp (mjEq q) :=
  mjM_of Ja_67 (Nat.le_of_ble_eq_true rfl) (mjG.fg (lo' := [some (.ref a0), some (.int a1), some (.int a2), none, none]) (And.intro rfl (And.intro rfl (And.intro rfl True.intro))) ((t_67_0 hR (Nat.le_refl 0) (Nat.le_refl 0)) a0 a1 a2 hp q h))
def J_68 : mjI := (⟨"OwnerHeap$Judge", "typeHere", "(I)I"⟩, 4, prog_6_method_16_code, 2, (some .int), 1, false)
theorem Ja_68 : mjMt 68 = some J_68 := by rfl
theorem D_68_0 : decode J_68.2.2.1 0 = .ok (.aload_n 0, 1) := dzq_42 (by decide +kernel)
theorem D_68_1 : decode J_68.2.2.1 1 = .ok (.getfield 9, 3) := dzq_180 (by decide +kernel)
theorem D_68_4 : decode J_68.2.2.1 4 = .ok (.bipush 10, 2) := dzq_16 (by decide +kernel)
theorem D_68_6 : decode J_68.2.2.1 6 = .ok (.invokevirtual 222, 3) := dzq_182 (by decide +kernel)
theorem D_68_9 : decode J_68.2.2.1 9 = .ok (.ifCond .eq 12, 3) := dzq_153 (by decide +kernel)
theorem D_68_12 : decode J_68.2.2.1 12 = .ok (.aload_n 0, 1) := dzq_42 (by decide +kernel)
theorem D_68_13 : decode J_68.2.2.1 13 = .ok (.getfield 9, 3) := dzq_180 (by decide +kernel)
theorem D_68_16 : decode J_68.2.2.1 16 = .ok (.invokevirtual 197, 3) := dzq_182 (by decide +kernel)
theorem D_68_19 : decode J_68.2.2.1 19 = .ok (.iconst (-1), 1) := dzq_2 (by decide +kernel)
theorem D_68_20 : decode J_68.2.2.1 20 = .ok (.ireturn, 1) := dzq_172 (by decide +kernel)
theorem D_68_21 : decode J_68.2.2.1 21 = .ok (.aload_n 0, 1) := dzq_42 (by decide +kernel)
theorem D_68_22 : decode J_68.2.2.1 22 = .ok (.iload_n 1, 1) := dzq_27 (by decide +kernel)
theorem D_68_23 : decode J_68.2.2.1 23 = .ok (.iconst 0, 1) := dzq_3 (by decide +kernel)
theorem D_68_24 : decode J_68.2.2.1 24 = .ok (.invokevirtual 121, 3) := dzq_182 (by decide +kernel)
theorem D_68_27 : decode J_68.2.2.1 27 = .ok (.ireturn, 1) := dzq_172 (by decide +kernel)
def P_68_0 (X : mjX) (d C S kc ks : Nat) (k : Nat → Int32 → mjH → mjU) : Prop := ∀ (l0 : Nat) (l1 : Int32) (hp : mjH) (q : Option Value × mjH), k l0 l1 hp = some q → mjG X d C S J_68 (mjEq q) 0 [some (.ref l0), some (.int l1)] [] hp kc ks
noncomputable def b_68_0 (R : mjR) (l0 : Nat) (l1 : Int32) (hp : mjH) : mjU := gR hp l0 4 0 (fun v1 => rV hp v1 9 (bI (R 164 [.ref v1, .int (10 : Int32)] hp) (fun v2 hp3 => (if v2 = 0 then rV hp3 l0 4 (bI (R 60 [.ref l0, .int l1, .int (0 : Int32)] hp3) (fun v4 hp5 => some (some (.int v4), hp5))) else gR hp3 l0 4 0 (fun v6 => rV hp3 v6 9 (bN (R 166 [.ref v6] hp3) (fun  hp7 => some (some (.int (-1 : Int32)), hp7))))))))
theorem t_68_0 {X : mjX} {d C S kc ks : Nat} {R : mjR} (hR : mjC R d) (h1 : kc ≤ C) (h2 : ks ≤ S) : P_68_0 X (d + 1) C S kc ks (b_68_0 R) := by
  intro l0 l1 hp q h
  unfold b_68_0 at h
  refine mjr_aload_n (x := l0) D_68_0 rfl ?_
  refine mjq_gR D_68_1 fr_4_9 h (fun v1 h => ?_)
  refine mjq_bi (v := (10 : Int32)) D_68_4 rfl ?_
  refine mjq_vI (As := [.int (10 : Int32)]) (rest := []) D_68_6 mr_4_222 V_164 rfl rfl rfl hR (Nat.le_refl _) h1 h2 h (fun v2 hp3 h => ?_)
  refine mjq_if_eq (tgt := 21) D_68_9 rfl h (fun h => ?_) (fun h => ?_)
  · refine mjr_aload_n (x := l0) D_68_21 rfl ?_
    refine mjr_iload_n (x := l1) D_68_22 rfl ?_
    refine mjq_ic (v := (0 : Int32)) D_68_23 rfl ?_
    refine mjq_vI (As := [.int l1, .int (0 : Int32)]) (rest := []) D_68_24 mr_4_121 V_60 rfl rfl rfl hR (Nat.le_refl _) h1 h2 h (fun v4 hp5 h => ?_)
    exact mjq_ret D_68_27 rfl h1 h2 h
  · refine mjr_aload_n (x := l0) D_68_12 rfl ?_
    refine mjq_gR D_68_13 fr_4_9 h (fun v6 h => ?_)
    refine mjq_vN (As := []) (rest := []) D_68_16 mr_4_197 V_166 rfl rfl rfl hR (Nat.le_refl _) h1 h2 h (fun  hp7 h => ?_)
    refine mjq_ic (v := (-1 : Int32)) D_68_19 rfl ?_
    exact mjq_ret D_68_20 rfl h1 h2 h
noncomputable def f_68 (R : mjR) (a0 : Nat) (a1 : Int32) (hp : mjH) : mjU := b_68_0 R a0 a1 hp
theorem c_68 {R : mjR} {d : Nat} (hR : mjC R d) {a0 : Nat} {a1 : Int32} {hp : mjH} {q : Option Value × mjH} (h : f_68 R a0 a1 hp = some q) : mjM (d + 1) 0 0 68 [.ref a0, .int a1] hp (mjEq q) :=
  mjM_of Ja_68 (Nat.le_of_ble_eq_true rfl) (mjG.fg (lo' := [some (.ref a0), some (.int a1)]) (And.intro rfl (And.intro rfl True.intro)) ((t_68_0 hR (Nat.le_refl 0) (Nat.le_refl 0)) a0 a1 hp q h))
def J_69 : mjI := (⟨"OwnerHeap$Judge", "judgeParamName", "(I)V"⟩, 4, prog_6_method_13_code, 5, none, 1, false)
theorem Ja_69 : mjMt 69 = some J_69 := by rfl
theorem D_69_0 : decode J_69.2.2.1 0 = .ok (.aload_n 0, 1) := dzq_42 (by decide +kernel)
theorem D_69_1 : decode J_69.2.2.1 1 = .ok (.getfield 9, 3) := dzq_180 (by decide +kernel)
theorem D_69_4 : decode J_69.2.2.1 4 = .ok (.aload_n 0, 1) := dzq_42 (by decide +kernel)
theorem D_69_5 : decode J_69.2.2.1 5 = .ok (.getfield 9, 3) := dzq_180 (by decide +kernel)
theorem D_69_8 : decode J_69.2.2.1 8 = .ok (.invokevirtual 190, 3) := dzq_182 (by decide +kernel)
theorem D_69_11 : decode J_69.2.2.1 11 = .ok (.invokevirtual 92, 3) := dzq_182 (by decide +kernel)
theorem D_69_14 : decode J_69.2.2.1 14 = .ok (.lstore_n 2, 1) := by decide +kernel
theorem D_69_15 : decode J_69.2.2.1 15 = .ok (.iconst 0, 1) := dzq_3 (by decide +kernel)
theorem D_69_16 : decode J_69.2.2.1 16 = .ok (.istore 4, 2) := dzq_54 (by decide +kernel)
theorem D_69_18 : decode J_69.2.2.1 18 = .ok (.iload 4, 2) := dzq_21 (by decide +kernel)
theorem D_69_20 : decode J_69.2.2.1 20 = .ok (.iload_n 1, 1) := dzq_27 (by decide +kernel)
theorem D_69_21 : decode J_69.2.2.1 21 = .ok (.if_icmp .ge 29, 3) := dzq_162 (by decide +kernel)
theorem D_69_24 : decode J_69.2.2.1 24 = .ok (.aload_n 0, 1) := dzq_42 (by decide +kernel)
theorem D_69_25 : decode J_69.2.2.1 25 = .ok (.getfield 39, 3) := dzq_180 (by decide +kernel)
theorem D_69_28 : decode J_69.2.2.1 28 = .ok (.iload 4, 2) := dzq_21 (by decide +kernel)
theorem D_69_30 : decode J_69.2.2.1 30 = .ok (.laload, 1) := dzq_47 (by decide +kernel)
theorem D_69_31 : decode J_69.2.2.1 31 = .ok (.lload_n 2, 1) := dzq_32 (by decide +kernel)
theorem D_69_32 : decode J_69.2.2.1 32 = .ok (.lcmp, 1) := by decide +kernel
theorem D_69_33 : decode J_69.2.2.1 33 = .ok (.ifCond .ne 11, 3) := dzq_154 (by decide +kernel)
theorem D_69_36 : decode J_69.2.2.1 36 = .ok (.aload_n 0, 1) := dzq_42 (by decide +kernel)
theorem D_69_37 : decode J_69.2.2.1 37 = .ok (.getfield 9, 3) := dzq_180 (by decide +kernel)
theorem D_69_40 : decode J_69.2.2.1 40 = .ok (.iconst 4, 1) := dzq_7 (by decide +kernel)
theorem D_69_41 : decode J_69.2.2.1 41 = .ok (.invokevirtual 194, 3) := dzq_182 (by decide +kernel)
theorem D_69_44 : decode J_69.2.2.1 44 = .ok (.iinc 4 1, 3) := dzq_132 (by decide +kernel)
theorem D_69_47 : decode J_69.2.2.1 47 = .ok (.goto (-29), 3) := dzq_167 (by decide +kernel)
theorem D_69_50 : decode J_69.2.2.1 50 = .ok (.aload_n 0, 1) := dzq_42 (by decide +kernel)
theorem D_69_51 : decode J_69.2.2.1 51 = .ok (.getfield 39, 3) := dzq_180 (by decide +kernel)
theorem D_69_54 : decode J_69.2.2.1 54 = .ok (.iload_n 1, 1) := dzq_27 (by decide +kernel)
theorem D_69_55 : decode J_69.2.2.1 55 = .ok (.lload_n 2, 1) := dzq_32 (by decide +kernel)
theorem D_69_56 : decode J_69.2.2.1 56 = .ok (.lastore, 1) := by decide +kernel
theorem D_69_57 : decode J_69.2.2.1 57 = .ok (.aload_n 0, 1) := dzq_42 (by decide +kernel)
theorem D_69_58 : decode J_69.2.2.1 58 = .ok (.getfield 9, 3) := dzq_180 (by decide +kernel)
theorem D_69_61 : decode J_69.2.2.1 61 = .ok (.invokevirtual 197, 3) := dzq_182 (by decide +kernel)
theorem D_69_64 : decode J_69.2.2.1 64 = .ok (.aload_n 0, 1) := dzq_42 (by decide +kernel)
theorem D_69_65 : decode J_69.2.2.1 65 = .ok (.getfield 9, 3) := dzq_180 (by decide +kernel)
theorem D_69_68 : decode J_69.2.2.1 68 = .ok (.invokevirtual 197, 3) := dzq_182 (by decide +kernel)
theorem D_69_71 : decode J_69.2.2.1 71 = .ok (.return_, 1) := dzq_177 (by decide +kernel)
def P_69_44 (X : mjX) (d C S kc ks : Nat) (k : Nat → Int32 → Int64 → Int32 → mjH → mjU) : Prop := ∀ (l0 : Nat) (l1 : Int32) (l2 : Int64) (l4 : Int32) (hp : mjH) (q : Option Value × mjH), k l0 l1 l2 l4 hp = some q → mjG X d C S J_69 (mjEq q) 44 [some (.ref l0), some (.int l1), some (.long l2), none, some (.int l4)] [] hp kc ks
def P_69_18 (X : mjX) (d C S kc ks : Nat) (k : Nat → Int32 → Int64 → Int32 → mjH → mjU) : Prop := ∀ (l0 : Nat) (l1 : Int32) (l2 : Int64) (l4 : Int32) (hp : mjH) (q : Option Value × mjH), k l0 l1 l2 l4 hp = some q → mjG X d C S J_69 (mjEq q) 18 [some (.ref l0), some (.int l1), some (.long l2), none, some (.int l4)] [] hp kc ks
def P_69_0 (X : mjX) (d C S kc ks : Nat) (k : Nat → Int32 → mjH → mjU) : Prop := ∀ (l0 : Nat) (l1 : Int32) (hp : mjH) (q : Option Value × mjH), k l0 l1 hp = some q → mjG X d C S J_69 (mjEq q) 0 [some (.ref l0), some (.int l1), none, none, none] [] hp kc ks
noncomputable def b_69_44 (R : mjR) (k18 : Nat → Int32 → Int64 → Int32 → mjH → mjU) (l0 : Nat) (l1 : Int32) (l2 : Int64) (l4 : Int32) (hp : mjH) : mjU := k18 l0 l1 l2 (l4 + (1 : Int32)) hp
theorem t_69_44 {X : mjX} {d C S kc ks : Nat} {R : mjR} (hR : mjC R d) (h1 : kc ≤ C) (h2 : ks ≤ S) {k18 : Nat → Int32 → Int64 → Int32 → mjH → mjU} (hk18 : P_69_18 X (d + 1) C S kc ks k18) : P_69_44 X (d + 1) C S kc ks (b_69_44 R k18) := by
  intro l0 l1 l2 l4 hp q h
  unfold b_69_44 at h
  refine mjq_iinc (x := l4) (c := (1 : Int32)) (lo' := [some (.ref l0), some (.int l1), some (.long l2), none, some (.int (l4 + (1 : Int32)))]) D_69_44 rfl (Nat.le_of_ble_eq_true rfl) rfl rfl ?_
  refine mjr_goto (tgt := 18) D_69_47 rfl ?_
  exact hk18 _ _ _ _ _ _ h
noncomputable def b_69_18 (R : mjR) (k18 : Nat → Int32 → Int64 → Int32 → mjH → mjU) (l0 : Nat) (l1 : Int32) (l2 : Int64) (l4 : Int32) (hp : mjH) : mjU := (if l1 ≤ l4 then gR hp l0 4 7 (fun v1 => sL hp v1 l1 l2 (fun hp2 => gR hp2 l0 4 0 (fun v3 => rV hp2 v3 9 (bN (R 166 [.ref v3] hp2) (fun  hp4 => gR hp4 l0 4 0 (fun v5 => rV hp4 v5 9 (bN (R 166 [.ref v5] hp4) (fun  hp6 => some (none, hp6))))))))) else gR hp l0 4 7 (fun v7 => aL hp v7 l4 (fun v8 => (if (lg_cmp v8 l2) = 0 then gR hp l0 4 0 (fun v9 => rV hp v9 9 (bN (R 165 [.ref v9, .int (4 : Int32)] hp) (fun  hp10 => b_69_44 R k18 l0 l1 l2 l4 hp10))) else b_69_44 R k18 l0 l1 l2 l4 hp))))
theorem t_69_18 {X : mjX} {d C S kc ks : Nat} {R : mjR} (hR : mjC R d) (h1 : kc ≤ C) (h2 : ks ≤ S) {k18 : Nat → Int32 → Int64 → Int32 → mjH → mjU} (hk18 : P_69_18 X (d + 1) C S kc ks k18) : P_69_18 X (d + 1) C S kc ks (b_69_18 R k18) := by
  intro l0 l1 l2 l4 hp q h
  unfold b_69_18 at h
  refine mjr_iload (x := l4) D_69_18 rfl ?_
  refine mjr_iload_n (x := l1) D_69_20 rfl ?_
  refine mjq_icmp_ge (tgt := 50) D_69_21 rfl h (fun h => ?_) (fun h => ?_)
  · refine mjr_aload_n (x := l0) D_69_50 rfl ?_
    refine mjq_gR D_69_51 fr_4_39 h (fun v1 h => ?_)
    refine mjr_iload_n (x := l1) D_69_54 rfl ?_
    refine mjr_lload_n (x := l2) D_69_55 rfl ?_
    refine mjq_sL D_69_56 h (fun hp2 h => ?_)
    refine mjr_aload_n (x := l0) D_69_57 rfl ?_
    refine mjq_gR D_69_58 fr_4_9 h (fun v3 h => ?_)
    refine mjq_vN (As := []) (rest := []) D_69_61 mr_4_197 V_166 rfl rfl rfl hR (Nat.le_refl _) h1 h2 h (fun  hp4 h => ?_)
    refine mjr_aload_n (x := l0) D_69_64 rfl ?_
    refine mjq_gR D_69_65 fr_4_9 h (fun v5 h => ?_)
    refine mjq_vN (As := []) (rest := []) D_69_68 mr_4_197 V_166 rfl rfl rfl hR (Nat.le_refl _) h1 h2 h (fun  hp6 h => ?_)
    exact mjq_nret D_69_71 rfl h1 h2 h
  · refine mjr_aload_n (x := l0) D_69_24 rfl ?_
    refine mjq_gR D_69_25 fr_4_39 h (fun v7 h => ?_)
    refine mjr_iload (x := l4) D_69_28 rfl ?_
    refine mjq_aL D_69_30 h (fun v8 h => ?_)
    refine mjr_lload_n (x := l2) D_69_31 rfl ?_
    refine mjr_lcmp D_69_32 ?_
    refine mjq_if_ne (tgt := 44) D_69_33 rfl h (fun h => ?_) (fun h => ?_)
    · exact (t_69_44 hR h1 h2 hk18) _ _ _ _ _ _ h
    · refine mjr_aload_n (x := l0) D_69_36 rfl ?_
      refine mjq_gR D_69_37 fr_4_9 h (fun v9 h => ?_)
      refine mjq_ic (v := (4 : Int32)) D_69_40 rfl ?_
      refine mjq_vN (As := [.int (4 : Int32)]) (rest := []) D_69_41 mr_4_194 V_165 rfl rfl rfl hR (Nat.le_refl _) h1 h2 h (fun  hp10 h => ?_)
      exact (t_69_44 hR h1 h2 hk18) _ _ _ _ _ _ h
noncomputable def L_69_18 (R : mjR) (n : Nat) : Nat → Int32 → Int64 → Int32 → mjH → mjU := Nat.rec (motive := fun _ => Nat → Int32 → Int64 → Int32 → mjH → mjU) (fun _ _ _ _ _ => none) (fun _ self => b_69_18 R self) n
theorem T_69_18 {X : mjX} {d C S kc ks : Nat} {R : mjR} (hR : mjC R d) (h1 : kc ≤ C) (h2 : ks ≤ S) (n : Nat) : P_69_18 X (d + 1) C S kc ks (L_69_18 R n) := by
  induction n with
  | zero => intro _ _ _ _ _ _ h; exact mj_no h
  | succ n ih => exact t_69_18 hR h1 h2 ih
noncomputable def b_69_0 (R : mjR) (l0 : Nat) (l1 : Int32) (hp : mjH) : mjU := gR hp l0 4 0 (fun v1 => gR hp l0 4 0 (fun v2 => rV hp v2 9 (bI (R 167 [.ref v2] hp) (fun v3 hp4 => rV hp4 v1 9 (bL (R 170 [.ref v1, .int v3] hp4) (fun v5 hp6 => L_69_18 R mjN l0 l1 v5 (0 : Int32) hp6))))))
theorem t_69_0 {X : mjX} {d C S kc ks : Nat} {R : mjR} (hR : mjC R d) (h1 : kc ≤ C) (h2 : ks ≤ S) : P_69_0 X (d + 1) C S kc ks (b_69_0 R) := by
  intro l0 l1 hp q h
  unfold b_69_0 at h
  refine mjr_aload_n (x := l0) D_69_0 rfl ?_
  refine mjq_gR D_69_1 fr_4_9 h (fun v1 h => ?_)
  refine mjr_aload_n (x := l0) D_69_4 rfl ?_
  refine mjq_gR D_69_5 fr_4_9 h (fun v2 h => ?_)
  refine mjq_vI (As := []) (rest := [.ref v1]) D_69_8 mr_4_190 V_167 rfl rfl rfl hR (Nat.le_refl _) h1 h2 h (fun v3 hp4 h => ?_)
  refine mjq_vL (As := [.int v3]) (rest := []) D_69_11 mr_4_92 V_170 rfl rfl rfl hR (Nat.le_refl _) h1 h2 h (fun v5 hp6 h => ?_)
  refine mjq_lstore_n (lo' := [some (.ref l0), some (.int l1), some (.long v5), none, none]) D_69_14 (Nat.le_of_ble_eq_true rfl) rfl ?_
  refine mjq_ic (v := (0 : Int32)) D_69_15 rfl ?_
  refine mjq_istore (lo' := [some (.ref l0), some (.int l1), some (.long v5), none, some (.int (0 : Int32))]) D_69_16 (Nat.le_of_ble_eq_true rfl) rfl ?_
  exact (T_69_18 hR h1 h2 mjN) _ _ _ _ _ _ h
noncomputable def f_69 (R : mjR) (a0 : Nat) (a1 : Int32) (hp : mjH) : mjU := b_69_0 R a0 a1 hp
theorem c_69 {R : mjR} {d : Nat} (hR : mjC R d) {a0 : Nat} {a1 : Int32} {hp : mjH} {q : Option Value × mjH} (h : f_69 R a0 a1 hp = some q) : mjM (d + 1) 0 0 69 [.ref a0, .int a1] hp (mjEq q) :=
  mjM_of Ja_69 (Nat.le_of_ble_eq_true rfl) (mjG.fg (lo' := [some (.ref a0), some (.int a1), none, none, none]) (And.intro rfl (And.intro rfl True.intro)) ((t_69_0 hR (Nat.le_refl 0) (Nat.le_refl 0)) a0 a1 hp q h))
def J_70 : mjI := (⟨"OwnerHeap$Judge", "judgeOvers", "()V"⟩, 4, prog_6_method_14_code, 6, none, 0, false)
theorem Ja_70 : mjMt 70 = some J_70 := by rfl
theorem D_70_0 : decode J_70.2.2.1 0 = .ok (.iconst 0, 1) := dzq_3 (by decide +kernel)
theorem D_70_1 : decode J_70.2.2.1 1 = .ok (.istore_n 1, 1) := dzq_60 (by decide +kernel)
theorem D_70_2 : decode J_70.2.2.1 2 = .ok (.iload_n 1, 1) := dzq_27 (by decide +kernel)
theorem D_70_3 : decode J_70.2.2.1 3 = .ok (.aload_n 0, 1) := dzq_42 (by decide +kernel)
theorem D_70_4 : decode J_70.2.2.1 4 = .ok (.getfield 29, 3) := dzq_180 (by decide +kernel)
theorem D_70_7 : decode J_70.2.2.1 7 = .ok (.getfield 200, 3) := dzq_180 (by decide +kernel)
theorem D_70_10 : decode J_70.2.2.1 10 = .ok (.if_icmp .ge 179, 3) := dzq_162 (by decide +kernel)
theorem D_70_13 : decode J_70.2.2.1 13 = .ok (.aload_n 0, 1) := dzq_42 (by decide +kernel)
theorem D_70_14 : decode J_70.2.2.1 14 = .ok (.getfield 9, 3) := dzq_180 (by decide +kernel)
theorem D_70_17 : decode J_70.2.2.1 17 = .ok (.invokevirtual 58, 3) := dzq_182 (by decide +kernel)
theorem D_70_20 : decode J_70.2.2.1 20 = .ok (.ifCond .eq 169, 3) := dzq_153 (by decide +kernel)
theorem D_70_23 : decode J_70.2.2.1 23 = .ok (.iconst (-1), 1) := dzq_2 (by decide +kernel)
theorem D_70_24 : decode J_70.2.2.1 24 = .ok (.istore_n 2, 1) := dzq_61 (by decide +kernel)
theorem D_70_25 : decode J_70.2.2.1 25 = .ok (.aload_n 0, 1) := dzq_42 (by decide +kernel)
theorem D_70_26 : decode J_70.2.2.1 26 = .ok (.getfield 19, 3) := dzq_180 (by decide +kernel)
theorem D_70_29 : decode J_70.2.2.1 29 = .ok (.aload_n 0, 1) := dzq_42 (by decide +kernel)
theorem D_70_30 : decode J_70.2.2.1 30 = .ok (.getfield 29, 3) := dzq_180 (by decide +kernel)
theorem D_70_33 : decode J_70.2.2.1 33 = .ok (.getfield 203, 3) := dzq_180 (by decide +kernel)
theorem D_70_36 : decode J_70.2.2.1 36 = .ok (.iload_n 1, 1) := dzq_27 (by decide +kernel)
theorem D_70_37 : decode J_70.2.2.1 37 = .ok (.iaload, 1) := dzq_46 (by decide +kernel)
theorem D_70_38 : decode J_70.2.2.1 38 = .ok (.invokevirtual 132, 3) := dzq_182 (by decide +kernel)
theorem D_70_41 : decode J_70.2.2.1 41 = .ok (.istore_n 3, 1) := dzq_62 (by decide +kernel)
theorem D_70_42 : decode J_70.2.2.1 42 = .ok (.iconst 0, 1) := dzq_3 (by decide +kernel)
theorem D_70_43 : decode J_70.2.2.1 43 = .ok (.istore 4, 2) := dzq_54 (by decide +kernel)
theorem D_70_45 : decode J_70.2.2.1 45 = .ok (.iload 4, 2) := dzq_21 (by decide +kernel)
theorem D_70_47 : decode J_70.2.2.1 47 = .ok (.bipush 16, 2) := dzq_16 (by decide +kernel)
theorem D_70_49 : decode J_70.2.2.1 49 = .ok (.if_icmp .ge 102, 3) := dzq_162 (by decide +kernel)
theorem D_70_52 : decode J_70.2.2.1 52 = .ok (.iload_n 3, 1) := dzq_29 (by decide +kernel)
theorem D_70_53 : decode J_70.2.2.1 53 = .ok (.iconst (-1), 1) := dzq_2 (by decide +kernel)
theorem D_70_54 : decode J_70.2.2.1 54 = .ok (.if_icmp .eq 97, 3) := dzq_159 (by decide +kernel)
theorem D_70_57 : decode J_70.2.2.1 57 = .ok (.aload_n 0, 1) := dzq_42 (by decide +kernel)
theorem D_70_58 : decode J_70.2.2.1 58 = .ok (.getfield 19, 3) := dzq_180 (by decide +kernel)
theorem D_70_61 : decode J_70.2.2.1 61 = .ok (.iload_n 3, 1) := dzq_29 (by decide +kernel)
theorem D_70_62 : decode J_70.2.2.1 62 = .ok (.aload_n 0, 1) := dzq_42 (by decide +kernel)
theorem D_70_63 : decode J_70.2.2.1 63 = .ok (.getfield 29, 3) := dzq_180 (by decide +kernel)
theorem D_70_66 : decode J_70.2.2.1 66 = .ok (.getfield 174, 3) := dzq_180 (by decide +kernel)
theorem D_70_69 : decode J_70.2.2.1 69 = .ok (.iload_n 1, 1) := dzq_27 (by decide +kernel)
theorem D_70_70 : decode J_70.2.2.1 70 = .ok (.laload, 1) := dzq_47 (by decide +kernel)
theorem D_70_71 : decode J_70.2.2.1 71 = .ok (.invokevirtual 177, 3) := dzq_182 (by decide +kernel)
theorem D_70_74 : decode J_70.2.2.1 74 = .ok (.istore 5, 2) := dzq_54 (by decide +kernel)
theorem D_70_76 : decode J_70.2.2.1 76 = .ok (.iload 5, 2) := dzq_21 (by decide +kernel)
theorem D_70_78 : decode J_70.2.2.1 78 = .ok (.iconst (-1), 1) := dzq_2 (by decide +kernel)
theorem D_70_79 : decode J_70.2.2.1 79 = .ok (.if_icmp .eq 45, 3) := dzq_159 (by decide +kernel)
theorem D_70_82 : decode J_70.2.2.1 82 = .ok (.aload_n 0, 1) := dzq_42 (by decide +kernel)
theorem D_70_83 : decode J_70.2.2.1 83 = .ok (.getfield 29, 3) := dzq_180 (by decide +kernel)
theorem D_70_86 : decode J_70.2.2.1 86 = .ok (.getfield 206, 3) := dzq_180 (by decide +kernel)
theorem D_70_89 : decode J_70.2.2.1 89 = .ok (.iload_n 1, 1) := dzq_27 (by decide +kernel)
theorem D_70_90 : decode J_70.2.2.1 90 = .ok (.baload, 1) := dzq_51 (by decide +kernel)
theorem D_70_91 : decode J_70.2.2.1 91 = .ok (.ifCond .eq 16, 3) := dzq_153 (by decide +kernel)
theorem D_70_94 : decode J_70.2.2.1 94 = .ok (.aload_n 0, 1) := dzq_42 (by decide +kernel)
theorem D_70_95 : decode J_70.2.2.1 95 = .ok (.getfield 29, 3) := dzq_180 (by decide +kernel)
theorem D_70_98 : decode J_70.2.2.1 98 = .ok (.getfield 206, 3) := dzq_180 (by decide +kernel)
theorem D_70_101 : decode J_70.2.2.1 101 = .ok (.iload 5, 2) := dzq_21 (by decide +kernel)
theorem D_70_103 : decode J_70.2.2.1 103 = .ok (.baload, 1) := dzq_51 (by decide +kernel)
theorem D_70_104 : decode J_70.2.2.1 104 = .ok (.ifCond .ne 20, 3) := dzq_154 (by decide +kernel)
theorem D_70_107 : decode J_70.2.2.1 107 = .ok (.aload_n 0, 1) := dzq_42 (by decide +kernel)
theorem D_70_108 : decode J_70.2.2.1 108 = .ok (.getfield 9, 3) := dzq_180 (by decide +kernel)
theorem D_70_111 : decode J_70.2.2.1 111 = .ok (.iconst 4, 1) := dzq_7 (by decide +kernel)
theorem D_70_112 : decode J_70.2.2.1 112 = .ok (.aload_n 0, 1) := dzq_42 (by decide +kernel)
theorem D_70_113 : decode J_70.2.2.1 113 = .ok (.getfield 15, 3) := dzq_180 (by decide +kernel)
theorem D_70_116 : decode J_70.2.2.1 116 = .ok (.getfield 171, 3) := dzq_180 (by decide +kernel)
theorem D_70_119 : decode J_70.2.2.1 119 = .ok (.iload_n 1, 1) := dzq_27 (by decide +kernel)
theorem D_70_120 : decode J_70.2.2.1 120 = .ok (.iaload, 1) := dzq_46 (by decide +kernel)
theorem D_70_121 : decode J_70.2.2.1 121 = .ok (.invokevirtual 100, 3) := dzq_182 (by decide +kernel)
theorem D_70_124 : decode J_70.2.2.1 124 = .ok (.iload_n 2, 1) := dzq_28 (by decide +kernel)
theorem D_70_125 : decode J_70.2.2.1 125 = .ok (.iconst (-1), 1) := dzq_2 (by decide +kernel)
theorem D_70_126 : decode J_70.2.2.1 126 = .ok (.if_icmp .ne 8, 3) := dzq_160 (by decide +kernel)
theorem D_70_129 : decode J_70.2.2.1 129 = .ok (.iload 5, 2) := dzq_21 (by decide +kernel)
theorem D_70_131 : decode J_70.2.2.1 131 = .ok (.goto 4, 3) := dzq_167 (by decide +kernel)
theorem D_70_134 : decode J_70.2.2.1 134 = .ok (.iload_n 2, 1) := dzq_28 (by decide +kernel)
theorem D_70_135 : decode J_70.2.2.1 135 = .ok (.istore_n 2, 1) := dzq_61 (by decide +kernel)
theorem D_70_136 : decode J_70.2.2.1 136 = .ok (.aload_n 0, 1) := dzq_42 (by decide +kernel)
theorem D_70_137 : decode J_70.2.2.1 137 = .ok (.getfield 19, 3) := dzq_180 (by decide +kernel)
theorem D_70_140 : decode J_70.2.2.1 140 = .ok (.iload_n 3, 1) := dzq_29 (by decide +kernel)
theorem D_70_141 : decode J_70.2.2.1 141 = .ok (.invokevirtual 132, 3) := dzq_182 (by decide +kernel)
theorem D_70_144 : decode J_70.2.2.1 144 = .ok (.istore_n 3, 1) := dzq_62 (by decide +kernel)
theorem D_70_145 : decode J_70.2.2.1 145 = .ok (.iinc 4 1, 3) := dzq_132 (by decide +kernel)
theorem D_70_148 : decode J_70.2.2.1 148 = .ok (.goto (-103), 3) := dzq_167 (by decide +kernel)
theorem D_70_151 : decode J_70.2.2.1 151 = .ok (.iload_n 2, 1) := dzq_28 (by decide +kernel)
theorem D_70_152 : decode J_70.2.2.1 152 = .ok (.iconst (-1), 1) := dzq_2 (by decide +kernel)
theorem D_70_153 : decode J_70.2.2.1 153 = .ok (.if_icmp .eq 30, 3) := dzq_159 (by decide +kernel)
theorem D_70_156 : decode J_70.2.2.1 156 = .ok (.aload_n 0, 1) := dzq_42 (by decide +kernel)
theorem D_70_157 : decode J_70.2.2.1 157 = .ok (.iload_n 1, 1) := dzq_27 (by decide +kernel)
theorem D_70_158 : decode J_70.2.2.1 158 = .ok (.iload_n 2, 1) := dzq_28 (by decide +kernel)
theorem D_70_159 : decode J_70.2.2.1 159 = .ok (.invokevirtual 210, 3) := dzq_182 (by decide +kernel)
theorem D_70_162 : decode J_70.2.2.1 162 = .ok (.ifCond .ne 21, 3) := dzq_154 (by decide +kernel)
theorem D_70_165 : decode J_70.2.2.1 165 = .ok (.aload_n 0, 1) := dzq_42 (by decide +kernel)
theorem D_70_166 : decode J_70.2.2.1 166 = .ok (.getfield 9, 3) := dzq_180 (by decide +kernel)
theorem D_70_169 : decode J_70.2.2.1 169 = .ok (.bipush 9, 2) := dzq_16 (by decide +kernel)
theorem D_70_171 : decode J_70.2.2.1 171 = .ok (.aload_n 0, 1) := dzq_42 (by decide +kernel)
theorem D_70_172 : decode J_70.2.2.1 172 = .ok (.getfield 15, 3) := dzq_180 (by decide +kernel)
theorem D_70_175 : decode J_70.2.2.1 175 = .ok (.getfield 171, 3) := dzq_180 (by decide +kernel)
theorem D_70_178 : decode J_70.2.2.1 178 = .ok (.iload_n 1, 1) := dzq_27 (by decide +kernel)
theorem D_70_179 : decode J_70.2.2.1 179 = .ok (.iaload, 1) := dzq_46 (by decide +kernel)
theorem D_70_180 : decode J_70.2.2.1 180 = .ok (.invokevirtual 100, 3) := dzq_182 (by decide +kernel)
theorem D_70_183 : decode J_70.2.2.1 183 = .ok (.iinc 1 1, 3) := dzq_132 (by decide +kernel)
theorem D_70_186 : decode J_70.2.2.1 186 = .ok (.goto (-184), 3) := dzq_167 (by decide +kernel)
theorem D_70_189 : decode J_70.2.2.1 189 = .ok (.return_, 1) := dzq_177 (by decide +kernel)
def P_70_183 (X : mjX) (d C S kc ks : Nat) (k : Nat → Int32 → mjH → mjU) : Prop := ∀ (l0 : Nat) (l1 : Int32) (hp : mjH) (q : Option Value × mjH), k l0 l1 hp = some q → mjG X d C S J_70 (mjEq q) 183 [some (.ref l0), some (.int l1), none, none, none, none] [] hp kc ks
def P_70_151 (X : mjX) (d C S kc ks : Nat) (k : Nat → Int32 → Int32 → mjH → mjU) : Prop := ∀ (l0 : Nat) (l1 : Int32) (l2 : Int32) (hp : mjH) (q : Option Value × mjH), k l0 l1 l2 hp = some q → mjG X d C S J_70 (mjEq q) 151 [some (.ref l0), some (.int l1), some (.int l2), none, none, none] [] hp kc ks
def P_70_135 (X : mjX) (d C S kc ks : Nat) (k : Nat → Int32 → Int32 → Int32 → Int32 → mjH → mjU) : Prop := ∀ (l0 : Nat) (l1 : Int32) (l3 : Int32) (l4 : Int32) (s0 : Int32) (hp : mjH) (q : Option Value × mjH), k l0 l1 l3 l4 s0 hp = some q → mjG X d C S J_70 (mjEq q) 135 [some (.ref l0), some (.int l1), none, some (.int l3), some (.int l4), none] [.int s0] hp kc ks
def P_70_124 (X : mjX) (d C S kc ks : Nat) (k : Nat → Int32 → Int32 → Int32 → Int32 → Int32 → mjH → mjU) : Prop := ∀ (l0 : Nat) (l1 : Int32) (l2 : Int32) (l3 : Int32) (l4 : Int32) (l5 : Int32) (hp : mjH) (q : Option Value × mjH), k l0 l1 l2 l3 l4 l5 hp = some q → mjG X d C S J_70 (mjEq q) 124 [some (.ref l0), some (.int l1), some (.int l2), some (.int l3), some (.int l4), some (.int l5)] [] hp kc ks
def P_70_107 (X : mjX) (d C S kc ks : Nat) (k : Nat → Int32 → Int32 → Int32 → Int32 → Int32 → mjH → mjU) : Prop := ∀ (l0 : Nat) (l1 : Int32) (l2 : Int32) (l3 : Int32) (l4 : Int32) (l5 : Int32) (hp : mjH) (q : Option Value × mjH), k l0 l1 l2 l3 l4 l5 hp = some q → mjG X d C S J_70 (mjEq q) 107 [some (.ref l0), some (.int l1), some (.int l2), some (.int l3), some (.int l4), some (.int l5)] [] hp kc ks
def P_70_45 (X : mjX) (d C S kc ks : Nat) (k : Nat → Int32 → Int32 → Int32 → Int32 → mjH → mjU) : Prop := ∀ (l0 : Nat) (l1 : Int32) (l2 : Int32) (l3 : Int32) (l4 : Int32) (hp : mjH) (q : Option Value × mjH), k l0 l1 l2 l3 l4 hp = some q → mjG X d C S J_70 (mjEq q) 45 [some (.ref l0), some (.int l1), some (.int l2), some (.int l3), some (.int l4), none] [] hp kc ks
def P_70_2 (X : mjX) (d C S kc ks : Nat) (k : Nat → Int32 → mjH → mjU) : Prop := ∀ (l0 : Nat) (l1 : Int32) (hp : mjH) (q : Option Value × mjH), k l0 l1 hp = some q → mjG X d C S J_70 (mjEq q) 2 [some (.ref l0), some (.int l1), none, none, none, none] [] hp kc ks
def P_70_0 (X : mjX) (d C S kc ks : Nat) (k : Nat → mjH → mjU) : Prop := ∀ (l0 : Nat) (hp : mjH) (q : Option Value × mjH), k l0 hp = some q → mjG X d C S J_70 (mjEq q) 0 [some (.ref l0), none, none, none, none, none] [] hp kc ks
noncomputable def b_70_183 (R : mjR) (k2 : Nat → Int32 → mjH → mjU) (l0 : Nat) (l1 : Int32) (hp : mjH) : mjU := k2 l0 (l1 + (1 : Int32)) hp
theorem t_70_183 {X : mjX} {d C S kc ks : Nat} {R : mjR} (hR : mjC R d) (h1 : kc ≤ C) (h2 : ks ≤ S) {k2 : Nat → Int32 → mjH → mjU} (hk2 : P_70_2 X (d + 1) C S kc ks k2) : P_70_183 X (d + 1) C S kc ks (b_70_183 R k2) := by
  intro l0 l1 hp q h
  unfold b_70_183 at h
  refine mjq_iinc (x := l1) (c := (1 : Int32)) (lo' := [some (.ref l0), some (.int (l1 + (1 : Int32))), none, none, none, none]) D_70_183 rfl (Nat.le_of_ble_eq_true rfl) rfl rfl ?_
  refine mjr_goto (tgt := 2) D_70_186 rfl ?_
  exact hk2 _ _ _ _ h
noncomputable def b_70_151 (R : mjR) (k2 : Nat → Int32 → mjH → mjU) (l0 : Nat) (l1 : Int32) (l2 : Int32) (hp : mjH) : mjU := (if l2 = (-1 : Int32) then b_70_183 R k2 l0 l1 hp else rV hp l0 4 (bI (R 71 [.ref l0, .int l1, .int l2] hp) (fun v1 hp2 => (if v1 = 0 then gR hp2 l0 4 0 (fun v3 => gR hp2 l0 4 1 (fun v4 => gR hp2 v4 8 7 (fun v5 => aI hp2 v5 l1 (fun v6 => rV hp2 v3 9 (bN (R 178 [.ref v3, .int (9 : Int32), .int v6] hp2) (fun  hp7 => b_70_183 R k2 l0 l1 hp7)))))) else b_70_183 R k2 l0 l1 hp2))))
theorem t_70_151 {X : mjX} {d C S kc ks : Nat} {R : mjR} (hR : mjC R d) (h1 : kc ≤ C) (h2 : ks ≤ S) {k2 : Nat → Int32 → mjH → mjU} (hk2 : P_70_2 X (d + 1) C S kc ks k2) : P_70_151 X (d + 1) C S kc ks (b_70_151 R k2) := by
  intro l0 l1 l2 hp q h
  unfold b_70_151 at h
  refine mjr_iload_n (x := l2) D_70_151 rfl ?_
  refine mjq_ic (v := (-1 : Int32)) D_70_152 rfl ?_
  refine mjq_icmp_eq (tgt := 183) D_70_153 rfl h (fun h => ?_) (fun h => ?_)
  · exact mjG.fg (lo' := [some (.ref l0), some (.int l1), none, none, none, none]) (And.intro rfl (And.intro rfl True.intro)) ((t_70_183 hR h1 h2 hk2) _ _ _ _ h)
  · refine mjr_aload_n (x := l0) D_70_156 rfl ?_
    refine mjr_iload_n (x := l1) D_70_157 rfl ?_
    refine mjr_iload_n (x := l2) D_70_158 rfl ?_
    refine mjq_vI (As := [.int l1, .int l2]) (rest := []) D_70_159 mr_4_210 V_71 rfl rfl rfl hR (Nat.le_refl _) h1 h2 h (fun v1 hp2 h => ?_)
    refine mjq_if_ne (tgt := 183) D_70_162 rfl h (fun h => ?_) (fun h => ?_)
    · exact mjG.fg (lo' := [some (.ref l0), some (.int l1), none, none, none, none]) (And.intro rfl (And.intro rfl True.intro)) ((t_70_183 hR h1 h2 hk2) _ _ _ _ h)
    · refine mjr_aload_n (x := l0) D_70_165 rfl ?_
      refine mjq_gR D_70_166 fr_4_9 h (fun v3 h => ?_)
      refine mjq_bi (v := (9 : Int32)) D_70_169 rfl ?_
      refine mjr_aload_n (x := l0) D_70_171 rfl ?_
      refine mjq_gR D_70_172 fr_4_15 h (fun v4 h => ?_)
      refine mjq_gR D_70_175 fr_4_171 h (fun v5 h => ?_)
      refine mjr_iload_n (x := l1) D_70_178 rfl ?_
      refine mjq_aI D_70_179 h (fun v6 h => ?_)
      refine mjq_vN (As := [.int (9 : Int32), .int v6]) (rest := []) D_70_180 mr_4_100 V_178 rfl rfl rfl hR (Nat.le_refl _) h1 h2 h (fun  hp7 h => ?_)
      exact mjG.fg (lo' := [some (.ref l0), some (.int l1), none, none, none, none]) (And.intro rfl (And.intro rfl True.intro)) ((t_70_183 hR h1 h2 hk2) _ _ _ _ h)
noncomputable def b_70_135 (R : mjR) (k2 : Nat → Int32 → mjH → mjU) (k45 : Nat → Int32 → Int32 → Int32 → Int32 → mjH → mjU) (l0 : Nat) (l1 : Int32) (l3 : Int32) (l4 : Int32) (s0 : Int32) (hp : mjH) : mjU := gR hp l0 4 2 (fun v1 => rV hp v1 7 (bI (R 108 [.ref v1, .int l3] hp) (fun v2 hp3 => k45 l0 l1 s0 v2 (l4 + (1 : Int32)) hp3)))
theorem t_70_135 {X : mjX} {d C S kc ks : Nat} {R : mjR} (hR : mjC R d) (h1 : kc ≤ C) (h2 : ks ≤ S) {k2 : Nat → Int32 → mjH → mjU} (hk2 : P_70_2 X (d + 1) C S kc ks k2) {k45 : Nat → Int32 → Int32 → Int32 → Int32 → mjH → mjU} (hk45 : P_70_45 X (d + 1) C S kc ks k45) : P_70_135 X (d + 1) C S kc ks (b_70_135 R k2 k45) := by
  intro l0 l1 l3 l4 s0 hp q h
  unfold b_70_135 at h
  refine mjq_istore_n (lo' := [some (.ref l0), some (.int l1), some (.int s0), some (.int l3), some (.int l4), none]) D_70_135 (Nat.le_of_ble_eq_true rfl) rfl ?_
  refine mjr_aload_n (x := l0) D_70_136 rfl ?_
  refine mjq_gR D_70_137 fr_4_19 h (fun v1 h => ?_)
  refine mjr_iload_n (x := l3) D_70_140 rfl ?_
  refine mjq_vI (As := [.int l3]) (rest := []) D_70_141 mr_4_132 V_108 rfl rfl rfl hR (Nat.le_refl _) h1 h2 h (fun v2 hp3 h => ?_)
  refine mjq_istore_n (lo' := [some (.ref l0), some (.int l1), some (.int s0), some (.int v2), some (.int l4), none]) D_70_144 (Nat.le_of_ble_eq_true rfl) rfl ?_
  refine mjq_iinc (x := l4) (c := (1 : Int32)) (lo' := [some (.ref l0), some (.int l1), some (.int s0), some (.int v2), some (.int (l4 + (1 : Int32))), none]) D_70_145 rfl (Nat.le_of_ble_eq_true rfl) rfl rfl ?_
  refine mjr_goto (tgt := 45) D_70_148 rfl ?_
  exact hk45 _ _ _ _ _ _ _ h
noncomputable def b_70_124 (R : mjR) (k2 : Nat → Int32 → mjH → mjU) (k45 : Nat → Int32 → Int32 → Int32 → Int32 → mjH → mjU) (l0 : Nat) (l1 : Int32) (l2 : Int32) (l3 : Int32) (l4 : Int32) (l5 : Int32) (hp : mjH) : mjU := (if l2 = (-1 : Int32) then b_70_135 R k2 k45 l0 l1 l3 l4 l5 hp else b_70_135 R k2 k45 l0 l1 l3 l4 l2 hp)
theorem t_70_124 {X : mjX} {d C S kc ks : Nat} {R : mjR} (hR : mjC R d) (h1 : kc ≤ C) (h2 : ks ≤ S) {k2 : Nat → Int32 → mjH → mjU} (hk2 : P_70_2 X (d + 1) C S kc ks k2) {k45 : Nat → Int32 → Int32 → Int32 → Int32 → mjH → mjU} (hk45 : P_70_45 X (d + 1) C S kc ks k45) : P_70_124 X (d + 1) C S kc ks (b_70_124 R k2 k45) := by
  intro l0 l1 l2 l3 l4 l5 hp q h
  unfold b_70_124 at h
  refine mjr_iload_n (x := l2) D_70_124 rfl ?_
  refine mjq_ic (v := (-1 : Int32)) D_70_125 rfl ?_
  refine mjq_icmp_ne (tgt := 134) D_70_126 rfl h (fun h => ?_) (fun h => ?_)
  · refine mjr_iload_n (x := l2) D_70_134 rfl ?_
    exact mjG.fg (lo' := [some (.ref l0), some (.int l1), none, some (.int l3), some (.int l4), none]) (And.intro rfl (And.intro rfl (And.intro rfl (And.intro rfl True.intro)))) ((t_70_135 hR h1 h2 hk2 hk45) _ _ _ _ _ _ _ h)
  · refine mjr_iload (x := l5) D_70_129 rfl ?_
    refine mjr_goto (tgt := 135) D_70_131 rfl ?_
    exact mjG.fg (lo' := [some (.ref l0), some (.int l1), none, some (.int l3), some (.int l4), none]) (And.intro rfl (And.intro rfl (And.intro rfl (And.intro rfl True.intro)))) ((t_70_135 hR h1 h2 hk2 hk45) _ _ _ _ _ _ _ h)
noncomputable def b_70_107 (R : mjR) (k2 : Nat → Int32 → mjH → mjU) (k45 : Nat → Int32 → Int32 → Int32 → Int32 → mjH → mjU) (l0 : Nat) (l1 : Int32) (l2 : Int32) (l3 : Int32) (l4 : Int32) (l5 : Int32) (hp : mjH) : mjU := gR hp l0 4 0 (fun v1 => gR hp l0 4 1 (fun v2 => gR hp v2 8 7 (fun v3 => aI hp v3 l1 (fun v4 => rV hp v1 9 (bN (R 178 [.ref v1, .int (4 : Int32), .int v4] hp) (fun  hp5 => b_70_124 R k2 k45 l0 l1 l2 l3 l4 l5 hp5))))))
theorem t_70_107 {X : mjX} {d C S kc ks : Nat} {R : mjR} (hR : mjC R d) (h1 : kc ≤ C) (h2 : ks ≤ S) {k2 : Nat → Int32 → mjH → mjU} (hk2 : P_70_2 X (d + 1) C S kc ks k2) {k45 : Nat → Int32 → Int32 → Int32 → Int32 → mjH → mjU} (hk45 : P_70_45 X (d + 1) C S kc ks k45) : P_70_107 X (d + 1) C S kc ks (b_70_107 R k2 k45) := by
  intro l0 l1 l2 l3 l4 l5 hp q h
  unfold b_70_107 at h
  refine mjr_aload_n (x := l0) D_70_107 rfl ?_
  refine mjq_gR D_70_108 fr_4_9 h (fun v1 h => ?_)
  refine mjq_ic (v := (4 : Int32)) D_70_111 rfl ?_
  refine mjr_aload_n (x := l0) D_70_112 rfl ?_
  refine mjq_gR D_70_113 fr_4_15 h (fun v2 h => ?_)
  refine mjq_gR D_70_116 fr_4_171 h (fun v3 h => ?_)
  refine mjr_iload_n (x := l1) D_70_119 rfl ?_
  refine mjq_aI D_70_120 h (fun v4 h => ?_)
  refine mjq_vN (As := [.int (4 : Int32), .int v4]) (rest := []) D_70_121 mr_4_100 V_178 rfl rfl rfl hR (Nat.le_refl _) h1 h2 h (fun  hp5 h => ?_)
  exact (t_70_124 hR h1 h2 hk2 hk45) _ _ _ _ _ _ _ _ h
noncomputable def b_70_45 (R : mjR) (k2 : Nat → Int32 → mjH → mjU) (k45 : Nat → Int32 → Int32 → Int32 → Int32 → mjH → mjU) (l0 : Nat) (l1 : Int32) (l2 : Int32) (l3 : Int32) (l4 : Int32) (hp : mjH) : mjU := (if (16 : Int32) ≤ l4 then b_70_151 R k2 l0 l1 l2 hp else (if l3 = (-1 : Int32) then b_70_151 R k2 l0 l1 l2 hp else gR hp l0 4 2 (fun v1 => gR hp l0 4 3 (fun v2 => gR hp v2 6 1 (fun v3 => aL hp v3 l1 (fun v4 => rV hp v1 7 (bI (R 119 [.ref v1, .int l3, .long v4] hp) (fun v5 hp6 => (if v5 = (-1 : Int32) then b_70_124 R k2 k45 l0 l1 l2 l3 l4 v5 hp6 else gR hp6 l0 4 3 (fun v7 => gR hp6 v7 6 4 (fun v8 => aB hp6 v8 l1 (fun v9 => (if v9 = 0 then b_70_107 R k2 k45 l0 l1 l2 l3 l4 v5 hp6 else gR hp6 l0 4 3 (fun v10 => gR hp6 v10 6 4 (fun v11 => aB hp6 v11 v5 (fun v12 => (if v12 = 0 then b_70_107 R k2 k45 l0 l1 l2 l3 l4 v5 hp6 else b_70_124 R k2 k45 l0 l1 l2 l3 l4 v5 hp6)))))))))))))))))
theorem t_70_45 {X : mjX} {d C S kc ks : Nat} {R : mjR} (hR : mjC R d) (h1 : kc ≤ C) (h2 : ks ≤ S) {k2 : Nat → Int32 → mjH → mjU} (hk2 : P_70_2 X (d + 1) C S kc ks k2) {k45 : Nat → Int32 → Int32 → Int32 → Int32 → mjH → mjU} (hk45 : P_70_45 X (d + 1) C S kc ks k45) : P_70_45 X (d + 1) C S kc ks (b_70_45 R k2 k45) := by
  intro l0 l1 l2 l3 l4 hp q h
  unfold b_70_45 at h
  refine mjr_iload (x := l4) D_70_45 rfl ?_
  refine mjq_bi (v := (16 : Int32)) D_70_47 rfl ?_
  refine mjq_icmp_ge (tgt := 151) D_70_49 rfl h (fun h => ?_) (fun h => ?_)
  · exact mjG.fg (lo' := [some (.ref l0), some (.int l1), some (.int l2), none, none, none]) (And.intro rfl (And.intro rfl (And.intro rfl True.intro))) ((t_70_151 hR h1 h2 hk2) _ _ _ _ _ h)
  · refine mjr_iload_n (x := l3) D_70_52 rfl ?_
    refine mjq_ic (v := (-1 : Int32)) D_70_53 rfl ?_
    refine mjq_icmp_eq (tgt := 151) D_70_54 rfl h (fun h => ?_) (fun h => ?_)
    · exact mjG.fg (lo' := [some (.ref l0), some (.int l1), some (.int l2), none, none, none]) (And.intro rfl (And.intro rfl (And.intro rfl True.intro))) ((t_70_151 hR h1 h2 hk2) _ _ _ _ _ h)
    · refine mjr_aload_n (x := l0) D_70_57 rfl ?_
      refine mjq_gR D_70_58 fr_4_19 h (fun v1 h => ?_)
      refine mjr_iload_n (x := l3) D_70_61 rfl ?_
      refine mjr_aload_n (x := l0) D_70_62 rfl ?_
      refine mjq_gR D_70_63 fr_4_29 h (fun v2 h => ?_)
      refine mjq_gR D_70_66 fr_4_174 h (fun v3 h => ?_)
      refine mjr_iload_n (x := l1) D_70_69 rfl ?_
      refine mjq_aL D_70_70 h (fun v4 h => ?_)
      refine mjq_vI (As := [.int l3, .long v4]) (rest := []) D_70_71 mr_4_177 V_119 rfl rfl rfl hR (Nat.le_refl _) h1 h2 h (fun v5 hp6 h => ?_)
      refine mjq_istore (lo' := [some (.ref l0), some (.int l1), some (.int l2), some (.int l3), some (.int l4), some (.int v5)]) D_70_74 (Nat.le_of_ble_eq_true rfl) rfl ?_
      refine mjr_iload (x := v5) D_70_76 rfl ?_
      refine mjq_ic (v := (-1 : Int32)) D_70_78 rfl ?_
      refine mjq_icmp_eq (tgt := 124) D_70_79 rfl h (fun h => ?_) (fun h => ?_)
      · exact (t_70_124 hR h1 h2 hk2 hk45) _ _ _ _ _ _ _ _ h
      · refine mjr_aload_n (x := l0) D_70_82 rfl ?_
        refine mjq_gR D_70_83 fr_4_29 h (fun v7 h => ?_)
        refine mjq_gR D_70_86 fr_4_206 h (fun v8 h => ?_)
        refine mjr_iload_n (x := l1) D_70_89 rfl ?_
        refine mjq_aB D_70_90 h (fun v9 h => ?_)
        refine mjq_if_eq (tgt := 107) D_70_91 rfl h (fun h => ?_) (fun h => ?_)
        · exact (t_70_107 hR h1 h2 hk2 hk45) _ _ _ _ _ _ _ _ h
        · refine mjr_aload_n (x := l0) D_70_94 rfl ?_
          refine mjq_gR D_70_95 fr_4_29 h (fun v10 h => ?_)
          refine mjq_gR D_70_98 fr_4_206 h (fun v11 h => ?_)
          refine mjr_iload (x := v5) D_70_101 rfl ?_
          refine mjq_aB D_70_103 h (fun v12 h => ?_)
          refine mjq_if_ne (tgt := 124) D_70_104 rfl h (fun h => ?_) (fun h => ?_)
          · exact (t_70_124 hR h1 h2 hk2 hk45) _ _ _ _ _ _ _ _ h
          · exact (t_70_107 hR h1 h2 hk2 hk45) _ _ _ _ _ _ _ _ h
noncomputable def L_70_45 (R : mjR) (k2 : Nat → Int32 → mjH → mjU) (n : Nat) : Nat → Int32 → Int32 → Int32 → Int32 → mjH → mjU := Nat.rec (motive := fun _ => Nat → Int32 → Int32 → Int32 → Int32 → mjH → mjU) (fun _ _ _ _ _ _ => none) (fun _ self => b_70_45 R k2 self) n
theorem T_70_45 {X : mjX} {d C S kc ks : Nat} {R : mjR} (hR : mjC R d) (h1 : kc ≤ C) (h2 : ks ≤ S) {k2 : Nat → Int32 → mjH → mjU} (hk2 : P_70_2 X (d + 1) C S kc ks k2) (n : Nat) : P_70_45 X (d + 1) C S kc ks (L_70_45 R k2 n) := by
  induction n with
  | zero => intro _ _ _ _ _ _ _ h; exact mj_no h
  | succ n ih => exact t_70_45 hR h1 h2 hk2 ih
noncomputable def b_70_2 (R : mjR) (k2 : Nat → Int32 → mjH → mjU) (l0 : Nat) (l1 : Int32) (hp : mjH) : mjU := gR hp l0 4 3 (fun v1 => gI hp v1 6 0 (fun v2 => (if v2 ≤ l1 then some (none, hp) else gR hp l0 4 0 (fun v3 => rV hp v3 9 (bI (R 172 [.ref v3] hp) (fun v4 hp5 => (if v4 = 0 then some (none, hp5) else gR hp5 l0 4 2 (fun v6 => gR hp5 l0 4 3 (fun v7 => gR hp5 v7 6 2 (fun v8 => aI hp5 v8 l1 (fun v9 => rV hp5 v6 7 (bI (R 108 [.ref v6, .int v9] hp5) (fun v10 hp11 => L_70_45 R k2 mjN l0 l1 (-1 : Int32) v10 (0 : Int32) hp11)))))))))))))
theorem t_70_2 {X : mjX} {d C S kc ks : Nat} {R : mjR} (hR : mjC R d) (h1 : kc ≤ C) (h2 : ks ≤ S) {k2 : Nat → Int32 → mjH → mjU} (hk2 : P_70_2 X (d + 1) C S kc ks k2) : P_70_2 X (d + 1) C S kc ks (b_70_2 R k2) := by
  intro l0 l1 hp q h
  unfold b_70_2 at h
  refine mjr_iload_n (x := l1) D_70_2 rfl ?_
  refine mjr_aload_n (x := l0) D_70_3 rfl ?_
  refine mjq_gR D_70_4 fr_4_29 h (fun v1 h => ?_)
  refine mjq_gI D_70_7 fr_4_200 h (fun v2 h => ?_)
  refine mjq_icmp_ge (tgt := 189) D_70_10 rfl h (fun h => ?_) (fun h => ?_)
  · exact mjq_nret D_70_189 rfl h1 h2 h
  · refine mjr_aload_n (x := l0) D_70_13 rfl ?_
    refine mjq_gR D_70_14 fr_4_9 h (fun v3 h => ?_)
    refine mjq_vI (As := []) (rest := []) D_70_17 mr_4_58 V_172 rfl rfl rfl hR (Nat.le_refl _) h1 h2 h (fun v4 hp5 h => ?_)
    refine mjq_if_eq (tgt := 189) D_70_20 rfl h (fun h => ?_) (fun h => ?_)
    · exact mjq_nret D_70_189 rfl h1 h2 h
    · refine mjq_ic (v := (-1 : Int32)) D_70_23 rfl ?_
      refine mjq_istore_n (lo' := [some (.ref l0), some (.int l1), some (.int (-1 : Int32)), none, none, none]) D_70_24 (Nat.le_of_ble_eq_true rfl) rfl ?_
      refine mjr_aload_n (x := l0) D_70_25 rfl ?_
      refine mjq_gR D_70_26 fr_4_19 h (fun v6 h => ?_)
      refine mjr_aload_n (x := l0) D_70_29 rfl ?_
      refine mjq_gR D_70_30 fr_4_29 h (fun v7 h => ?_)
      refine mjq_gR D_70_33 fr_4_203 h (fun v8 h => ?_)
      refine mjr_iload_n (x := l1) D_70_36 rfl ?_
      refine mjq_aI D_70_37 h (fun v9 h => ?_)
      refine mjq_vI (As := [.int v9]) (rest := []) D_70_38 mr_4_132 V_108 rfl rfl rfl hR (Nat.le_refl _) h1 h2 h (fun v10 hp11 h => ?_)
      refine mjq_istore_n (lo' := [some (.ref l0), some (.int l1), some (.int (-1 : Int32)), some (.int v10), none, none]) D_70_41 (Nat.le_of_ble_eq_true rfl) rfl ?_
      refine mjq_ic (v := (0 : Int32)) D_70_42 rfl ?_
      refine mjq_istore (lo' := [some (.ref l0), some (.int l1), some (.int (-1 : Int32)), some (.int v10), some (.int (0 : Int32)), none]) D_70_43 (Nat.le_of_ble_eq_true rfl) rfl ?_
      exact (T_70_45 hR h1 h2 hk2 mjN) _ _ _ _ _ _ _ h
noncomputable def L_70_2 (R : mjR) (n : Nat) : Nat → Int32 → mjH → mjU := Nat.rec (motive := fun _ => Nat → Int32 → mjH → mjU) (fun _ _ _ => none) (fun _ self => b_70_2 R self) n
theorem T_70_2 {X : mjX} {d C S kc ks : Nat} {R : mjR} (hR : mjC R d) (h1 : kc ≤ C) (h2 : ks ≤ S) (n : Nat) : P_70_2 X (d + 1) C S kc ks (L_70_2 R n) := by
  induction n with
  | zero => intro _ _ _ _ h; exact mj_no h
  | succ n ih => exact t_70_2 hR h1 h2 ih
noncomputable def b_70_0 (R : mjR) (l0 : Nat) (hp : mjH) : mjU := L_70_2 R mjN l0 (0 : Int32) hp
theorem t_70_0 {X : mjX} {d C S kc ks : Nat} {R : mjR} (hR : mjC R d) (h1 : kc ≤ C) (h2 : ks ≤ S) : P_70_0 X (d + 1) C S kc ks (b_70_0 R) := by
  intro l0 hp q h
  unfold b_70_0 at h
  refine mjq_ic (v := (0 : Int32)) D_70_0 rfl ?_
  refine mjq_istore_n (lo' := [some (.ref l0), some (.int (0 : Int32)), none, none, none, none]) D_70_1 (Nat.le_of_ble_eq_true rfl) rfl ?_
  exact (T_70_2 hR h1 h2 mjN) _ _ _ _ h
noncomputable def f_70 (R : mjR) (a0 : Nat) (hp : mjH) : mjU := b_70_0 R a0 hp
theorem c_70 {R : mjR} {d : Nat} (hR : mjC R d) {a0 : Nat} {hp : mjH} {q : Option Value × mjH} (h : f_70 R a0 hp = some q) : mjM (d + 1) 0 0 70 [.ref a0] hp (mjEq q) :=
  mjM_of Ja_70 (Nat.le_of_ble_eq_true rfl) (mjG.fg (lo' := [some (.ref a0), none, none, none, none, none]) (And.intro rfl True.intro) ((t_70_0 hR (Nat.le_refl 0) (Nat.le_refl 0)) a0 hp q h))
def J_71 : mjI := (⟨"OwnerHeap$Judge", "isSame", "(II)Z"⟩, 4, prog_6_method_15_code, 6, (some .boolean), 2, false)
theorem Ja_71 : mjMt 71 = some J_71 := by rfl
theorem D_71_0 : decode J_71.2.2.1 0 = .ok (.aload_n 0, 1) := dzq_42 (by decide +kernel)
theorem D_71_1 : decode J_71.2.2.1 1 = .ok (.getfield 19, 3) := dzq_180 (by decide +kernel)
theorem D_71_4 : decode J_71.2.2.1 4 = .ok (.aload_n 0, 1) := dzq_42 (by decide +kernel)
theorem D_71_5 : decode J_71.2.2.1 5 = .ok (.getfield 29, 3) := dzq_180 (by decide +kernel)
theorem D_71_8 : decode J_71.2.2.1 8 = .ok (.getfield 203, 3) := dzq_180 (by decide +kernel)
theorem D_71_11 : decode J_71.2.2.1 11 = .ok (.iload_n 1, 1) := dzq_27 (by decide +kernel)
theorem D_71_12 : decode J_71.2.2.1 12 = .ok (.iaload, 1) := dzq_46 (by decide +kernel)
theorem D_71_13 : decode J_71.2.2.1 13 = .ok (.aload_n 0, 1) := dzq_42 (by decide +kernel)
theorem D_71_14 : decode J_71.2.2.1 14 = .ok (.getfield 29, 3) := dzq_180 (by decide +kernel)
theorem D_71_17 : decode J_71.2.2.1 17 = .ok (.getfield 203, 3) := dzq_180 (by decide +kernel)
theorem D_71_20 : decode J_71.2.2.1 20 = .ok (.iload_n 2, 1) := dzq_28 (by decide +kernel)
theorem D_71_21 : decode J_71.2.2.1 21 = .ok (.iaload, 1) := dzq_46 (by decide +kernel)
theorem D_71_22 : decode J_71.2.2.1 22 = .ok (.invokevirtual 213, 3) := dzq_182 (by decide +kernel)
theorem D_71_25 : decode J_71.2.2.1 25 = .ok (.istore_n 3, 1) := dzq_62 (by decide +kernel)
theorem D_71_26 : decode J_71.2.2.1 26 = .ok (.aload_n 0, 1) := dzq_42 (by decide +kernel)
theorem D_71_27 : decode J_71.2.2.1 27 = .ok (.getfield 29, 3) := dzq_180 (by decide +kernel)
theorem D_71_30 : decode J_71.2.2.1 30 = .ok (.getfield 165, 3) := dzq_180 (by decide +kernel)
theorem D_71_33 : decode J_71.2.2.1 33 = .ok (.iload_n 1, 1) := dzq_27 (by decide +kernel)
theorem D_71_34 : decode J_71.2.2.1 34 = .ok (.iaload, 1) := dzq_46 (by decide +kernel)
theorem D_71_35 : decode J_71.2.2.1 35 = .ok (.aload_n 0, 1) := dzq_42 (by decide +kernel)
theorem D_71_36 : decode J_71.2.2.1 36 = .ok (.getfield 19, 3) := dzq_180 (by decide +kernel)
theorem D_71_39 : decode J_71.2.2.1 39 = .ok (.aload_n 0, 1) := dzq_42 (by decide +kernel)
theorem D_71_40 : decode J_71.2.2.1 40 = .ok (.getfield 29, 3) := dzq_180 (by decide +kernel)
theorem D_71_43 : decode J_71.2.2.1 43 = .ok (.getfield 165, 3) := dzq_180 (by decide +kernel)
theorem D_71_46 : decode J_71.2.2.1 46 = .ok (.iload_n 2, 1) := dzq_28 (by decide +kernel)
theorem D_71_47 : decode J_71.2.2.1 47 = .ok (.iaload, 1) := dzq_46 (by decide +kernel)
theorem D_71_48 : decode J_71.2.2.1 48 = .ok (.iload_n 3, 1) := dzq_29 (by decide +kernel)
theorem D_71_49 : decode J_71.2.2.1 49 = .ok (.invokevirtual 216, 3) := dzq_182 (by decide +kernel)
theorem D_71_52 : decode J_71.2.2.1 52 = .ok (.if_icmp .ne 28, 3) := dzq_160 (by decide +kernel)
theorem D_71_55 : decode J_71.2.2.1 55 = .ok (.aload_n 0, 1) := dzq_42 (by decide +kernel)
theorem D_71_56 : decode J_71.2.2.1 56 = .ok (.getfield 29, 3) := dzq_180 (by decide +kernel)
theorem D_71_59 : decode J_71.2.2.1 59 = .ok (.getfield 180, 3) := dzq_180 (by decide +kernel)
theorem D_71_62 : decode J_71.2.2.1 62 = .ok (.iload_n 1, 1) := dzq_27 (by decide +kernel)
theorem D_71_63 : decode J_71.2.2.1 63 = .ok (.iaload, 1) := dzq_46 (by decide +kernel)
theorem D_71_64 : decode J_71.2.2.1 64 = .ok (.aload_n 0, 1) := dzq_42 (by decide +kernel)
theorem D_71_65 : decode J_71.2.2.1 65 = .ok (.getfield 29, 3) := dzq_180 (by decide +kernel)
theorem D_71_68 : decode J_71.2.2.1 68 = .ok (.getfield 180, 3) := dzq_180 (by decide +kernel)
theorem D_71_71 : decode J_71.2.2.1 71 = .ok (.iload_n 2, 1) := dzq_28 (by decide +kernel)
theorem D_71_72 : decode J_71.2.2.1 72 = .ok (.iaload, 1) := dzq_46 (by decide +kernel)
theorem D_71_73 : decode J_71.2.2.1 73 = .ok (.if_icmp .ne 7, 3) := dzq_160 (by decide +kernel)
theorem D_71_76 : decode J_71.2.2.1 76 = .ok (.iconst 1, 1) := dzq_4 (by decide +kernel)
theorem D_71_77 : decode J_71.2.2.1 77 = .ok (.goto 4, 3) := dzq_167 (by decide +kernel)
theorem D_71_80 : decode J_71.2.2.1 80 = .ok (.iconst 0, 1) := dzq_3 (by decide +kernel)
theorem D_71_81 : decode J_71.2.2.1 81 = .ok (.istore 4, 2) := dzq_54 (by decide +kernel)
theorem D_71_83 : decode J_71.2.2.1 83 = .ok (.iconst 0, 1) := dzq_3 (by decide +kernel)
theorem D_71_84 : decode J_71.2.2.1 84 = .ok (.istore 5, 2) := dzq_54 (by decide +kernel)
theorem D_71_86 : decode J_71.2.2.1 86 = .ok (.iload 4, 2) := dzq_21 (by decide +kernel)
theorem D_71_88 : decode J_71.2.2.1 88 = .ok (.ifCond .eq 61, 3) := dzq_153 (by decide +kernel)
theorem D_71_91 : decode J_71.2.2.1 91 = .ok (.iload 5, 2) := dzq_21 (by decide +kernel)
theorem D_71_93 : decode J_71.2.2.1 93 = .ok (.aload_n 0, 1) := dzq_42 (by decide +kernel)
theorem D_71_94 : decode J_71.2.2.1 94 = .ok (.getfield 29, 3) := dzq_180 (by decide +kernel)
theorem D_71_97 : decode J_71.2.2.1 97 = .ok (.getfield 180, 3) := dzq_180 (by decide +kernel)
theorem D_71_100 : decode J_71.2.2.1 100 = .ok (.iload_n 1, 1) := dzq_27 (by decide +kernel)
theorem D_71_101 : decode J_71.2.2.1 101 = .ok (.iaload, 1) := dzq_46 (by decide +kernel)
theorem D_71_102 : decode J_71.2.2.1 102 = .ok (.if_icmp .ge 47, 3) := dzq_162 (by decide +kernel)
theorem D_71_105 : decode J_71.2.2.1 105 = .ok (.aload_n 0, 1) := dzq_42 (by decide +kernel)
theorem D_71_106 : decode J_71.2.2.1 106 = .ok (.getfield 29, 3) := dzq_180 (by decide +kernel)
theorem D_71_109 : decode J_71.2.2.1 109 = .ok (.iload_n 1, 1) := dzq_27 (by decide +kernel)
theorem D_71_110 : decode J_71.2.2.1 110 = .ok (.iload 5, 2) := dzq_21 (by decide +kernel)
theorem D_71_112 : decode J_71.2.2.1 112 = .ok (.invokevirtual 219, 3) := dzq_182 (by decide +kernel)
theorem D_71_115 : decode J_71.2.2.1 115 = .ok (.aload_n 0, 1) := dzq_42 (by decide +kernel)
theorem D_71_116 : decode J_71.2.2.1 116 = .ok (.getfield 19, 3) := dzq_180 (by decide +kernel)
theorem D_71_119 : decode J_71.2.2.1 119 = .ok (.aload_n 0, 1) := dzq_42 (by decide +kernel)
theorem D_71_120 : decode J_71.2.2.1 120 = .ok (.getfield 29, 3) := dzq_180 (by decide +kernel)
theorem D_71_123 : decode J_71.2.2.1 123 = .ok (.iload_n 2, 1) := dzq_28 (by decide +kernel)
theorem D_71_124 : decode J_71.2.2.1 124 = .ok (.iload 5, 2) := dzq_21 (by decide +kernel)
theorem D_71_126 : decode J_71.2.2.1 126 = .ok (.invokevirtual 219, 3) := dzq_182 (by decide +kernel)
theorem D_71_129 : decode J_71.2.2.1 129 = .ok (.iload_n 3, 1) := dzq_29 (by decide +kernel)
theorem D_71_130 : decode J_71.2.2.1 130 = .ok (.invokevirtual 216, 3) := dzq_182 (by decide +kernel)
theorem D_71_133 : decode J_71.2.2.1 133 = .ok (.if_icmp .ne 7, 3) := dzq_160 (by decide +kernel)
theorem D_71_136 : decode J_71.2.2.1 136 = .ok (.iconst 1, 1) := dzq_4 (by decide +kernel)
theorem D_71_137 : decode J_71.2.2.1 137 = .ok (.goto 4, 3) := dzq_167 (by decide +kernel)
theorem D_71_140 : decode J_71.2.2.1 140 = .ok (.iconst 0, 1) := dzq_3 (by decide +kernel)
theorem D_71_141 : decode J_71.2.2.1 141 = .ok (.istore 4, 2) := dzq_54 (by decide +kernel)
theorem D_71_143 : decode J_71.2.2.1 143 = .ok (.iinc 5 1, 3) := dzq_132 (by decide +kernel)
theorem D_71_146 : decode J_71.2.2.1 146 = .ok (.goto (-60), 3) := dzq_167 (by decide +kernel)
theorem D_71_149 : decode J_71.2.2.1 149 = .ok (.iload 4, 2) := dzq_21 (by decide +kernel)
theorem D_71_151 : decode J_71.2.2.1 151 = .ok (.ireturn, 1) := dzq_172 (by decide +kernel)
def P_71_149 (X : mjX) (d C S kc ks : Nat) (k : Int32 → mjH → mjU) : Prop := ∀ (l4 : Int32) (hp : mjH) (q : Option Value × mjH), k l4 hp = some q → mjG X d C S J_71 (mjEq q) 149 [none, none, none, none, some (.int l4), none] [] hp kc ks
def P_71_141 (X : mjX) (d C S kc ks : Nat) (k : Nat → Int32 → Int32 → Int32 → Int32 → Int32 → mjH → mjU) : Prop := ∀ (l0 : Nat) (l1 : Int32) (l2 : Int32) (l3 : Int32) (l5 : Int32) (s0 : Int32) (hp : mjH) (q : Option Value × mjH), k l0 l1 l2 l3 l5 s0 hp = some q → mjG X d C S J_71 (mjEq q) 141 [some (.ref l0), some (.int l1), some (.int l2), some (.int l3), none, some (.int l5)] [.int s0] hp kc ks
def P_71_86 (X : mjX) (d C S kc ks : Nat) (k : Nat → Int32 → Int32 → Int32 → Int32 → Int32 → mjH → mjU) : Prop := ∀ (l0 : Nat) (l1 : Int32) (l2 : Int32) (l3 : Int32) (l4 : Int32) (l5 : Int32) (hp : mjH) (q : Option Value × mjH), k l0 l1 l2 l3 l4 l5 hp = some q → mjG X d C S J_71 (mjEq q) 86 [some (.ref l0), some (.int l1), some (.int l2), some (.int l3), some (.int l4), some (.int l5)] [] hp kc ks
def P_71_81 (X : mjX) (d C S kc ks : Nat) (k : Nat → Int32 → Int32 → Int32 → Int32 → mjH → mjU) : Prop := ∀ (l0 : Nat) (l1 : Int32) (l2 : Int32) (l3 : Int32) (s0 : Int32) (hp : mjH) (q : Option Value × mjH), k l0 l1 l2 l3 s0 hp = some q → mjG X d C S J_71 (mjEq q) 81 [some (.ref l0), some (.int l1), some (.int l2), some (.int l3), none, none] [.int s0] hp kc ks
def P_71_80 (X : mjX) (d C S kc ks : Nat) (k : Nat → Int32 → Int32 → Int32 → mjH → mjU) : Prop := ∀ (l0 : Nat) (l1 : Int32) (l2 : Int32) (l3 : Int32) (hp : mjH) (q : Option Value × mjH), k l0 l1 l2 l3 hp = some q → mjG X d C S J_71 (mjEq q) 80 [some (.ref l0), some (.int l1), some (.int l2), some (.int l3), none, none] [] hp kc ks
def P_71_0 (X : mjX) (d C S kc ks : Nat) (k : Nat → Int32 → Int32 → mjH → mjU) : Prop := ∀ (l0 : Nat) (l1 : Int32) (l2 : Int32) (hp : mjH) (q : Option Value × mjH), k l0 l1 l2 hp = some q → mjG X d C S J_71 (mjEq q) 0 [some (.ref l0), some (.int l1), some (.int l2), none, none, none] [] hp kc ks
noncomputable def b_71_149 (R : mjR) (l4 : Int32) (hp : mjH) : mjU := (if narrow .boolean (.int l4) = .int l4 then some (some (.int l4), hp) else none)
theorem t_71_149 {X : mjX} {d C S kc ks : Nat} {R : mjR} (hR : mjC R d) (h1 : kc ≤ C) (h2 : ks ≤ S) : P_71_149 X (d + 1) C S kc ks (b_71_149 R) := by
  intro l4 hp q h
  unfold b_71_149 at h
  refine mjr_iload (x := l4) D_71_149 rfl ?_
  exact mjq_retZ (ty := .boolean) D_71_151 rfl h1 h2 h
noncomputable def b_71_141 (R : mjR) (k86 : Nat → Int32 → Int32 → Int32 → Int32 → Int32 → mjH → mjU) (l0 : Nat) (l1 : Int32) (l2 : Int32) (l3 : Int32) (l5 : Int32) (s0 : Int32) (hp : mjH) : mjU := k86 l0 l1 l2 l3 s0 (l5 + (1 : Int32)) hp
theorem t_71_141 {X : mjX} {d C S kc ks : Nat} {R : mjR} (hR : mjC R d) (h1 : kc ≤ C) (h2 : ks ≤ S) {k86 : Nat → Int32 → Int32 → Int32 → Int32 → Int32 → mjH → mjU} (hk86 : P_71_86 X (d + 1) C S kc ks k86) : P_71_141 X (d + 1) C S kc ks (b_71_141 R k86) := by
  intro l0 l1 l2 l3 l5 s0 hp q h
  unfold b_71_141 at h
  refine mjq_istore (lo' := [some (.ref l0), some (.int l1), some (.int l2), some (.int l3), some (.int s0), some (.int l5)]) D_71_141 (Nat.le_of_ble_eq_true rfl) rfl ?_
  refine mjq_iinc (x := l5) (c := (1 : Int32)) (lo' := [some (.ref l0), some (.int l1), some (.int l2), some (.int l3), some (.int s0), some (.int (l5 + (1 : Int32)))]) D_71_143 rfl (Nat.le_of_ble_eq_true rfl) rfl rfl ?_
  refine mjr_goto (tgt := 86) D_71_146 rfl ?_
  exact hk86 _ _ _ _ _ _ _ _ h
noncomputable def b_71_86 (R : mjR) (k86 : Nat → Int32 → Int32 → Int32 → Int32 → Int32 → mjH → mjU) (l0 : Nat) (l1 : Int32) (l2 : Int32) (l3 : Int32) (l4 : Int32) (l5 : Int32) (hp : mjH) : mjU := (if l4 = 0 then b_71_149 R l4 hp else gR hp l0 4 3 (fun v1 => gR hp v1 6 6 (fun v2 => aI hp v2 l1 (fun v3 => (if v3 ≤ l5 then b_71_149 R l4 hp else gR hp l0 4 3 (fun v4 => rV hp v4 6 (bI (R 98 [.ref v4, .int l1, .int l5] hp) (fun v5 hp6 => gR hp6 l0 4 2 (fun v7 => gR hp6 l0 4 3 (fun v8 => rV hp6 v8 6 (bI (R 98 [.ref v8, .int l2, .int l5] hp6) (fun v9 hp10 => rV hp10 v7 7 (bI (R 112 [.ref v7, .int v9, .int l3] hp10) (fun v11 hp12 => (if v5 = v11 then b_71_141 R k86 l0 l1 l2 l3 l5 (1 : Int32) hp12 else b_71_141 R k86 l0 l1 l2 l3 l5 (0 : Int32) hp12)))))))))))))))
theorem t_71_86 {X : mjX} {d C S kc ks : Nat} {R : mjR} (hR : mjC R d) (h1 : kc ≤ C) (h2 : ks ≤ S) {k86 : Nat → Int32 → Int32 → Int32 → Int32 → Int32 → mjH → mjU} (hk86 : P_71_86 X (d + 1) C S kc ks k86) : P_71_86 X (d + 1) C S kc ks (b_71_86 R k86) := by
  intro l0 l1 l2 l3 l4 l5 hp q h
  unfold b_71_86 at h
  refine mjr_iload (x := l4) D_71_86 rfl ?_
  refine mjq_if_eq (tgt := 149) D_71_88 rfl h (fun h => ?_) (fun h => ?_)
  · exact mjG.fg (lo' := [none, none, none, none, some (.int l4), none]) (And.intro rfl True.intro) ((t_71_149 hR h1 h2) _ _ _ h)
  · refine mjr_iload (x := l5) D_71_91 rfl ?_
    refine mjr_aload_n (x := l0) D_71_93 rfl ?_
    refine mjq_gR D_71_94 fr_4_29 h (fun v1 h => ?_)
    refine mjq_gR D_71_97 fr_4_180 h (fun v2 h => ?_)
    refine mjr_iload_n (x := l1) D_71_100 rfl ?_
    refine mjq_aI D_71_101 h (fun v3 h => ?_)
    refine mjq_icmp_ge (tgt := 149) D_71_102 rfl h (fun h => ?_) (fun h => ?_)
    · exact mjG.fg (lo' := [none, none, none, none, some (.int l4), none]) (And.intro rfl True.intro) ((t_71_149 hR h1 h2) _ _ _ h)
    · refine mjr_aload_n (x := l0) D_71_105 rfl ?_
      refine mjq_gR D_71_106 fr_4_29 h (fun v4 h => ?_)
      refine mjr_iload_n (x := l1) D_71_109 rfl ?_
      refine mjr_iload (x := l5) D_71_110 rfl ?_
      refine mjq_vI (As := [.int l1, .int l5]) (rest := []) D_71_112 mr_4_219 V_98 rfl rfl rfl hR (Nat.le_refl _) h1 h2 h (fun v5 hp6 h => ?_)
      refine mjr_aload_n (x := l0) D_71_115 rfl ?_
      refine mjq_gR D_71_116 fr_4_19 h (fun v7 h => ?_)
      refine mjr_aload_n (x := l0) D_71_119 rfl ?_
      refine mjq_gR D_71_120 fr_4_29 h (fun v8 h => ?_)
      refine mjr_iload_n (x := l2) D_71_123 rfl ?_
      refine mjr_iload (x := l5) D_71_124 rfl ?_
      refine mjq_vI (As := [.int l2, .int l5]) (rest := [.ref v7, .int v5]) D_71_126 mr_4_219 V_98 rfl rfl rfl hR (Nat.le_refl _) h1 h2 h (fun v9 hp10 h => ?_)
      refine mjr_iload_n (x := l3) D_71_129 rfl ?_
      refine mjq_vI (As := [.int v9, .int l3]) (rest := [.int v5]) D_71_130 mr_4_216 V_112 rfl rfl rfl hR (Nat.le_refl _) h1 h2 h (fun v11 hp12 h => ?_)
      refine mjq_icmp_ne (tgt := 140) D_71_133 rfl h (fun h => ?_) (fun h => ?_)
      · refine mjq_ic (v := (0 : Int32)) D_71_140 rfl ?_
        exact mjG.fg (lo' := [some (.ref l0), some (.int l1), some (.int l2), some (.int l3), none, some (.int l5)]) (And.intro rfl (And.intro rfl (And.intro rfl (And.intro rfl (And.intro rfl True.intro))))) ((t_71_141 hR h1 h2 hk86) _ _ _ _ _ _ _ _ h)
      · refine mjq_ic (v := (1 : Int32)) D_71_136 rfl ?_
        refine mjr_goto (tgt := 141) D_71_137 rfl ?_
        exact mjG.fg (lo' := [some (.ref l0), some (.int l1), some (.int l2), some (.int l3), none, some (.int l5)]) (And.intro rfl (And.intro rfl (And.intro rfl (And.intro rfl (And.intro rfl True.intro))))) ((t_71_141 hR h1 h2 hk86) _ _ _ _ _ _ _ _ h)
noncomputable def L_71_86 (R : mjR) (n : Nat) : Nat → Int32 → Int32 → Int32 → Int32 → Int32 → mjH → mjU := Nat.rec (motive := fun _ => Nat → Int32 → Int32 → Int32 → Int32 → Int32 → mjH → mjU) (fun _ _ _ _ _ _ _ => none) (fun _ self => b_71_86 R self) n
theorem T_71_86 {X : mjX} {d C S kc ks : Nat} {R : mjR} (hR : mjC R d) (h1 : kc ≤ C) (h2 : ks ≤ S) (n : Nat) : P_71_86 X (d + 1) C S kc ks (L_71_86 R n) := by
  induction n with
  | zero => intro _ _ _ _ _ _ _ _ h; exact mj_no h
  | succ n ih => exact t_71_86 hR h1 h2 ih
noncomputable def b_71_81 (R : mjR) (l0 : Nat) (l1 : Int32) (l2 : Int32) (l3 : Int32) (s0 : Int32) (hp : mjH) : mjU := L_71_86 R mjN l0 l1 l2 l3 s0 (0 : Int32) hp
theorem t_71_81 {X : mjX} {d C S kc ks : Nat} {R : mjR} (hR : mjC R d) (h1 : kc ≤ C) (h2 : ks ≤ S) : P_71_81 X (d + 1) C S kc ks (b_71_81 R) := by
  intro l0 l1 l2 l3 s0 hp q h
  unfold b_71_81 at h
  refine mjq_istore (lo' := [some (.ref l0), some (.int l1), some (.int l2), some (.int l3), some (.int s0), none]) D_71_81 (Nat.le_of_ble_eq_true rfl) rfl ?_
  refine mjq_ic (v := (0 : Int32)) D_71_83 rfl ?_
  refine mjq_istore (lo' := [some (.ref l0), some (.int l1), some (.int l2), some (.int l3), some (.int s0), some (.int (0 : Int32))]) D_71_84 (Nat.le_of_ble_eq_true rfl) rfl ?_
  exact (T_71_86 hR h1 h2 mjN) _ _ _ _ _ _ _ _ h
noncomputable def b_71_80 (R : mjR) (l0 : Nat) (l1 : Int32) (l2 : Int32) (l3 : Int32) (hp : mjH) : mjU := b_71_81 R l0 l1 l2 l3 (0 : Int32) hp
theorem t_71_80 {X : mjX} {d C S kc ks : Nat} {R : mjR} (hR : mjC R d) (h1 : kc ≤ C) (h2 : ks ≤ S) : P_71_80 X (d + 1) C S kc ks (b_71_80 R) := by
  intro l0 l1 l2 l3 hp q h
  unfold b_71_80 at h
  refine mjq_ic (v := (0 : Int32)) D_71_80 rfl ?_
  exact (t_71_81 hR h1 h2) _ _ _ _ _ _ _ h
noncomputable def b_71_0 (R : mjR) (l0 : Nat) (l1 : Int32) (l2 : Int32) (hp : mjH) : mjU := gR hp l0 4 2 (fun v1 => gR hp l0 4 3 (fun v2 => gR hp v2 6 2 (fun v3 => aI hp v3 l1 (fun v4 => gR hp l0 4 3 (fun v5 => gR hp v5 6 2 (fun v6 => aI hp v6 l2 (fun v7 => rV hp v1 7 (bI (R 114 [.ref v1, .int v4, .int v7] hp) (fun v8 hp9 => gR hp9 l0 4 3 (fun v10 => gR hp9 v10 6 3 (fun v11 => aI hp9 v11 l1 (fun v12 => gR hp9 l0 4 2 (fun v13 => gR hp9 l0 4 3 (fun v14 => gR hp9 v14 6 3 (fun v15 => aI hp9 v15 l2 (fun v16 => rV hp9 v13 7 (bI (R 112 [.ref v13, .int v16, .int v8] hp9) (fun v17 hp18 => (if v12 = v17 then gR hp18 l0 4 3 (fun v19 => gR hp18 v19 6 6 (fun v20 => aI hp18 v20 l1 (fun v21 => gR hp18 l0 4 3 (fun v22 => gR hp18 v22 6 6 (fun v23 => aI hp18 v23 l2 (fun v24 => (if v21 = v24 then b_71_81 R l0 l1 l2 v8 (1 : Int32) hp18 else b_71_80 R l0 l1 l2 v8 hp18))))))) else b_71_80 R l0 l1 l2 v8 hp18)))))))))))))))))))
theorem t_71_0 {X : mjX} {d C S kc ks : Nat} {R : mjR} (hR : mjC R d) (h1 : kc ≤ C) (h2 : ks ≤ S) : P_71_0 X (d + 1) C S kc ks (b_71_0 R) := by
  intro l0 l1 l2 hp q h
  unfold b_71_0 at h
  refine mjr_aload_n (x := l0) D_71_0 rfl ?_
  refine mjq_gR D_71_1 fr_4_19 h (fun v1 h => ?_)
  refine mjr_aload_n (x := l0) D_71_4 rfl ?_
  refine mjq_gR D_71_5 fr_4_29 h (fun v2 h => ?_)
  refine mjq_gR D_71_8 fr_4_203 h (fun v3 h => ?_)
  refine mjr_iload_n (x := l1) D_71_11 rfl ?_
  refine mjq_aI D_71_12 h (fun v4 h => ?_)
  refine mjr_aload_n (x := l0) D_71_13 rfl ?_
  refine mjq_gR D_71_14 fr_4_29 h (fun v5 h => ?_)
  refine mjq_gR D_71_17 fr_4_203 h (fun v6 h => ?_)
  refine mjr_iload_n (x := l2) D_71_20 rfl ?_
  refine mjq_aI D_71_21 h (fun v7 h => ?_)
  refine mjq_vI (As := [.int v4, .int v7]) (rest := []) D_71_22 mr_4_213 V_114 rfl rfl rfl hR (Nat.le_refl _) h1 h2 h (fun v8 hp9 h => ?_)
  refine mjq_istore_n (lo' := [some (.ref l0), some (.int l1), some (.int l2), some (.int v8), none, none]) D_71_25 (Nat.le_of_ble_eq_true rfl) rfl ?_
  refine mjr_aload_n (x := l0) D_71_26 rfl ?_
  refine mjq_gR D_71_27 fr_4_29 h (fun v10 h => ?_)
  refine mjq_gR D_71_30 fr_4_165 h (fun v11 h => ?_)
  refine mjr_iload_n (x := l1) D_71_33 rfl ?_
  refine mjq_aI D_71_34 h (fun v12 h => ?_)
  refine mjr_aload_n (x := l0) D_71_35 rfl ?_
  refine mjq_gR D_71_36 fr_4_19 h (fun v13 h => ?_)
  refine mjr_aload_n (x := l0) D_71_39 rfl ?_
  refine mjq_gR D_71_40 fr_4_29 h (fun v14 h => ?_)
  refine mjq_gR D_71_43 fr_4_165 h (fun v15 h => ?_)
  refine mjr_iload_n (x := l2) D_71_46 rfl ?_
  refine mjq_aI D_71_47 h (fun v16 h => ?_)
  refine mjr_iload_n (x := v8) D_71_48 rfl ?_
  refine mjq_vI (As := [.int v16, .int v8]) (rest := [.int v12]) D_71_49 mr_4_216 V_112 rfl rfl rfl hR (Nat.le_refl _) h1 h2 h (fun v17 hp18 h => ?_)
  refine mjq_icmp_ne (tgt := 80) D_71_52 rfl h (fun h => ?_) (fun h => ?_)
  · exact (t_71_80 hR h1 h2) _ _ _ _ _ _ h
  · refine mjr_aload_n (x := l0) D_71_55 rfl ?_
    refine mjq_gR D_71_56 fr_4_29 h (fun v19 h => ?_)
    refine mjq_gR D_71_59 fr_4_180 h (fun v20 h => ?_)
    refine mjr_iload_n (x := l1) D_71_62 rfl ?_
    refine mjq_aI D_71_63 h (fun v21 h => ?_)
    refine mjr_aload_n (x := l0) D_71_64 rfl ?_
    refine mjq_gR D_71_65 fr_4_29 h (fun v22 h => ?_)
    refine mjq_gR D_71_68 fr_4_180 h (fun v23 h => ?_)
    refine mjr_iload_n (x := l2) D_71_71 rfl ?_
    refine mjq_aI D_71_72 h (fun v24 h => ?_)
    refine mjq_icmp_ne (tgt := 80) D_71_73 rfl h (fun h => ?_) (fun h => ?_)
    · exact (t_71_80 hR h1 h2) _ _ _ _ _ _ h
    · refine mjq_ic (v := (1 : Int32)) D_71_76 rfl ?_
      refine mjr_goto (tgt := 81) D_71_77 rfl ?_
      exact (t_71_81 hR h1 h2) _ _ _ _ _ _ _ h
noncomputable def f_71 (R : mjR) (a0 : Nat) (a1 : Int32) (a2 : Int32) (hp : mjH) : mjU := b_71_0 R a0 a1 a2 hp
theorem c_71 {R : mjR} {d : Nat} (hR : mjC R d) {a0 : Nat} {a1 : Int32} {a2 : Int32} {hp : mjH} {q : Option Value × mjH} (h : f_71 R a0 a1 a2 hp = some q) : mjM (d + 1) 0 0 71 [.ref a0, .int a1, .int a2] hp (mjEq q) :=
  mjM_of Ja_71 (Nat.le_of_ble_eq_true rfl) (mjG.fg (lo' := [some (.ref a0), some (.int a1), some (.int a2), none, none, none]) (And.intro rfl (And.intro rfl (And.intro rfl True.intro))) ((t_71_0 hR (Nat.le_refl 0) (Nat.le_refl 0)) a0 a1 a2 hp q h))
def J_73 : mjI := (⟨"OwnerHeap$Machine", "drop", "()V"⟩, 5, prog_7_method_2_code, 1, none, 0, false)
theorem Ja_73 : mjMt 73 = some J_73 := by rfl
theorem D_73_0 : decode J_73.2.2.1 0 = .ok (.aload_n 0, 1) := dzq_42 (by decide +kernel)
theorem D_73_1 : decode J_73.2.2.1 1 = .ok (.iconst 0, 1) := dzq_3 (by decide +kernel)
theorem D_73_2 : decode J_73.2.2.1 2 = .ok (.putfield 44, 3) := dzq_181 (by decide +kernel)
theorem D_73_5 : decode J_73.2.2.1 5 = .ok (.aload_n 0, 1) := dzq_42 (by decide +kernel)
theorem D_73_6 : decode J_73.2.2.1 6 = .ok (.iconst 0, 1) := dzq_3 (by decide +kernel)
theorem D_73_7 : decode J_73.2.2.1 7 = .ok (.putfield 47, 3) := dzq_181 (by decide +kernel)
theorem D_73_10 : decode J_73.2.2.1 10 = .ok (.aload_n 0, 1) := dzq_42 (by decide +kernel)
theorem D_73_11 : decode J_73.2.2.1 11 = .ok (.iconst 0, 1) := dzq_3 (by decide +kernel)
theorem D_73_12 : decode J_73.2.2.1 12 = .ok (.putfield 50, 3) := dzq_181 (by decide +kernel)
theorem D_73_15 : decode J_73.2.2.1 15 = .ok (.aload_n 0, 1) := dzq_42 (by decide +kernel)
theorem D_73_16 : decode J_73.2.2.1 16 = .ok (.iconst (-1), 1) := dzq_2 (by decide +kernel)
theorem D_73_17 : decode J_73.2.2.1 17 = .ok (.putfield 40, 3) := dzq_181 (by decide +kernel)
theorem D_73_20 : decode J_73.2.2.1 20 = .ok (.aload_n 0, 1) := dzq_42 (by decide +kernel)
theorem D_73_21 : decode J_73.2.2.1 21 = .ok (.iconst 0, 1) := dzq_3 (by decide +kernel)
theorem D_73_22 : decode J_73.2.2.1 22 = .ok (.putfield 53, 3) := dzq_181 (by decide +kernel)
theorem D_73_25 : decode J_73.2.2.1 25 = .ok (.aload_n 0, 1) := dzq_42 (by decide +kernel)
theorem D_73_26 : decode J_73.2.2.1 26 = .ok (.iconst 0, 1) := dzq_3 (by decide +kernel)
theorem D_73_27 : decode J_73.2.2.1 27 = .ok (.putfield 56, 3) := dzq_181 (by decide +kernel)
theorem D_73_30 : decode J_73.2.2.1 30 = .ok (.aload_n 0, 1) := dzq_42 (by decide +kernel)
theorem D_73_31 : decode J_73.2.2.1 31 = .ok (.iconst 0, 1) := dzq_3 (by decide +kernel)
theorem D_73_32 : decode J_73.2.2.1 32 = .ok (.putfield 59, 3) := dzq_181 (by decide +kernel)
theorem D_73_35 : decode J_73.2.2.1 35 = .ok (.aload_n 0, 1) := dzq_42 (by decide +kernel)
theorem D_73_36 : decode J_73.2.2.1 36 = .ok (.getfield 29, 3) := dzq_180 (by decide +kernel)
theorem D_73_39 : decode J_73.2.2.1 39 = .ok (.invokevirtual 62, 3) := dzq_182 (by decide +kernel)
theorem D_73_42 : decode J_73.2.2.1 42 = .ok (.aload_n 0, 1) := dzq_42 (by decide +kernel)
theorem D_73_43 : decode J_73.2.2.1 43 = .ok (.getfield 29, 3) := dzq_180 (by decide +kernel)
theorem D_73_46 : decode J_73.2.2.1 46 = .ok (.iconst 0, 1) := dzq_3 (by decide +kernel)
theorem D_73_47 : decode J_73.2.2.1 47 = .ok (.putfield 65, 3) := dzq_181 (by decide +kernel)
theorem D_73_50 : decode J_73.2.2.1 50 = .ok (.aload_n 0, 1) := dzq_42 (by decide +kernel)
theorem D_73_51 : decode J_73.2.2.1 51 = .ok (.getfield 9, 3) := dzq_180 (by decide +kernel)
theorem D_73_54 : decode J_73.2.2.1 54 = .ok (.iconst 0, 1) := dzq_3 (by decide +kernel)
theorem D_73_55 : decode J_73.2.2.1 55 = .ok (.invokevirtual 68, 3) := dzq_182 (by decide +kernel)
theorem D_73_58 : decode J_73.2.2.1 58 = .ok (.return_, 1) := dzq_177 (by decide +kernel)
def P_73_0 (X : mjX) (d C S kc ks : Nat) (k : Nat → mjH → mjU) : Prop := ∀ (l0 : Nat) (hp : mjH) (q : Option Value × mjH), k l0 hp = some q → mjG X d C S J_73 (mjEq q) 0 [some (.ref l0)] [] hp kc ks
noncomputable def b_73_0 (R : mjR) (l0 : Nat) (hp : mjH) : mjU := pI hp l0 5 8 (0 : Int32) (fun hp1 => pI hp1 l0 5 9 (0 : Int32) (fun hp2 => pI hp2 l0 5 10 (0 : Int32) (fun hp3 => pI hp3 l0 5 11 (-1 : Int32) (fun hp4 => pI hp4 l0 5 12 (0 : Int32) (fun hp5 => pI hp5 l0 5 13 (0 : Int32) (fun hp6 => pI hp6 l0 5 6 (0 : Int32) (fun hp7 => gR hp7 l0 5 1 (fun v8 => rV hp7 v8 2 (bN (R 36 [.ref v8] hp7) (fun  hp9 => gR hp9 l0 5 1 (fun v10 => pI hp9 v10 2 1 (0 : Int32) (fun hp11 => gR hp11 l0 5 0 (fun v12 => rV hp11 v12 3 (bN (R 42 [.ref v12, .int (0 : Int32)] hp11) (fun  hp13 => some (none, hp13))))))))))))))))
theorem t_73_0 {X : mjX} {d C S kc ks : Nat} {R : mjR} (hR : mjC R d) (h1 : kc ≤ C) (h2 : ks ≤ S) : P_73_0 X (d + 1) C S kc ks (b_73_0 R) := by
  intro l0 hp q h
  unfold b_73_0 at h
  refine mjr_aload_n (x := l0) D_73_0 rfl ?_
  refine mjq_ic (v := (0 : Int32)) D_73_1 rfl ?_
  refine mjq_pI D_73_2 fr_5_44 rfl rfl h (fun hp1 h => ?_)
  refine mjr_aload_n (x := l0) D_73_5 rfl ?_
  refine mjq_ic (v := (0 : Int32)) D_73_6 rfl ?_
  refine mjq_pI D_73_7 fr_5_47 rfl rfl h (fun hp2 h => ?_)
  refine mjr_aload_n (x := l0) D_73_10 rfl ?_
  refine mjq_ic (v := (0 : Int32)) D_73_11 rfl ?_
  refine mjq_pI D_73_12 fr_5_50 rfl rfl h (fun hp3 h => ?_)
  refine mjr_aload_n (x := l0) D_73_15 rfl ?_
  refine mjq_ic (v := (-1 : Int32)) D_73_16 rfl ?_
  refine mjq_pI D_73_17 fr_5_40 rfl rfl h (fun hp4 h => ?_)
  refine mjr_aload_n (x := l0) D_73_20 rfl ?_
  refine mjq_ic (v := (0 : Int32)) D_73_21 rfl ?_
  refine mjq_pI D_73_22 fr_5_53 rfl rfl h (fun hp5 h => ?_)
  refine mjr_aload_n (x := l0) D_73_25 rfl ?_
  refine mjq_ic (v := (0 : Int32)) D_73_26 rfl ?_
  refine mjq_pI D_73_27 fr_5_56 rfl rfl h (fun hp6 h => ?_)
  refine mjr_aload_n (x := l0) D_73_30 rfl ?_
  refine mjq_ic (v := (0 : Int32)) D_73_31 rfl ?_
  refine mjq_pI D_73_32 fr_5_59 rfl rfl h (fun hp7 h => ?_)
  refine mjr_aload_n (x := l0) D_73_35 rfl ?_
  refine mjq_gR D_73_36 fr_5_29 h (fun v8 h => ?_)
  refine mjq_vN (As := []) (rest := []) D_73_39 mr_5_62 V_36 rfl rfl rfl hR (Nat.le_refl _) h1 h2 h (fun  hp9 h => ?_)
  refine mjr_aload_n (x := l0) D_73_42 rfl ?_
  refine mjq_gR D_73_43 fr_5_29 h (fun v10 h => ?_)
  refine mjq_ic (v := (0 : Int32)) D_73_46 rfl ?_
  refine mjq_pI D_73_47 fr_5_65 rfl rfl h (fun hp11 h => ?_)
  refine mjr_aload_n (x := l0) D_73_50 rfl ?_
  refine mjq_gR D_73_51 fr_5_9 h (fun v12 h => ?_)
  refine mjq_ic (v := (0 : Int32)) D_73_54 rfl ?_
  refine mjq_vN (As := [.int (0 : Int32)]) (rest := []) D_73_55 mr_5_68 V_42 rfl rfl rfl hR (Nat.le_refl _) h1 h2 h (fun  hp13 h => ?_)
  exact mjq_nret D_73_58 rfl h1 h2 h
noncomputable def f_73 (R : mjR) (a0 : Nat) (hp : mjH) : mjU := b_73_0 R a0 hp
theorem c_73 {R : mjR} {d : Nat} (hR : mjC R d) {a0 : Nat} {hp : mjH} {q : Option Value × mjH} (h : f_73 R a0 hp = some q) : mjM (d + 1) 0 0 73 [.ref a0] hp (mjEq q) :=
  mjM_of Ja_73 (Nat.le_of_ble_eq_true rfl) (mjG.fg (lo' := [some (.ref a0)]) (And.intro rfl True.intro) ((t_73_0 hR (Nat.le_refl 0) (Nat.le_refl 0)) a0 hp q h))
def J_74 : mjI := (⟨"OwnerHeap$Machine", "begin", "(LOwnerHeap$Program;II)V"⟩, 5, prog_7_method_3_code, 4, none, 3, false)
theorem Ja_74 : mjMt 74 = some J_74 := by rfl
theorem D_74_0 : decode J_74.2.2.1 0 = .ok (.aload_n 0, 1) := dzq_42 (by decide +kernel)
theorem D_74_1 : decode J_74.2.2.1 1 = .ok (.invokevirtual 74, 3) := dzq_182 (by decide +kernel)
theorem D_74_4 : decode J_74.2.2.1 4 = .ok (.aload_n 0, 1) := dzq_42 (by decide +kernel)
theorem D_74_5 : decode J_74.2.2.1 5 = .ok (.aload_n 1, 1) := dzq_43 (by decide +kernel)
theorem D_74_6 : decode J_74.2.2.1 6 = .ok (.putfield 15, 3) := dzq_181 (by decide +kernel)
theorem D_74_9 : decode J_74.2.2.1 9 = .ok (.aload_n 0, 1) := dzq_42 (by decide +kernel)
theorem D_74_10 : decode J_74.2.2.1 10 = .ok (.aload_n 1, 1) := dzq_43 (by decide +kernel)
theorem D_74_11 : decode J_74.2.2.1 11 = .ok (.getfield 19, 3) := dzq_180 (by decide +kernel)
theorem D_74_14 : decode J_74.2.2.1 14 = .ok (.putfield 25, 3) := dzq_181 (by decide +kernel)
theorem D_74_17 : decode J_74.2.2.1 17 = .ok (.aload_n 0, 1) := dzq_42 (by decide +kernel)
theorem D_74_18 : decode J_74.2.2.1 18 = .ok (.iload_n 3, 1) := dzq_29 (by decide +kernel)
theorem D_74_19 : decode J_74.2.2.1 19 = .ok (.putfield 77, 3) := dzq_181 (by decide +kernel)
theorem D_74_22 : decode J_74.2.2.1 22 = .ok (.aload_n 0, 1) := dzq_42 (by decide +kernel)
theorem D_74_23 : decode J_74.2.2.1 23 = .ok (.getfield 9, 3) := dzq_180 (by decide +kernel)
theorem D_74_26 : decode J_74.2.2.1 26 = .ok (.iload_n 2, 1) := dzq_28 (by decide +kernel)
theorem D_74_27 : decode J_74.2.2.1 27 = .ok (.invokevirtual 68, 3) := dzq_182 (by decide +kernel)
theorem D_74_30 : decode J_74.2.2.1 30 = .ok (.aload_n 0, 1) := dzq_42 (by decide +kernel)
theorem D_74_31 : decode J_74.2.2.1 31 = .ok (.iconst 1, 1) := dzq_4 (by decide +kernel)
theorem D_74_32 : decode J_74.2.2.1 32 = .ok (.putfield 44, 3) := dzq_181 (by decide +kernel)
theorem D_74_35 : decode J_74.2.2.1 35 = .ok (.aload_n 0, 1) := dzq_42 (by decide +kernel)
theorem D_74_36 : decode J_74.2.2.1 36 = .ok (.getfield 29, 3) := dzq_180 (by decide +kernel)
theorem D_74_39 : decode J_74.2.2.1 39 = .ok (.sipush 384, 3) := dzq_17 (by decide +kernel)
theorem D_74_42 : decode J_74.2.2.1 42 = .ok (.iconst 0, 1) := dzq_3 (by decide +kernel)
theorem D_74_43 : decode J_74.2.2.1 43 = .ok (.iconst 0, 1) := dzq_3 (by decide +kernel)
theorem D_74_44 : decode J_74.2.2.1 44 = .ok (.invokevirtual 82, 3) := dzq_182 (by decide +kernel)
theorem D_74_47 : decode J_74.2.2.1 47 = .ok (.aload_n 0, 1) := dzq_42 (by decide +kernel)
theorem D_74_48 : decode J_74.2.2.1 48 = .ok (.aload_n 0, 1) := dzq_42 (by decide +kernel)
theorem D_74_49 : decode J_74.2.2.1 49 = .ok (.getfield 15, 3) := dzq_180 (by decide +kernel)
theorem D_74_52 : decode J_74.2.2.1 52 = .ok (.getfield 86, 3) := dzq_180 (by decide +kernel)
theorem D_74_55 : decode J_74.2.2.1 55 = .ok (.getfield 90, 3) := dzq_180 (by decide +kernel)
theorem D_74_58 : decode J_74.2.2.1 58 = .ok (.sipush 384, 3) := dzq_17 (by decide +kernel)
theorem D_74_61 : decode J_74.2.2.1 61 = .ok (.iaload, 1) := dzq_46 (by decide +kernel)
theorem D_74_62 : decode J_74.2.2.1 62 = .ok (.putfield 93, 3) := dzq_181 (by decide +kernel)
theorem D_74_65 : decode J_74.2.2.1 65 = .ok (.return_, 1) := dzq_177 (by decide +kernel)
def P_74_0 (X : mjX) (d C S kc ks : Nat) (k : Nat → Nat → Int32 → Int32 → mjH → mjU) : Prop := ∀ (l0 : Nat) (l1 : Nat) (l2 : Int32) (l3 : Int32) (hp : mjH) (q : Option Value × mjH), k l0 l1 l2 l3 hp = some q → mjG X d C S J_74 (mjEq q) 0 [some (.ref l0), some (.ref l1), some (.int l2), some (.int l3)] [] hp kc ks
noncomputable def b_74_0 (R : mjR) (l0 : Nat) (l1 : Nat) (l2 : Int32) (l3 : Int32) (hp : mjH) : mjU := rV hp l0 5 (bN (R 73 [.ref l0] hp) (fun  hp1 => pR hp1 l0 5 2 l1 (fun hp2 => gR hp2 l1 7 15 (fun v3 => pR hp2 l0 5 3 v3 (fun hp4 => pI hp4 l0 5 7 l3 (fun hp5 => gR hp5 l0 5 0 (fun v6 => rV hp5 v6 3 (bN (R 42 [.ref v6, .int l2] hp5) (fun  hp7 => pI hp7 l0 5 8 (1 : Int32) (fun hp8 => gR hp8 l0 5 1 (fun v9 => rV hp8 v9 2 (bN (R 37 [.ref v9, .int (384 : Int32), .int (0 : Int32), .int (0 : Int32)] hp8) (fun  hp10 => gR hp10 l0 5 2 (fun v11 => gR hp10 v11 7 14 (fun v12 => gR hp10 v12 6 9 (fun v13 => aI hp10 v13 (384 : Int32) (fun v14 => pI hp10 l0 5 4 v14 (fun hp15 => some (none, hp15)))))))))))))))))))
theorem t_74_0 {X : mjX} {d C S kc ks : Nat} {R : mjR} (hR : mjC R d) (h1 : kc ≤ C) (h2 : ks ≤ S) : P_74_0 X (d + 1) C S kc ks (b_74_0 R) := by
  intro l0 l1 l2 l3 hp q h
  unfold b_74_0 at h
  refine mjr_aload_n (x := l0) D_74_0 rfl ?_
  refine mjq_vN (As := []) (rest := []) D_74_1 mr_5_74 V_73 rfl rfl rfl hR (Nat.le_refl _) h1 h2 h (fun  hp1 h => ?_)
  refine mjr_aload_n (x := l0) D_74_4 rfl ?_
  refine mjr_aload_n (x := l1) D_74_5 rfl ?_
  refine mjq_pR D_74_6 fr_5_15 rfl (fun _ => ⟨rfl, rfl⟩) h (fun hp2 h => ?_)
  refine mjr_aload_n (x := l0) D_74_9 rfl ?_
  refine mjr_aload_n (x := l1) D_74_10 rfl ?_
  refine mjq_gR D_74_11 fr_5_19 h (fun v3 h => ?_)
  refine mjq_pR D_74_14 fr_5_25 rfl (fun _ => ⟨rfl, rfl⟩) h (fun hp4 h => ?_)
  refine mjr_aload_n (x := l0) D_74_17 rfl ?_
  refine mjr_iload_n (x := l3) D_74_18 rfl ?_
  refine mjq_pI D_74_19 fr_5_77 rfl rfl h (fun hp5 h => ?_)
  refine mjr_aload_n (x := l0) D_74_22 rfl ?_
  refine mjq_gR D_74_23 fr_5_9 h (fun v6 h => ?_)
  refine mjr_iload_n (x := l2) D_74_26 rfl ?_
  refine mjq_vN (As := [.int l2]) (rest := []) D_74_27 mr_5_68 V_42 rfl rfl rfl hR (Nat.le_refl _) h1 h2 h (fun  hp7 h => ?_)
  refine mjr_aload_n (x := l0) D_74_30 rfl ?_
  refine mjq_ic (v := (1 : Int32)) D_74_31 rfl ?_
  refine mjq_pI D_74_32 fr_5_44 rfl rfl h (fun hp8 h => ?_)
  refine mjr_aload_n (x := l0) D_74_35 rfl ?_
  refine mjq_gR D_74_36 fr_5_29 h (fun v9 h => ?_)
  refine mjq_si (v := (384 : Int32)) D_74_39 rfl ?_
  refine mjq_ic (v := (0 : Int32)) D_74_42 rfl ?_
  refine mjq_ic (v := (0 : Int32)) D_74_43 rfl ?_
  refine mjq_vN (As := [.int (384 : Int32), .int (0 : Int32), .int (0 : Int32)]) (rest := []) D_74_44 mr_5_82 V_37 rfl rfl rfl hR (Nat.le_refl _) h1 h2 h (fun  hp10 h => ?_)
  refine mjr_aload_n (x := l0) D_74_47 rfl ?_
  refine mjr_aload_n (x := l0) D_74_48 rfl ?_
  refine mjq_gR D_74_49 fr_5_15 h (fun v11 h => ?_)
  refine mjq_gR D_74_52 fr_5_86 h (fun v12 h => ?_)
  refine mjq_gR D_74_55 fr_5_90 h (fun v13 h => ?_)
  refine mjq_si (v := (384 : Int32)) D_74_58 rfl ?_
  refine mjq_aI D_74_61 h (fun v14 h => ?_)
  refine mjq_pI D_74_62 fr_5_93 rfl rfl h (fun hp15 h => ?_)
  exact mjq_nret D_74_65 rfl h1 h2 h
noncomputable def f_74 (R : mjR) (a0 : Nat) (a1 : Nat) (a2 : Int32) (a3 : Int32) (hp : mjH) : mjU := b_74_0 R a0 a1 a2 a3 hp
theorem c_74 {R : mjR} {d : Nat} (hR : mjC R d) {a0 : Nat} {a1 : Nat} {a2 : Int32} {a3 : Int32} {hp : mjH} {q : Option Value × mjH} (h : f_74 R a0 a1 a2 a3 hp = some q) : mjM (d + 1) 0 0 74 [.ref a0, .ref a1, .int a2, .int a3] hp (mjEq q) :=
  mjM_of Ja_74 (Nat.le_of_ble_eq_true rfl) (mjG.fg (lo' := [some (.ref a0), some (.ref a1), some (.int a2), some (.int a3)]) (And.intro rfl (And.intro rfl (And.intro rfl (And.intro rfl True.intro)))) ((t_74_0 hR (Nat.le_refl 0) (Nat.le_refl 0)) a0 a1 a2 a3 hp q h))
def J_75 : mjI := (⟨"OwnerHeap$Machine", "goOn", "(I)V"⟩, 5, prog_7_method_4_code, 4, none, 1, false)
theorem Ja_75 : mjMt 75 = some J_75 := by rfl
theorem D_75_0 : decode J_75.2.2.1 0 = .ok (.aload_n 0, 1) := dzq_42 (by decide +kernel)
theorem D_75_1 : decode J_75.2.2.1 1 = .ok (.invokevirtual 96, 3) := dzq_182 (by decide +kernel)
theorem D_75_4 : decode J_75.2.2.1 4 = .ok (.iconst 0, 1) := dzq_3 (by decide +kernel)
theorem D_75_5 : decode J_75.2.2.1 5 = .ok (.istore_n 2, 1) := dzq_61 (by decide +kernel)
theorem D_75_6 : decode J_75.2.2.1 6 = .ok (.iload_n 2, 1) := dzq_28 (by decide +kernel)
theorem D_75_7 : decode J_75.2.2.1 7 = .ok (.iload_n 1, 1) := dzq_27 (by decide +kernel)
theorem D_75_8 : decode J_75.2.2.1 8 = .ok (.if_icmp .ge 130, 3) := dzq_162 (by decide +kernel)
theorem D_75_11 : decode J_75.2.2.1 11 = .ok (.aload_n 0, 1) := dzq_42 (by decide +kernel)
theorem D_75_12 : decode J_75.2.2.1 12 = .ok (.getfield 44, 3) := dzq_180 (by decide +kernel)
theorem D_75_15 : decode J_75.2.2.1 15 = .ok (.iconst 1, 1) := dzq_4 (by decide +kernel)
theorem D_75_16 : decode J_75.2.2.1 16 = .ok (.if_icmp .ne 122, 3) := dzq_160 (by decide +kernel)
theorem D_75_19 : decode J_75.2.2.1 19 = .ok (.aload_n 0, 1) := dzq_42 (by decide +kernel)
theorem D_75_20 : decode J_75.2.2.1 20 = .ok (.getfield 93, 3) := dzq_180 (by decide +kernel)
theorem D_75_23 : decode J_75.2.2.1 23 = .ok (.aload_n 0, 1) := dzq_42 (by decide +kernel)
theorem D_75_24 : decode J_75.2.2.1 24 = .ok (.getfield 25, 3) := dzq_180 (by decide +kernel)
theorem D_75_27 : decode J_75.2.2.1 27 = .ok (.getfield 99, 3) := dzq_180 (by decide +kernel)
theorem D_75_30 : decode J_75.2.2.1 30 = .ok (.if_icmp .ge 108, 3) := dzq_162 (by decide +kernel)
theorem D_75_33 : decode J_75.2.2.1 33 = .ok (.aload_n 0, 1) := dzq_42 (by decide +kernel)
theorem D_75_34 : decode J_75.2.2.1 34 = .ok (.getfield 93, 3) := dzq_180 (by decide +kernel)
theorem D_75_37 : decode J_75.2.2.1 37 = .ok (.istore_n 3, 1) := dzq_62 (by decide +kernel)
theorem D_75_38 : decode J_75.2.2.1 38 = .ok (.aload_n 0, 1) := dzq_42 (by decide +kernel)
theorem D_75_39 : decode J_75.2.2.1 39 = .ok (.dup, 1) := dzq_89 (by decide +kernel)
theorem D_75_40 : decode J_75.2.2.1 40 = .ok (.getfield 93, 3) := dzq_180 (by decide +kernel)
theorem D_75_43 : decode J_75.2.2.1 43 = .ok (.iconst 1, 1) := dzq_4 (by decide +kernel)
theorem D_75_44 : decode J_75.2.2.1 44 = .ok (.iadd, 1) := dzq_96 (by decide +kernel)
theorem D_75_45 : decode J_75.2.2.1 45 = .ok (.putfield 93, 3) := dzq_181 (by decide +kernel)
theorem D_75_48 : decode J_75.2.2.1 48 = .ok (.aload_n 0, 1) := dzq_42 (by decide +kernel)
theorem D_75_49 : decode J_75.2.2.1 49 = .ok (.dup, 1) := dzq_89 (by decide +kernel)
theorem D_75_50 : decode J_75.2.2.1 50 = .ok (.getfield 53, 3) := dzq_180 (by decide +kernel)
theorem D_75_53 : decode J_75.2.2.1 53 = .ok (.iconst 1, 1) := dzq_4 (by decide +kernel)
theorem D_75_54 : decode J_75.2.2.1 54 = .ok (.iadd, 1) := dzq_96 (by decide +kernel)
theorem D_75_55 : decode J_75.2.2.1 55 = .ok (.putfield 53, 3) := dzq_181 (by decide +kernel)
theorem D_75_58 : decode J_75.2.2.1 58 = .ok (.aload_n 0, 1) := dzq_42 (by decide +kernel)
theorem D_75_59 : decode J_75.2.2.1 59 = .ok (.getfield 25, 3) := dzq_180 (by decide +kernel)
theorem D_75_62 : decode J_75.2.2.1 62 = .ok (.getfield 104, 3) := dzq_180 (by decide +kernel)
theorem D_75_65 : decode J_75.2.2.1 65 = .ok (.iload_n 3, 1) := dzq_29 (by decide +kernel)
theorem D_75_66 : decode J_75.2.2.1 66 = .ok (.iaload, 1) := dzq_46 (by decide +kernel)
theorem D_75_67 : decode J_75.2.2.1 67 = .ok (.bipush 17, 2) := dzq_16 (by decide +kernel)
theorem D_75_69 : decode J_75.2.2.1 69 = .ok (.if_icmp .lt 28, 3) := dzq_161 (by decide +kernel)
theorem D_75_72 : decode J_75.2.2.1 72 = .ok (.aload_n 0, 1) := dzq_42 (by decide +kernel)
theorem D_75_73 : decode J_75.2.2.1 73 = .ok (.aload_n 0, 1) := dzq_42 (by decide +kernel)
theorem D_75_74 : decode J_75.2.2.1 74 = .ok (.getfield 25, 3) := dzq_180 (by decide +kernel)
theorem D_75_77 : decode J_75.2.2.1 77 = .ok (.getfield 104, 3) := dzq_180 (by decide +kernel)
theorem D_75_80 : decode J_75.2.2.1 80 = .ok (.iload_n 3, 1) := dzq_29 (by decide +kernel)
theorem D_75_81 : decode J_75.2.2.1 81 = .ok (.iaload, 1) := dzq_46 (by decide +kernel)
theorem D_75_82 : decode J_75.2.2.1 82 = .ok (.aload_n 0, 1) := dzq_42 (by decide +kernel)
theorem D_75_83 : decode J_75.2.2.1 83 = .ok (.getfield 25, 3) := dzq_180 (by decide +kernel)
theorem D_75_86 : decode J_75.2.2.1 86 = .ok (.getfield 107, 3) := dzq_180 (by decide +kernel)
theorem D_75_89 : decode J_75.2.2.1 89 = .ok (.iload_n 3, 1) := dzq_29 (by decide +kernel)
theorem D_75_90 : decode J_75.2.2.1 90 = .ok (.iaload, 1) := dzq_46 (by decide +kernel)
theorem D_75_91 : decode J_75.2.2.1 91 = .ok (.invokevirtual 110, 3) := dzq_182 (by decide +kernel)
theorem D_75_94 : decode J_75.2.2.1 94 = .ok (.goto 34, 3) := dzq_167 (by decide +kernel)
theorem D_75_97 : decode J_75.2.2.1 97 = .ok (.aload_n 0, 1) := dzq_42 (by decide +kernel)
theorem D_75_98 : decode J_75.2.2.1 98 = .ok (.aload_n 0, 1) := dzq_42 (by decide +kernel)
theorem D_75_99 : decode J_75.2.2.1 99 = .ok (.getfield 25, 3) := dzq_180 (by decide +kernel)
theorem D_75_102 : decode J_75.2.2.1 102 = .ok (.getfield 104, 3) := dzq_180 (by decide +kernel)
theorem D_75_105 : decode J_75.2.2.1 105 = .ok (.iload_n 3, 1) := dzq_29 (by decide +kernel)
theorem D_75_106 : decode J_75.2.2.1 106 = .ok (.iaload, 1) := dzq_46 (by decide +kernel)
theorem D_75_107 : decode J_75.2.2.1 107 = .ok (.aload_n 0, 1) := dzq_42 (by decide +kernel)
theorem D_75_108 : decode J_75.2.2.1 108 = .ok (.getfield 25, 3) := dzq_180 (by decide +kernel)
theorem D_75_111 : decode J_75.2.2.1 111 = .ok (.getfield 114, 3) := dzq_180 (by decide +kernel)
theorem D_75_114 : decode J_75.2.2.1 114 = .ok (.iload_n 3, 1) := dzq_29 (by decide +kernel)
theorem D_75_115 : decode J_75.2.2.1 115 = .ok (.iaload, 1) := dzq_46 (by decide +kernel)
theorem D_75_116 : decode J_75.2.2.1 116 = .ok (.aload_n 0, 1) := dzq_42 (by decide +kernel)
theorem D_75_117 : decode J_75.2.2.1 117 = .ok (.getfield 25, 3) := dzq_180 (by decide +kernel)
theorem D_75_120 : decode J_75.2.2.1 120 = .ok (.getfield 107, 3) := dzq_180 (by decide +kernel)
theorem D_75_123 : decode J_75.2.2.1 123 = .ok (.iload_n 3, 1) := dzq_29 (by decide +kernel)
theorem D_75_124 : decode J_75.2.2.1 124 = .ok (.iaload, 1) := dzq_46 (by decide +kernel)
theorem D_75_125 : decode J_75.2.2.1 125 = .ok (.invokevirtual 117, 3) := dzq_182 (by decide +kernel)
theorem D_75_128 : decode J_75.2.2.1 128 = .ok (.aload_n 0, 1) := dzq_42 (by decide +kernel)
theorem D_75_129 : decode J_75.2.2.1 129 = .ok (.invokevirtual 96, 3) := dzq_182 (by decide +kernel)
theorem D_75_132 : decode J_75.2.2.1 132 = .ok (.iinc 2 1, 3) := dzq_132 (by decide +kernel)
theorem D_75_135 : decode J_75.2.2.1 135 = .ok (.goto (-129), 3) := dzq_167 (by decide +kernel)
theorem D_75_138 : decode J_75.2.2.1 138 = .ok (.return_, 1) := dzq_177 (by decide +kernel)
def P_75_128 (X : mjX) (d C S kc ks : Nat) (k : Nat → Int32 → Int32 → mjH → mjU) : Prop := ∀ (l0 : Nat) (l1 : Int32) (l2 : Int32) (hp : mjH) (q : Option Value × mjH), k l0 l1 l2 hp = some q → mjG X d C S J_75 (mjEq q) 128 [some (.ref l0), some (.int l1), some (.int l2), none] [] hp kc ks
def P_75_6 (X : mjX) (d C S kc ks : Nat) (k : Nat → Int32 → Int32 → mjH → mjU) : Prop := ∀ (l0 : Nat) (l1 : Int32) (l2 : Int32) (hp : mjH) (q : Option Value × mjH), k l0 l1 l2 hp = some q → mjG X d C S J_75 (mjEq q) 6 [some (.ref l0), some (.int l1), some (.int l2), none] [] hp kc ks
def P_75_0 (X : mjX) (d C S kc ks : Nat) (k : Nat → Int32 → mjH → mjU) : Prop := ∀ (l0 : Nat) (l1 : Int32) (hp : mjH) (q : Option Value × mjH), k l0 l1 hp = some q → mjG X d C S J_75 (mjEq q) 0 [some (.ref l0), some (.int l1), none, none] [] hp kc ks
noncomputable def b_75_128 (R : mjR) (k6 : Nat → Int32 → Int32 → mjH → mjU) (l0 : Nat) (l1 : Int32) (l2 : Int32) (hp : mjH) : mjU := rV hp l0 5 (bN (R 76 [.ref l0] hp) (fun  hp1 => k6 l0 l1 (l2 + (1 : Int32)) hp1))
theorem t_75_128 {X : mjX} {d C S kc ks : Nat} {R : mjR} (hR : mjC R d) (h1 : kc ≤ C) (h2 : ks ≤ S) {k6 : Nat → Int32 → Int32 → mjH → mjU} (hk6 : P_75_6 X (d + 1) C S kc ks k6) : P_75_128 X (d + 1) C S kc ks (b_75_128 R k6) := by
  intro l0 l1 l2 hp q h
  unfold b_75_128 at h
  refine mjr_aload_n (x := l0) D_75_128 rfl ?_
  refine mjq_vN (As := []) (rest := []) D_75_129 mr_5_96 V_76 rfl rfl rfl hR (Nat.le_refl _) h1 h2 h (fun  hp1 h => ?_)
  refine mjq_iinc (x := l2) (c := (1 : Int32)) (lo' := [some (.ref l0), some (.int l1), some (.int (l2 + (1 : Int32))), none]) D_75_132 rfl (Nat.le_of_ble_eq_true rfl) rfl rfl ?_
  refine mjr_goto (tgt := 6) D_75_135 rfl ?_
  exact hk6 _ _ _ _ _ h
noncomputable def b_75_6 (R : mjR) (k6 : Nat → Int32 → Int32 → mjH → mjU) (l0 : Nat) (l1 : Int32) (l2 : Int32) (hp : mjH) : mjU := (if l1 ≤ l2 then some (none, hp) else gI hp l0 5 8 (fun v1 => (if v1 = (1 : Int32) then gI hp l0 5 4 (fun v2 => gR hp l0 5 3 (fun v3 => gI hp v3 0 3 (fun v4 => (if v4 ≤ v2 then some (none, hp) else gI hp l0 5 4 (fun v5 => gI hp l0 5 4 (fun v6 => pI hp l0 5 4 (v6 + (1 : Int32)) (fun hp7 => gI hp7 l0 5 12 (fun v8 => pI hp7 l0 5 12 (v8 + (1 : Int32)) (fun hp9 => gR hp9 l0 5 3 (fun v10 => gR hp9 v10 0 0 (fun v11 => aI hp9 v11 v5 (fun v12 => (if v12 < (17 : Int32) then gR hp9 l0 5 3 (fun v13 => gR hp9 v13 0 0 (fun v14 => aI hp9 v14 v5 (fun v15 => gR hp9 l0 5 3 (fun v16 => gR hp9 v16 0 1 (fun v17 => aI hp9 v17 v5 (fun v18 => gR hp9 l0 5 3 (fun v19 => gR hp9 v19 0 2 (fun v20 => aI hp9 v20 v5 (fun v21 => rV hp9 l0 5 (bN (R 87 [.ref l0, .int v15, .int v18, .int v21] hp9) (fun  hp22 => b_75_128 R k6 l0 l1 l2 hp22))))))))))) else gR hp9 l0 5 3 (fun v23 => gR hp9 v23 0 0 (fun v24 => aI hp9 v24 v5 (fun v25 => gR hp9 l0 5 3 (fun v26 => gR hp9 v26 0 2 (fun v27 => aI hp9 v27 v5 (fun v28 => rV hp9 l0 5 (bN (R 85 [.ref l0, .int v25, .int v28] hp9) (fun  hp29 => b_75_128 R k6 l0 l1 l2 hp29))))))))))))))))))))) else some (none, hp))))
theorem t_75_6 {X : mjX} {d C S kc ks : Nat} {R : mjR} (hR : mjC R d) (h1 : kc ≤ C) (h2 : ks ≤ S) {k6 : Nat → Int32 → Int32 → mjH → mjU} (hk6 : P_75_6 X (d + 1) C S kc ks k6) : P_75_6 X (d + 1) C S kc ks (b_75_6 R k6) := by
  intro l0 l1 l2 hp q h
  unfold b_75_6 at h
  refine mjr_iload_n (x := l2) D_75_6 rfl ?_
  refine mjr_iload_n (x := l1) D_75_7 rfl ?_
  refine mjq_icmp_ge (tgt := 138) D_75_8 rfl h (fun h => ?_) (fun h => ?_)
  · exact mjq_nret D_75_138 rfl h1 h2 h
  · refine mjr_aload_n (x := l0) D_75_11 rfl ?_
    refine mjq_gI D_75_12 fr_5_44 h (fun v1 h => ?_)
    refine mjq_ic (v := (1 : Int32)) D_75_15 rfl ?_
    refine mjq_icmp_ne (tgt := 138) D_75_16 rfl h (fun h => ?_) (fun h => ?_)
    · exact mjq_nret D_75_138 rfl h1 h2 h
    · refine mjr_aload_n (x := l0) D_75_19 rfl ?_
      refine mjq_gI D_75_20 fr_5_93 h (fun v2 h => ?_)
      refine mjr_aload_n (x := l0) D_75_23 rfl ?_
      refine mjq_gR D_75_24 fr_5_25 h (fun v3 h => ?_)
      refine mjq_gI D_75_27 fr_5_99 h (fun v4 h => ?_)
      refine mjq_icmp_ge (tgt := 138) D_75_30 rfl h (fun h => ?_) (fun h => ?_)
      · exact mjq_nret D_75_138 rfl h1 h2 h
      · refine mjr_aload_n (x := l0) D_75_33 rfl ?_
        refine mjq_gI D_75_34 fr_5_93 h (fun v5 h => ?_)
        refine mjq_istore_n (lo' := [some (.ref l0), some (.int l1), some (.int l2), some (.int v5)]) D_75_37 (Nat.le_of_ble_eq_true rfl) rfl ?_
        refine mjr_aload_n (x := l0) D_75_38 rfl ?_
        refine mjr_dup D_75_39 rfl ?_
        refine mjq_gI D_75_40 fr_5_93 h (fun v6 h => ?_)
        refine mjq_ic (v := (1 : Int32)) D_75_43 rfl ?_
        refine mjr_iadd D_75_44 ?_
        refine mjq_pI D_75_45 fr_5_93 rfl rfl h (fun hp7 h => ?_)
        refine mjr_aload_n (x := l0) D_75_48 rfl ?_
        refine mjr_dup D_75_49 rfl ?_
        refine mjq_gI D_75_50 fr_5_53 h (fun v8 h => ?_)
        refine mjq_ic (v := (1 : Int32)) D_75_53 rfl ?_
        refine mjr_iadd D_75_54 ?_
        refine mjq_pI D_75_55 fr_5_53 rfl rfl h (fun hp9 h => ?_)
        refine mjr_aload_n (x := l0) D_75_58 rfl ?_
        refine mjq_gR D_75_59 fr_5_25 h (fun v10 h => ?_)
        refine mjq_gR D_75_62 fr_5_104 h (fun v11 h => ?_)
        refine mjr_iload_n (x := v5) D_75_65 rfl ?_
        refine mjq_aI D_75_66 h (fun v12 h => ?_)
        refine mjq_bi (v := (17 : Int32)) D_75_67 rfl ?_
        refine mjq_icmp_lt (tgt := 97) D_75_69 rfl h (fun h => ?_) (fun h => ?_)
        · refine mjr_aload_n (x := l0) D_75_97 rfl ?_
          refine mjr_aload_n (x := l0) D_75_98 rfl ?_
          refine mjq_gR D_75_99 fr_5_25 h (fun v13 h => ?_)
          refine mjq_gR D_75_102 fr_5_104 h (fun v14 h => ?_)
          refine mjr_iload_n (x := v5) D_75_105 rfl ?_
          refine mjq_aI D_75_106 h (fun v15 h => ?_)
          refine mjr_aload_n (x := l0) D_75_107 rfl ?_
          refine mjq_gR D_75_108 fr_5_25 h (fun v16 h => ?_)
          refine mjq_gR D_75_111 fr_5_114 h (fun v17 h => ?_)
          refine mjr_iload_n (x := v5) D_75_114 rfl ?_
          refine mjq_aI D_75_115 h (fun v18 h => ?_)
          refine mjr_aload_n (x := l0) D_75_116 rfl ?_
          refine mjq_gR D_75_117 fr_5_25 h (fun v19 h => ?_)
          refine mjq_gR D_75_120 fr_5_107 h (fun v20 h => ?_)
          refine mjr_iload_n (x := v5) D_75_123 rfl ?_
          refine mjq_aI D_75_124 h (fun v21 h => ?_)
          refine mjq_vN (As := [.int v15, .int v18, .int v21]) (rest := []) D_75_125 mr_5_117 V_87 rfl rfl rfl hR (Nat.le_refl _) h1 h2 h (fun  hp22 h => ?_)
          exact mjG.fg (lo' := [some (.ref l0), some (.int l1), some (.int l2), none]) (And.intro rfl (And.intro rfl (And.intro rfl True.intro))) ((t_75_128 hR h1 h2 hk6) _ _ _ _ _ h)
        · refine mjr_aload_n (x := l0) D_75_72 rfl ?_
          refine mjr_aload_n (x := l0) D_75_73 rfl ?_
          refine mjq_gR D_75_74 fr_5_25 h (fun v23 h => ?_)
          refine mjq_gR D_75_77 fr_5_104 h (fun v24 h => ?_)
          refine mjr_iload_n (x := v5) D_75_80 rfl ?_
          refine mjq_aI D_75_81 h (fun v25 h => ?_)
          refine mjr_aload_n (x := l0) D_75_82 rfl ?_
          refine mjq_gR D_75_83 fr_5_25 h (fun v26 h => ?_)
          refine mjq_gR D_75_86 fr_5_107 h (fun v27 h => ?_)
          refine mjr_iload_n (x := v5) D_75_89 rfl ?_
          refine mjq_aI D_75_90 h (fun v28 h => ?_)
          refine mjq_vN (As := [.int v25, .int v28]) (rest := []) D_75_91 mr_5_110 V_85 rfl rfl rfl hR (Nat.le_refl _) h1 h2 h (fun  hp29 h => ?_)
          refine mjr_goto (tgt := 128) D_75_94 rfl ?_
          exact mjG.fg (lo' := [some (.ref l0), some (.int l1), some (.int l2), none]) (And.intro rfl (And.intro rfl (And.intro rfl True.intro))) ((t_75_128 hR h1 h2 hk6) _ _ _ _ _ h)
noncomputable def L_75_6 (R : mjR) (n : Nat) : Nat → Int32 → Int32 → mjH → mjU := Nat.rec (motive := fun _ => Nat → Int32 → Int32 → mjH → mjU) (fun _ _ _ _ => none) (fun _ self => b_75_6 R self) n
theorem T_75_6 {X : mjX} {d C S kc ks : Nat} {R : mjR} (hR : mjC R d) (h1 : kc ≤ C) (h2 : ks ≤ S) (n : Nat) : P_75_6 X (d + 1) C S kc ks (L_75_6 R n) := by
  induction n with
  | zero => intro _ _ _ _ _ h; exact mj_no h
  | succ n ih => exact t_75_6 hR h1 h2 ih
noncomputable def b_75_0 (R : mjR) (l0 : Nat) (l1 : Int32) (hp : mjH) : mjU := rV hp l0 5 (bN (R 76 [.ref l0] hp) (fun  hp1 => L_75_6 R mjN l0 l1 (0 : Int32) hp1))
theorem t_75_0 {X : mjX} {d C S kc ks : Nat} {R : mjR} (hR : mjC R d) (h1 : kc ≤ C) (h2 : ks ≤ S) : P_75_0 X (d + 1) C S kc ks (b_75_0 R) := by
  intro l0 l1 hp q h
  unfold b_75_0 at h
  refine mjr_aload_n (x := l0) D_75_0 rfl ?_
  refine mjq_vN (As := []) (rest := []) D_75_1 mr_5_96 V_76 rfl rfl rfl hR (Nat.le_refl _) h1 h2 h (fun  hp1 h => ?_)
  refine mjq_ic (v := (0 : Int32)) D_75_4 rfl ?_
  refine mjq_istore_n (lo' := [some (.ref l0), some (.int l1), some (.int (0 : Int32)), none]) D_75_5 (Nat.le_of_ble_eq_true rfl) rfl ?_
  exact (T_75_6 hR h1 h2 mjN) _ _ _ _ _ h
noncomputable def f_75 (R : mjR) (a0 : Nat) (a1 : Int32) (hp : mjH) : mjU := b_75_0 R a0 a1 hp
theorem c_75 {R : mjR} {d : Nat} (hR : mjC R d) {a0 : Nat} {a1 : Int32} {hp : mjH} {q : Option Value × mjH} (h : f_75 R a0 a1 hp = some q) : mjM (d + 1) 0 0 75 [.ref a0, .int a1] hp (mjEq q) :=
  mjM_of Ja_75 (Nat.le_of_ble_eq_true rfl) (mjG.fg (lo' := [some (.ref a0), some (.int a1), none, none]) (And.intro rfl (And.intro rfl True.intro)) ((t_75_0 hR (Nat.le_refl 0) (Nat.le_refl 0)) a0 a1 hp q h))
def J_76 : mjI := (⟨"OwnerHeap$Machine", "coast", "()V"⟩, 5, prog_7_method_5_code, 3, none, 0, false)
theorem Ja_76 : mjMt 76 = some J_76 := by rfl
theorem D_76_0 : decode J_76.2.2.1 0 = .ok (.iconst 0, 1) := dzq_3 (by decide +kernel)
theorem D_76_1 : decode J_76.2.2.1 1 = .ok (.istore_n 1, 1) := dzq_60 (by decide +kernel)
theorem D_76_2 : decode J_76.2.2.1 2 = .ok (.iload_n 1, 1) := dzq_27 (by decide +kernel)
theorem D_76_3 : decode J_76.2.2.1 3 = .ok (.ldc 120, 2) := by decide +kernel
theorem D_76_5 : decode J_76.2.2.1 5 = .ok (.if_icmp .ge 70, 3) := dzq_162 (by decide +kernel)
theorem D_76_8 : decode J_76.2.2.1 8 = .ok (.aload_n 0, 1) := dzq_42 (by decide +kernel)
theorem D_76_9 : decode J_76.2.2.1 9 = .ok (.getfield 44, 3) := dzq_180 (by decide +kernel)
theorem D_76_12 : decode J_76.2.2.1 12 = .ok (.iconst 1, 1) := dzq_4 (by decide +kernel)
theorem D_76_13 : decode J_76.2.2.1 13 = .ok (.if_icmp .ne 62, 3) := dzq_160 (by decide +kernel)
theorem D_76_16 : decode J_76.2.2.1 16 = .ok (.aload_n 0, 1) := dzq_42 (by decide +kernel)
theorem D_76_17 : decode J_76.2.2.1 17 = .ok (.invokevirtual 121, 3) := dzq_182 (by decide +kernel)
theorem D_76_20 : decode J_76.2.2.1 20 = .ok (.ifCond .eq 55, 3) := dzq_153 (by decide +kernel)
theorem D_76_23 : decode J_76.2.2.1 23 = .ok (.aload_n 0, 1) := dzq_42 (by decide +kernel)
theorem D_76_24 : decode J_76.2.2.1 24 = .ok (.getfield 93, 3) := dzq_180 (by decide +kernel)
theorem D_76_27 : decode J_76.2.2.1 27 = .ok (.istore_n 2, 1) := dzq_61 (by decide +kernel)
theorem D_76_28 : decode J_76.2.2.1 28 = .ok (.aload_n 0, 1) := dzq_42 (by decide +kernel)
theorem D_76_29 : decode J_76.2.2.1 29 = .ok (.dup, 1) := dzq_89 (by decide +kernel)
theorem D_76_30 : decode J_76.2.2.1 30 = .ok (.getfield 93, 3) := dzq_180 (by decide +kernel)
theorem D_76_33 : decode J_76.2.2.1 33 = .ok (.iconst 1, 1) := dzq_4 (by decide +kernel)
theorem D_76_34 : decode J_76.2.2.1 34 = .ok (.iadd, 1) := dzq_96 (by decide +kernel)
theorem D_76_35 : decode J_76.2.2.1 35 = .ok (.putfield 93, 3) := dzq_181 (by decide +kernel)
theorem D_76_38 : decode J_76.2.2.1 38 = .ok (.aload_n 0, 1) := dzq_42 (by decide +kernel)
theorem D_76_39 : decode J_76.2.2.1 39 = .ok (.aload_n 0, 1) := dzq_42 (by decide +kernel)
theorem D_76_40 : decode J_76.2.2.1 40 = .ok (.getfield 25, 3) := dzq_180 (by decide +kernel)
theorem D_76_43 : decode J_76.2.2.1 43 = .ok (.getfield 104, 3) := dzq_180 (by decide +kernel)
theorem D_76_46 : decode J_76.2.2.1 46 = .ok (.iload_n 2, 1) := dzq_28 (by decide +kernel)
theorem D_76_47 : decode J_76.2.2.1 47 = .ok (.iaload, 1) := dzq_46 (by decide +kernel)
theorem D_76_48 : decode J_76.2.2.1 48 = .ok (.aload_n 0, 1) := dzq_42 (by decide +kernel)
theorem D_76_49 : decode J_76.2.2.1 49 = .ok (.getfield 25, 3) := dzq_180 (by decide +kernel)
theorem D_76_52 : decode J_76.2.2.1 52 = .ok (.getfield 114, 3) := dzq_180 (by decide +kernel)
theorem D_76_55 : decode J_76.2.2.1 55 = .ok (.iload_n 2, 1) := dzq_28 (by decide +kernel)
theorem D_76_56 : decode J_76.2.2.1 56 = .ok (.iaload, 1) := dzq_46 (by decide +kernel)
theorem D_76_57 : decode J_76.2.2.1 57 = .ok (.aload_n 0, 1) := dzq_42 (by decide +kernel)
theorem D_76_58 : decode J_76.2.2.1 58 = .ok (.getfield 25, 3) := dzq_180 (by decide +kernel)
theorem D_76_61 : decode J_76.2.2.1 61 = .ok (.getfield 107, 3) := dzq_180 (by decide +kernel)
theorem D_76_64 : decode J_76.2.2.1 64 = .ok (.iload_n 2, 1) := dzq_28 (by decide +kernel)
theorem D_76_65 : decode J_76.2.2.1 65 = .ok (.iaload, 1) := dzq_46 (by decide +kernel)
theorem D_76_66 : decode J_76.2.2.1 66 = .ok (.invokevirtual 125, 3) := dzq_182 (by decide +kernel)
theorem D_76_69 : decode J_76.2.2.1 69 = .ok (.iinc 1 1, 3) := dzq_132 (by decide +kernel)
theorem D_76_72 : decode J_76.2.2.1 72 = .ok (.goto (-70), 3) := dzq_167 (by decide +kernel)
theorem D_76_75 : decode J_76.2.2.1 75 = .ok (.return_, 1) := dzq_177 (by decide +kernel)
def P_76_2 (X : mjX) (d C S kc ks : Nat) (k : Nat → Int32 → mjH → mjU) : Prop := ∀ (l0 : Nat) (l1 : Int32) (hp : mjH) (q : Option Value × mjH), k l0 l1 hp = some q → mjG X d C S J_76 (mjEq q) 2 [some (.ref l0), some (.int l1), none] [] hp kc ks
def P_76_0 (X : mjX) (d C S kc ks : Nat) (k : Nat → mjH → mjU) : Prop := ∀ (l0 : Nat) (hp : mjH) (q : Option Value × mjH), k l0 hp = some q → mjG X d C S J_76 (mjEq q) 0 [some (.ref l0), none, none] [] hp kc ks
noncomputable def b_76_2 (R : mjR) (k2 : Nat → Int32 → mjH → mjU) (l0 : Nat) (l1 : Int32) (hp : mjH) : mjU := (if (1000000 : Int32) ≤ l1 then some (none, hp) else gI hp l0 5 8 (fun v1 => (if v1 = (1 : Int32) then rV hp l0 5 (bI (R 77 [.ref l0] hp) (fun v2 hp3 => (if v2 = 0 then some (none, hp3) else gI hp3 l0 5 4 (fun v4 => gI hp3 l0 5 4 (fun v5 => pI hp3 l0 5 4 (v5 + (1 : Int32)) (fun hp6 => gR hp6 l0 5 3 (fun v7 => gR hp6 v7 0 0 (fun v8 => aI hp6 v8 v4 (fun v9 => gR hp6 l0 5 3 (fun v10 => gR hp6 v10 0 1 (fun v11 => aI hp6 v11 v4 (fun v12 => gR hp6 l0 5 3 (fun v13 => gR hp6 v13 0 2 (fun v14 => aI hp6 v14 v4 (fun v15 => rV hp6 l0 5 (bN (R 78 [.ref l0, .int v9, .int v12, .int v15] hp6) (fun  hp16 => k2 l0 (l1 + (1 : Int32)) hp16))))))))))))))))) else some (none, hp))))
theorem t_76_2 {X : mjX} {d C S kc ks : Nat} {R : mjR} (hR : mjC R d) (h1 : kc ≤ C) (h2 : ks ≤ S) {k2 : Nat → Int32 → mjH → mjU} (hk2 : P_76_2 X (d + 1) C S kc ks k2) : P_76_2 X (d + 1) C S kc ks (b_76_2 R k2) := by
  intro l0 l1 hp q h
  unfold b_76_2 at h
  refine mjr_iload_n (x := l1) D_76_2 rfl ?_
  refine mjr_ldc (v := (1000000 : Int32)) D_76_3 (by decide +kernel) ?_
  refine mjq_icmp_ge (tgt := 75) D_76_5 rfl h (fun h => ?_) (fun h => ?_)
  · exact mjq_nret D_76_75 rfl h1 h2 h
  · refine mjr_aload_n (x := l0) D_76_8 rfl ?_
    refine mjq_gI D_76_9 fr_5_44 h (fun v1 h => ?_)
    refine mjq_ic (v := (1 : Int32)) D_76_12 rfl ?_
    refine mjq_icmp_ne (tgt := 75) D_76_13 rfl h (fun h => ?_) (fun h => ?_)
    · exact mjq_nret D_76_75 rfl h1 h2 h
    · refine mjr_aload_n (x := l0) D_76_16 rfl ?_
      refine mjq_vI (As := []) (rest := []) D_76_17 mr_5_121 V_77 rfl rfl rfl hR (Nat.le_refl _) h1 h2 h (fun v2 hp3 h => ?_)
      refine mjq_if_eq (tgt := 75) D_76_20 rfl h (fun h => ?_) (fun h => ?_)
      · exact mjq_nret D_76_75 rfl h1 h2 h
      · refine mjr_aload_n (x := l0) D_76_23 rfl ?_
        refine mjq_gI D_76_24 fr_5_93 h (fun v4 h => ?_)
        refine mjq_istore_n (lo' := [some (.ref l0), some (.int l1), some (.int v4)]) D_76_27 (Nat.le_of_ble_eq_true rfl) rfl ?_
        refine mjr_aload_n (x := l0) D_76_28 rfl ?_
        refine mjr_dup D_76_29 rfl ?_
        refine mjq_gI D_76_30 fr_5_93 h (fun v5 h => ?_)
        refine mjq_ic (v := (1 : Int32)) D_76_33 rfl ?_
        refine mjr_iadd D_76_34 ?_
        refine mjq_pI D_76_35 fr_5_93 rfl rfl h (fun hp6 h => ?_)
        refine mjr_aload_n (x := l0) D_76_38 rfl ?_
        refine mjr_aload_n (x := l0) D_76_39 rfl ?_
        refine mjq_gR D_76_40 fr_5_25 h (fun v7 h => ?_)
        refine mjq_gR D_76_43 fr_5_104 h (fun v8 h => ?_)
        refine mjr_iload_n (x := v4) D_76_46 rfl ?_
        refine mjq_aI D_76_47 h (fun v9 h => ?_)
        refine mjr_aload_n (x := l0) D_76_48 rfl ?_
        refine mjq_gR D_76_49 fr_5_25 h (fun v10 h => ?_)
        refine mjq_gR D_76_52 fr_5_114 h (fun v11 h => ?_)
        refine mjr_iload_n (x := v4) D_76_55 rfl ?_
        refine mjq_aI D_76_56 h (fun v12 h => ?_)
        refine mjr_aload_n (x := l0) D_76_57 rfl ?_
        refine mjq_gR D_76_58 fr_5_25 h (fun v13 h => ?_)
        refine mjq_gR D_76_61 fr_5_107 h (fun v14 h => ?_)
        refine mjr_iload_n (x := v4) D_76_64 rfl ?_
        refine mjq_aI D_76_65 h (fun v15 h => ?_)
        refine mjq_vN (As := [.int v9, .int v12, .int v15]) (rest := []) D_76_66 mr_5_125 V_78 rfl rfl rfl hR (Nat.le_refl _) h1 h2 h (fun  hp16 h => ?_)
        refine mjq_iinc (x := l1) (c := (1 : Int32)) (lo' := [some (.ref l0), some (.int (l1 + (1 : Int32))), some (.int v4)]) D_76_69 rfl (Nat.le_of_ble_eq_true rfl) rfl rfl ?_
        refine mjr_goto (tgt := 2) D_76_72 rfl ?_
        exact mjG.fg (lo' := [some (.ref l0), some (.int (l1 + (1 : Int32))), none]) (And.intro rfl (And.intro rfl True.intro)) (hk2 _ _ _ _ h)
noncomputable def L_76_2 (R : mjR) (n : Nat) : Nat → Int32 → mjH → mjU := Nat.rec (motive := fun _ => Nat → Int32 → mjH → mjU) (fun _ _ _ => none) (fun _ self => b_76_2 R self) n
theorem T_76_2 {X : mjX} {d C S kc ks : Nat} {R : mjR} (hR : mjC R d) (h1 : kc ≤ C) (h2 : ks ≤ S) (n : Nat) : P_76_2 X (d + 1) C S kc ks (L_76_2 R n) := by
  induction n with
  | zero => intro _ _ _ _ h; exact mj_no h
  | succ n ih => exact t_76_2 hR h1 h2 ih
noncomputable def b_76_0 (R : mjR) (l0 : Nat) (hp : mjH) : mjU := L_76_2 R mjN l0 (0 : Int32) hp
theorem t_76_0 {X : mjX} {d C S kc ks : Nat} {R : mjR} (hR : mjC R d) (h1 : kc ≤ C) (h2 : ks ≤ S) : P_76_0 X (d + 1) C S kc ks (b_76_0 R) := by
  intro l0 hp q h
  unfold b_76_0 at h
  refine mjq_ic (v := (0 : Int32)) D_76_0 rfl ?_
  refine mjq_istore_n (lo' := [some (.ref l0), some (.int (0 : Int32)), none]) D_76_1 (Nat.le_of_ble_eq_true rfl) rfl ?_
  exact (T_76_2 hR h1 h2 mjN) _ _ _ _ h
noncomputable def f_76 (R : mjR) (a0 : Nat) (hp : mjH) : mjU := b_76_0 R a0 hp
theorem c_76 {R : mjR} {d : Nat} (hR : mjC R d) {a0 : Nat} {hp : mjH} {q : Option Value × mjH} (h : f_76 R a0 hp = some q) : mjM (d + 1) 0 0 76 [.ref a0] hp (mjEq q) :=
  mjM_of Ja_76 (Nat.le_of_ble_eq_true rfl) (mjG.fg (lo' := [some (.ref a0), none, none]) (And.intro rfl True.intro) ((t_76_0 hR (Nat.le_refl 0) (Nat.le_refl 0)) a0 hp q h))
