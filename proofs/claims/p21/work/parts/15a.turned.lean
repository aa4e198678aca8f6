def J_1 : mjI := (⟨"OwnerHeap$Code", "emit", "(III)I"⟩, 0, prog_2_method_2_code, 5, (some .int), 3, false)
theorem Ja_1 : mjMt 1 = some J_1 := by rfl
theorem D_1_0 : decode J_1.2.2.1 0 = .ok (.aload_n 0, 1) := dzq_42 (by decide +kernel)
theorem D_1_1 : decode J_1.2.2.1 1 = .ok (.getfield 21, 3) := dzq_180 (by decide +kernel)
theorem D_1_4 : decode J_1.2.2.1 4 = .ok (.istore 4, 2) := dzq_54 (by decide +kernel)
theorem D_1_6 : decode J_1.2.2.1 6 = .ok (.iload 4, 2) := dzq_21 (by decide +kernel)
theorem D_1_8 : decode J_1.2.2.1 8 = .ok (.sipush 3100, 3) := dzq_17 (by decide +kernel)
theorem D_1_11 : decode J_1.2.2.1 11 = .ok (.if_icmp .ge 37, 3) := dzq_162 (by decide +kernel)
theorem D_1_14 : decode J_1.2.2.1 14 = .ok (.aload_n 0, 1) := dzq_42 (by decide +kernel)
theorem D_1_15 : decode J_1.2.2.1 15 = .ok (.getfield 11, 3) := dzq_180 (by decide +kernel)
theorem D_1_18 : decode J_1.2.2.1 18 = .ok (.iload 4, 2) := dzq_21 (by decide +kernel)
theorem D_1_20 : decode J_1.2.2.1 20 = .ok (.iload_n 1, 1) := dzq_27 (by decide +kernel)
theorem D_1_21 : decode J_1.2.2.1 21 = .ok (.iastore, 1) := dzq_79 (by decide +kernel)
theorem D_1_22 : decode J_1.2.2.1 22 = .ok (.aload_n 0, 1) := dzq_42 (by decide +kernel)
theorem D_1_23 : decode J_1.2.2.1 23 = .ok (.getfield 15, 3) := dzq_180 (by decide +kernel)
theorem D_1_26 : decode J_1.2.2.1 26 = .ok (.iload 4, 2) := dzq_21 (by decide +kernel)
theorem D_1_28 : decode J_1.2.2.1 28 = .ok (.iload_n 2, 1) := dzq_28 (by decide +kernel)
theorem D_1_29 : decode J_1.2.2.1 29 = .ok (.iastore, 1) := dzq_79 (by decide +kernel)
theorem D_1_30 : decode J_1.2.2.1 30 = .ok (.aload_n 0, 1) := dzq_42 (by decide +kernel)
theorem D_1_31 : decode J_1.2.2.1 31 = .ok (.getfield 18, 3) := dzq_180 (by decide +kernel)
theorem D_1_34 : decode J_1.2.2.1 34 = .ok (.iload 4, 2) := dzq_21 (by decide +kernel)
theorem D_1_36 : decode J_1.2.2.1 36 = .ok (.iload_n 3, 1) := dzq_29 (by decide +kernel)
theorem D_1_37 : decode J_1.2.2.1 37 = .ok (.iastore, 1) := dzq_79 (by decide +kernel)
theorem D_1_38 : decode J_1.2.2.1 38 = .ok (.aload_n 0, 1) := dzq_42 (by decide +kernel)
theorem D_1_39 : decode J_1.2.2.1 39 = .ok (.dup, 1) := dzq_89 (by decide +kernel)
theorem D_1_40 : decode J_1.2.2.1 40 = .ok (.getfield 21, 3) := dzq_180 (by decide +kernel)
theorem D_1_43 : decode J_1.2.2.1 43 = .ok (.iconst 1, 1) := dzq_4 (by decide +kernel)
theorem D_1_44 : decode J_1.2.2.1 44 = .ok (.iadd, 1) := dzq_96 (by decide +kernel)
theorem D_1_45 : decode J_1.2.2.1 45 = .ok (.putfield 21, 3) := dzq_181 (by decide +kernel)
theorem D_1_48 : decode J_1.2.2.1 48 = .ok (.iload 4, 2) := dzq_21 (by decide +kernel)
theorem D_1_50 : decode J_1.2.2.1 50 = .ok (.ireturn, 1) := dzq_172 (by decide +kernel)
def P_1_48 (X : mjX) (d C S kc ks : Nat) (k : Int32 → mjH → mjU) : Prop := ∀ (l4 : Int32) (hp : mjH) (q : Option Value × mjH), k l4 hp = some q → mjG X d C S J_1 (mjEq q) 48 [none, none, none, none, some (.int l4)] [] hp kc ks
def P_1_0 (X : mjX) (d C S kc ks : Nat) (k : Nat → Int32 → Int32 → Int32 → mjH → mjU) : Prop := ∀ (l0 : Nat) (l1 : Int32) (l2 : Int32) (l3 : Int32) (hp : mjH) (q : Option Value × mjH), k l0 l1 l2 l3 hp = some q → mjG X d C S J_1 (mjEq q) 0 [some (.ref l0), some (.int l1), some (.int l2), some (.int l3), none] [] hp kc ks
noncomputable def b_1_48 (R : mjR) (l4 : Int32) (hp : mjH) : mjU := some (some (.int l4), hp)
theorem t_1_48 {X : mjX} {d C S kc ks : Nat} {R : mjR} (hR : mjC R d) (h1 : kc ≤ C) (h2 : ks ≤ S) : P_1_48 X (d + 1) C S kc ks (b_1_48 R) := by
  intro l4 hp q h
  unfold b_1_48 at h
  refine mjr_iload (x := l4) D_1_48 rfl ?_
  exact mjq_ret D_1_50 rfl h1 h2 h
noncomputable def b_1_0 (R : mjR) (l0 : Nat) (l1 : Int32) (l2 : Int32) (l3 : Int32) (hp : mjH) : mjU := gI hp l0 0 3 (fun v1 => (if (3100 : Int32) ≤ v1 then b_1_48 R v1 hp else gR hp l0 0 0 (fun v2 => sI hp v2 v1 l1 (fun hp3 => gR hp3 l0 0 1 (fun v4 => sI hp3 v4 v1 l2 (fun hp5 => gR hp5 l0 0 2 (fun v6 => sI hp5 v6 v1 l3 (fun hp7 => gI hp7 l0 0 3 (fun v8 => pI hp7 l0 0 3 (v8 + (1 : Int32)) (fun hp9 => b_1_48 R v1 hp9))))))))))
theorem t_1_0 {X : mjX} {d C S kc ks : Nat} {R : mjR} (hR : mjC R d) (h1 : kc ≤ C) (h2 : ks ≤ S) : P_1_0 X (d + 1) C S kc ks (b_1_0 R) := by
  intro l0 l1 l2 l3 hp q h
  unfold b_1_0 at h
  refine mjr_aload_n (x := l0) D_1_0 rfl ?_
  refine mjq_gI D_1_1 fr_0_21 h (fun v1 h => ?_)
  refine mjq_istore (lo' := [some (.ref l0), some (.int l1), some (.int l2), some (.int l3), some (.int v1)]) D_1_4 (Nat.le_of_ble_eq_true rfl) rfl ?_
  refine mjr_iload (x := v1) D_1_6 rfl ?_
  refine mjq_si (v := (3100 : Int32)) D_1_8 rfl ?_
  refine mjq_icmp_ge (tgt := 48) D_1_11 rfl h (fun h => ?_) (fun h => ?_)
  · exact mjG.fg (lo' := [none, none, none, none, some (.int v1)]) (And.intro rfl True.intro) ((t_1_48 hR h1 h2) _ _ _ h)
  · refine mjr_aload_n (x := l0) D_1_14 rfl ?_
    refine mjq_gR D_1_15 fr_0_11 h (fun v2 h => ?_)
    refine mjr_iload (x := v1) D_1_18 rfl ?_
    refine mjr_iload_n (x := l1) D_1_20 rfl ?_
    refine mjq_sI D_1_21 h (fun hp3 h => ?_)
    refine mjr_aload_n (x := l0) D_1_22 rfl ?_
    refine mjq_gR D_1_23 fr_0_15 h (fun v4 h => ?_)
    refine mjr_iload (x := v1) D_1_26 rfl ?_
    refine mjr_iload_n (x := l2) D_1_28 rfl ?_
    refine mjq_sI D_1_29 h (fun hp5 h => ?_)
    refine mjr_aload_n (x := l0) D_1_30 rfl ?_
    refine mjq_gR D_1_31 fr_0_18 h (fun v6 h => ?_)
    refine mjr_iload (x := v1) D_1_34 rfl ?_
    refine mjr_iload_n (x := l3) D_1_36 rfl ?_
    refine mjq_sI D_1_37 h (fun hp7 h => ?_)
    refine mjr_aload_n (x := l0) D_1_38 rfl ?_
    refine mjr_dup D_1_39 rfl ?_
    refine mjq_gI D_1_40 fr_0_21 h (fun v8 h => ?_)
    refine mjq_ic (v := (1 : Int32)) D_1_43 rfl ?_
    refine mjr_iadd D_1_44 ?_
    refine mjq_pI D_1_45 fr_0_21 rfl rfl h (fun hp9 h => ?_)
    exact mjG.fg (lo' := [none, none, none, none, some (.int v1)]) (And.intro rfl True.intro) ((t_1_48 hR h1 h2) _ _ _ h)
noncomputable def f_1 (R : mjR) (a0 : Nat) (a1 : Int32) (a2 : Int32) (a3 : Int32) (hp : mjH) : mjU := b_1_0 R a0 a1 a2 a3 hp
theorem c_1 {R : mjR} {d : Nat} (hR : mjC R d) {a0 : Nat} {a1 : Int32} {a2 : Int32} {a3 : Int32} {hp : mjH} {q : Option Value × mjH} (h : f_1 R a0 a1 a2 a3 hp = some q) : mjM (d + 1) 0 0 1 [.ref a0, .int a1, .int a2, .int a3] hp (mjEq q) :=
  mjM_of Ja_1 (Nat.le_of_ble_eq_true rfl) (mjG.fg (lo' := [some (.ref a0), some (.int a1), some (.int a2), some (.int a3), none]) (And.intro rfl (And.intro rfl (And.intro rfl (And.intro rfl True.intro)))) ((t_1_0 hR (Nat.le_refl 0) (Nat.le_refl 0)) a0 a1 a2 a3 hp q h))
def J_2 : mjI := (⟨"OwnerHeap$Code", "aimHere", "(I)V"⟩, 0, prog_2_method_3_code, 2, none, 1, false)
theorem Ja_2 : mjMt 2 = some J_2 := by rfl
theorem D_2_0 : decode J_2.2.2.1 0 = .ok (.iload_n 1, 1) := dzq_27 (by decide +kernel)
theorem D_2_1 : decode J_2.2.2.1 1 = .ok (.sipush 3100, 3) := dzq_17 (by decide +kernel)
theorem D_2_4 : decode J_2.2.2.1 4 = .ok (.if_icmp .ge 13, 3) := dzq_162 (by decide +kernel)
theorem D_2_7 : decode J_2.2.2.1 7 = .ok (.aload_n 0, 1) := dzq_42 (by decide +kernel)
theorem D_2_8 : decode J_2.2.2.1 8 = .ok (.getfield 15, 3) := dzq_180 (by decide +kernel)
theorem D_2_11 : decode J_2.2.2.1 11 = .ok (.iload_n 1, 1) := dzq_27 (by decide +kernel)
theorem D_2_12 : decode J_2.2.2.1 12 = .ok (.aload_n 0, 1) := dzq_42 (by decide +kernel)
theorem D_2_13 : decode J_2.2.2.1 13 = .ok (.getfield 21, 3) := dzq_180 (by decide +kernel)
theorem D_2_16 : decode J_2.2.2.1 16 = .ok (.iastore, 1) := dzq_79 (by decide +kernel)
theorem D_2_17 : decode J_2.2.2.1 17 = .ok (.return_, 1) := dzq_177 (by decide +kernel)
def P_2_0 (X : mjX) (d C S kc ks : Nat) (k : Nat → Int32 → mjH → mjU) : Prop := ∀ (l0 : Nat) (l1 : Int32) (hp : mjH) (q : Option Value × mjH), k l0 l1 hp = some q → mjG X d C S J_2 (mjEq q) 0 [some (.ref l0), some (.int l1)] [] hp kc ks
noncomputable def b_2_0 (R : mjR) (l0 : Nat) (l1 : Int32) (hp : mjH) : mjU := (if (3100 : Int32) ≤ l1 then some (none, hp) else gR hp l0 0 1 (fun v1 => gI hp l0 0 3 (fun v2 => sI hp v1 l1 v2 (fun hp3 => some (none, hp3)))))
theorem t_2_0 {X : mjX} {d C S kc ks : Nat} {R : mjR} (hR : mjC R d) (h1 : kc ≤ C) (h2 : ks ≤ S) : P_2_0 X (d + 1) C S kc ks (b_2_0 R) := by
  intro l0 l1 hp q h
  unfold b_2_0 at h
  refine mjr_iload_n (x := l1) D_2_0 rfl ?_
  refine mjq_si (v := (3100 : Int32)) D_2_1 rfl ?_
  refine mjq_icmp_ge (tgt := 17) D_2_4 rfl h (fun h => ?_) (fun h => ?_)
  · exact mjq_nret D_2_17 rfl h1 h2 h
  · refine mjr_aload_n (x := l0) D_2_7 rfl ?_
    refine mjq_gR D_2_8 fr_0_15 h (fun v1 h => ?_)
    refine mjr_iload_n (x := l1) D_2_11 rfl ?_
    refine mjr_aload_n (x := l0) D_2_12 rfl ?_
    refine mjq_gI D_2_13 fr_0_21 h (fun v2 h => ?_)
    refine mjq_sI D_2_16 h (fun hp3 h => ?_)
    exact mjq_nret D_2_17 rfl h1 h2 h
noncomputable def f_2 (R : mjR) (a0 : Nat) (a1 : Int32) (hp : mjH) : mjU := b_2_0 R a0 a1 hp
theorem c_2 {R : mjR} {d : Nat} (hR : mjC R d) {a0 : Nat} {a1 : Int32} {hp : mjH} {q : Option Value × mjH} (h : f_2 R a0 a1 hp = some q) : mjM (d + 1) 0 0 2 [.ref a0, .int a1] hp (mjEq q) :=
  mjM_of Ja_2 (Nat.le_of_ble_eq_true rfl) (mjG.fg (lo' := [some (.ref a0), some (.int a1)]) (And.intro rfl (And.intro rfl True.intro)) ((t_2_0 hR (Nat.le_refl 0) (Nat.le_refl 0)) a0 a1 hp q h))
def J_4 : mjI := (⟨"OwnerHeap$Coder", "codeAll", "(LOwnerHeap$Program;)V"⟩, 1, prog_3_method_2_code, 3, none, 1, false)
theorem Ja_4 : mjMt 4 = some J_4 := by rfl
theorem D_4_0 : decode J_4.2.2.1 0 = .ok (.aload_n 0, 1) := dzq_42 (by decide +kernel)
theorem D_4_1 : decode J_4.2.2.1 1 = .ok (.aload_n 1, 1) := dzq_43 (by decide +kernel)
theorem D_4_2 : decode J_4.2.2.1 2 = .ok (.putfield 23, 3) := dzq_181 (by decide +kernel)
theorem D_4_5 : decode J_4.2.2.1 5 = .ok (.aload_n 0, 1) := dzq_42 (by decide +kernel)
theorem D_4_6 : decode J_4.2.2.1 6 = .ok (.aload_n 1, 1) := dzq_43 (by decide +kernel)
theorem D_4_7 : decode J_4.2.2.1 7 = .ok (.getfield 27, 3) := dzq_180 (by decide +kernel)
theorem D_4_10 : decode J_4.2.2.1 10 = .ok (.putfield 33, 3) := dzq_181 (by decide +kernel)
theorem D_4_13 : decode J_4.2.2.1 13 = .ok (.aload_n 0, 1) := dzq_42 (by decide +kernel)
theorem D_4_14 : decode J_4.2.2.1 14 = .ok (.aload_n 1, 1) := dzq_43 (by decide +kernel)
theorem D_4_15 : decode J_4.2.2.1 15 = .ok (.getfield 34, 3) := dzq_180 (by decide +kernel)
theorem D_4_18 : decode J_4.2.2.1 18 = .ok (.putfield 38, 3) := dzq_181 (by decide +kernel)
theorem D_4_21 : decode J_4.2.2.1 21 = .ok (.iconst 0, 1) := dzq_3 (by decide +kernel)
theorem D_4_22 : decode J_4.2.2.1 22 = .ok (.istore_n 2, 1) := dzq_61 (by decide +kernel)
theorem D_4_23 : decode J_4.2.2.1 23 = .ok (.iload_n 2, 1) := dzq_28 (by decide +kernel)
theorem D_4_24 : decode J_4.2.2.1 24 = .ok (.sipush 384, 3) := dzq_17 (by decide +kernel)
theorem D_4_27 : decode J_4.2.2.1 27 = .ok (.if_icmp .gt 121, 3) := dzq_163 (by decide +kernel)
theorem D_4_30 : decode J_4.2.2.1 30 = .ok (.aload_n 0, 1) := dzq_42 (by decide +kernel)
theorem D_4_31 : decode J_4.2.2.1 31 = .ok (.getfield 9, 3) := dzq_180 (by decide +kernel)
theorem D_4_34 : decode J_4.2.2.1 34 = .ok (.invokevirtual 54, 3) := dzq_182 (by decide +kernel)
theorem D_4_37 : decode J_4.2.2.1 37 = .ok (.ifCond .eq 111, 3) := dzq_153 (by decide +kernel)
theorem D_4_40 : decode J_4.2.2.1 40 = .ok (.aload_n 0, 1) := dzq_42 (by decide +kernel)
theorem D_4_41 : decode J_4.2.2.1 41 = .ok (.getfield 33, 3) := dzq_180 (by decide +kernel)
theorem D_4_44 : decode J_4.2.2.1 44 = .ok (.getfield 60, 3) := dzq_180 (by decide +kernel)
theorem D_4_47 : decode J_4.2.2.1 47 = .ok (.iload_n 2, 1) := dzq_28 (by decide +kernel)
theorem D_4_48 : decode J_4.2.2.1 48 = .ok (.baload, 1) := dzq_51 (by decide +kernel)
theorem D_4_49 : decode J_4.2.2.1 49 = .ok (.ifCond .eq 93, 3) := dzq_153 (by decide +kernel)
theorem D_4_52 : decode J_4.2.2.1 52 = .ok (.aload_n 0, 1) := dzq_42 (by decide +kernel)
theorem D_4_53 : decode J_4.2.2.1 53 = .ok (.iload_n 2, 1) := dzq_28 (by decide +kernel)
theorem D_4_54 : decode J_4.2.2.1 54 = .ok (.invokevirtual 64, 3) := dzq_182 (by decide +kernel)
theorem D_4_57 : decode J_4.2.2.1 57 = .ok (.aload_n 0, 1) := dzq_42 (by decide +kernel)
theorem D_4_58 : decode J_4.2.2.1 58 = .ok (.aload_n 0, 1) := dzq_42 (by decide +kernel)
theorem D_4_59 : decode J_4.2.2.1 59 = .ok (.getfield 33, 3) := dzq_180 (by decide +kernel)
theorem D_4_62 : decode J_4.2.2.1 62 = .ok (.getfield 68, 3) := dzq_180 (by decide +kernel)
theorem D_4_65 : decode J_4.2.2.1 65 = .ok (.iload_n 2, 1) := dzq_28 (by decide +kernel)
theorem D_4_66 : decode J_4.2.2.1 66 = .ok (.iaload, 1) := dzq_46 (by decide +kernel)
theorem D_4_67 : decode J_4.2.2.1 67 = .ok (.putfield 71, 3) := dzq_181 (by decide +kernel)
theorem D_4_70 : decode J_4.2.2.1 70 = .ok (.aload_n 0, 1) := dzq_42 (by decide +kernel)
theorem D_4_71 : decode J_4.2.2.1 71 = .ok (.aload_n 0, 1) := dzq_42 (by decide +kernel)
theorem D_4_72 : decode J_4.2.2.1 72 = .ok (.getfield 33, 3) := dzq_180 (by decide +kernel)
theorem D_4_75 : decode J_4.2.2.1 75 = .ok (.getfield 74, 3) := dzq_180 (by decide +kernel)
theorem D_4_78 : decode J_4.2.2.1 78 = .ok (.iload_n 2, 1) := dzq_28 (by decide +kernel)
theorem D_4_79 : decode J_4.2.2.1 79 = .ok (.iaload, 1) := dzq_46 (by decide +kernel)
theorem D_4_80 : decode J_4.2.2.1 80 = .ok (.putfield 75, 3) := dzq_181 (by decide +kernel)
theorem D_4_83 : decode J_4.2.2.1 83 = .ok (.aload_n 0, 1) := dzq_42 (by decide +kernel)
theorem D_4_84 : decode J_4.2.2.1 84 = .ok (.getfield 33, 3) := dzq_180 (by decide +kernel)
theorem D_4_87 : decode J_4.2.2.1 87 = .ok (.getfield 78, 3) := dzq_180 (by decide +kernel)
theorem D_4_90 : decode J_4.2.2.1 90 = .ok (.iload_n 2, 1) := dzq_28 (by decide +kernel)
theorem D_4_91 : decode J_4.2.2.1 91 = .ok (.aload_n 0, 1) := dzq_42 (by decide +kernel)
theorem D_4_92 : decode J_4.2.2.1 92 = .ok (.getfield 38, 3) := dzq_180 (by decide +kernel)
theorem D_4_95 : decode J_4.2.2.1 95 = .ok (.getfield 81, 3) := dzq_180 (by decide +kernel)
theorem D_4_98 : decode J_4.2.2.1 98 = .ok (.iastore, 1) := dzq_79 (by decide +kernel)
theorem D_4_99 : decode J_4.2.2.1 99 = .ok (.aload_n 0, 1) := dzq_42 (by decide +kernel)
theorem D_4_100 : decode J_4.2.2.1 100 = .ok (.getfield 9, 3) := dzq_180 (by decide +kernel)
theorem D_4_103 : decode J_4.2.2.1 103 = .ok (.aload_n 0, 1) := dzq_42 (by decide +kernel)
theorem D_4_104 : decode J_4.2.2.1 104 = .ok (.getfield 15, 3) := dzq_180 (by decide +kernel)
theorem D_4_107 : decode J_4.2.2.1 107 = .ok (.getfield 86, 3) := dzq_180 (by decide +kernel)
theorem D_4_110 : decode J_4.2.2.1 110 = .ok (.iload_n 2, 1) := dzq_28 (by decide +kernel)
theorem D_4_111 : decode J_4.2.2.1 111 = .ok (.iaload, 1) := dzq_46 (by decide +kernel)
theorem D_4_112 : decode J_4.2.2.1 112 = .ok (.invokevirtual 89, 3) := dzq_182 (by decide +kernel)
theorem D_4_115 : decode J_4.2.2.1 115 = .ok (.aload_n 0, 1) := dzq_42 (by decide +kernel)
theorem D_4_116 : decode J_4.2.2.1 116 = .ok (.invokevirtual 92, 3) := dzq_182 (by decide +kernel)
theorem D_4_119 : decode J_4.2.2.1 119 = .ok (.aload_n 0, 1) := dzq_42 (by decide +kernel)
theorem D_4_120 : decode J_4.2.2.1 120 = .ok (.getfield 38, 3) := dzq_180 (by decide +kernel)
theorem D_4_123 : decode J_4.2.2.1 123 = .ok (.iconst 0, 1) := dzq_3 (by decide +kernel)
theorem D_4_124 : decode J_4.2.2.1 124 = .ok (.iconst 0, 1) := dzq_3 (by decide +kernel)
theorem D_4_125 : decode J_4.2.2.1 125 = .ok (.iconst (-1), 1) := dzq_2 (by decide +kernel)
theorem D_4_126 : decode J_4.2.2.1 126 = .ok (.invokevirtual 95, 3) := dzq_182 (by decide +kernel)
theorem D_4_129 : decode J_4.2.2.1 129 = .ok (.pop, 1) := dzq_87 (by decide +kernel)
theorem D_4_130 : decode J_4.2.2.1 130 = .ok (.aload_n 0, 1) := dzq_42 (by decide +kernel)
theorem D_4_131 : decode J_4.2.2.1 131 = .ok (.getfield 38, 3) := dzq_180 (by decide +kernel)
theorem D_4_134 : decode J_4.2.2.1 134 = .ok (.bipush 9, 2) := dzq_16 (by decide +kernel)
theorem D_4_136 : decode J_4.2.2.1 136 = .ok (.iconst 0, 1) := dzq_3 (by decide +kernel)
theorem D_4_137 : decode J_4.2.2.1 137 = .ok (.iconst (-1), 1) := dzq_2 (by decide +kernel)
theorem D_4_138 : decode J_4.2.2.1 138 = .ok (.invokevirtual 95, 3) := dzq_182 (by decide +kernel)
theorem D_4_141 : decode J_4.2.2.1 141 = .ok (.pop, 1) := dzq_87 (by decide +kernel)
theorem D_4_142 : decode J_4.2.2.1 142 = .ok (.iinc 2 1, 3) := dzq_132 (by decide +kernel)
theorem D_4_145 : decode J_4.2.2.1 145 = .ok (.goto (-122), 3) := dzq_167 (by decide +kernel)
theorem D_4_148 : decode J_4.2.2.1 148 = .ok (.return_, 1) := dzq_177 (by decide +kernel)
def P_4_142 (X : mjX) (d C S kc ks : Nat) (k : Nat → Int32 → mjH → mjU) : Prop := ∀ (l0 : Nat) (l2 : Int32) (hp : mjH) (q : Option Value × mjH), k l0 l2 hp = some q → mjG X d C S J_4 (mjEq q) 142 [some (.ref l0), none, some (.int l2)] [] hp kc ks
def P_4_23 (X : mjX) (d C S kc ks : Nat) (k : Nat → Int32 → mjH → mjU) : Prop := ∀ (l0 : Nat) (l2 : Int32) (hp : mjH) (q : Option Value × mjH), k l0 l2 hp = some q → mjG X d C S J_4 (mjEq q) 23 [some (.ref l0), none, some (.int l2)] [] hp kc ks
def P_4_0 (X : mjX) (d C S kc ks : Nat) (k : Nat → Nat → mjH → mjU) : Prop := ∀ (l0 : Nat) (l1 : Nat) (hp : mjH) (q : Option Value × mjH), k l0 l1 hp = some q → mjG X d C S J_4 (mjEq q) 0 [some (.ref l0), some (.ref l1), none] [] hp kc ks
noncomputable def b_4_142 (R : mjR) (k23 : Nat → Int32 → mjH → mjU) (l0 : Nat) (l2 : Int32) (hp : mjH) : mjU := k23 l0 (l2 + (1 : Int32)) hp
theorem t_4_142 {X : mjX} {d C S kc ks : Nat} {R : mjR} (hR : mjC R d) (h1 : kc ≤ C) (h2 : ks ≤ S) {k23 : Nat → Int32 → mjH → mjU} (hk23 : P_4_23 X (d + 1) C S kc ks k23) : P_4_142 X (d + 1) C S kc ks (b_4_142 R k23) := by
  intro l0 l2 hp q h
  unfold b_4_142 at h
  refine mjq_iinc (x := l2) (c := (1 : Int32)) (lo' := [some (.ref l0), none, some (.int (l2 + (1 : Int32)))]) D_4_142 rfl (Nat.le_of_ble_eq_true rfl) rfl rfl ?_
  refine mjr_goto (tgt := 23) D_4_145 rfl ?_
  exact hk23 _ _ _ _ h
noncomputable def b_4_23 (R : mjR) (k23 : Nat → Int32 → mjH → mjU) (l0 : Nat) (l2 : Int32) (hp : mjH) : mjU := (if (384 : Int32) < l2 then some (none, hp) else gR hp l0 1 0 (fun v1 => rV hp v1 9 (bI (R 172 [.ref v1] hp) (fun v2 hp3 => (if v2 = 0 then some (none, hp3) else gR hp3 l0 1 4 (fun v4 => gR hp3 v4 6 4 (fun v5 => aB hp3 v5 l2 (fun v6 => (if v6 = 0 then b_4_142 R k23 l0 l2 hp3 else rV hp3 l0 1 (bN (R 5 [.ref l0, .int l2] hp3) (fun  hp7 => gR hp7 l0 1 4 (fun v8 => gR hp7 v8 6 2 (fun v9 => aI hp7 v9 l2 (fun v10 => pI hp7 l0 1 6 v10 (fun hp11 => gR hp11 l0 1 4 (fun v12 => gR hp11 v12 6 3 (fun v13 => aI hp11 v13 l2 (fun v14 => pI hp11 l0 1 7 v14 (fun hp15 => gR hp15 l0 1 4 (fun v16 => gR hp15 v16 6 9 (fun v17 => gR hp15 l0 1 5 (fun v18 => gI hp15 v18 0 3 (fun v19 => sI hp15 v17 l2 v19 (fun hp20 => gR hp20 l0 1 0 (fun v21 => gR hp20 l0 1 1 (fun v22 => gR hp20 v22 8 8 (fun v23 => aI hp20 v23 l2 (fun v24 => rV hp20 v21 9 (bN (R 179 [.ref v21, .int v24] hp20) (fun  hp25 => rV hp25 l0 1 (bN (R 7 [.ref l0] hp25) (fun  hp26 => gR hp26 l0 1 5 (fun v27 => rV hp26 v27 0 (bI (R 1 [.ref v27, .int (0 : Int32), .int (0 : Int32), .int (-1 : Int32)] hp26) (fun v28 hp29 => gR hp29 l0 1 5 (fun v30 => rV hp29 v30 0 (bI (R 1 [.ref v30, .int (9 : Int32), .int (0 : Int32), .int (-1 : Int32)] hp29) (fun v31 hp32 => b_4_142 R k23 l0 l2 hp32))))))))))))))))))))))))))))))))))))))
theorem t_4_23 {X : mjX} {d C S kc ks : Nat} {R : mjR} (hR : mjC R d) (h1 : kc ≤ C) (h2 : ks ≤ S) {k23 : Nat → Int32 → mjH → mjU} (hk23 : P_4_23 X (d + 1) C S kc ks k23) : P_4_23 X (d + 1) C S kc ks (b_4_23 R k23) := by
  intro l0 l2 hp q h
  unfold b_4_23 at h
  refine mjr_iload_n (x := l2) D_4_23 rfl ?_
  refine mjq_si (v := (384 : Int32)) D_4_24 rfl ?_
  refine mjq_icmp_gt (tgt := 148) D_4_27 rfl h (fun h => ?_) (fun h => ?_)
  · exact mjq_nret D_4_148 rfl h1 h2 h
  · refine mjr_aload_n (x := l0) D_4_30 rfl ?_
    refine mjq_gR D_4_31 fr_1_9 h (fun v1 h => ?_)
    refine mjq_vI (As := []) (rest := []) D_4_34 mr_1_54 V_172 rfl rfl rfl hR (Nat.le_refl _) h1 h2 h (fun v2 hp3 h => ?_)
    refine mjq_if_eq (tgt := 148) D_4_37 rfl h (fun h => ?_) (fun h => ?_)
    · exact mjq_nret D_4_148 rfl h1 h2 h
    · refine mjr_aload_n (x := l0) D_4_40 rfl ?_
      refine mjq_gR D_4_41 fr_1_33 h (fun v4 h => ?_)
      refine mjq_gR D_4_44 fr_1_60 h (fun v5 h => ?_)
      refine mjr_iload_n (x := l2) D_4_47 rfl ?_
      refine mjq_aB D_4_48 h (fun v6 h => ?_)
      refine mjq_if_eq (tgt := 142) D_4_49 rfl h (fun h => ?_) (fun h => ?_)
      · exact (t_4_142 hR h1 h2 hk23) _ _ _ _ h
      · refine mjr_aload_n (x := l0) D_4_52 rfl ?_
        refine mjr_iload_n (x := l2) D_4_53 rfl ?_
        refine mjq_vN (As := [.int l2]) (rest := []) D_4_54 mr_1_64 V_5 rfl rfl rfl hR (Nat.le_refl _) h1 h2 h (fun  hp7 h => ?_)
        refine mjr_aload_n (x := l0) D_4_57 rfl ?_
        refine mjr_aload_n (x := l0) D_4_58 rfl ?_
        refine mjq_gR D_4_59 fr_1_33 h (fun v8 h => ?_)
        refine mjq_gR D_4_62 fr_1_68 h (fun v9 h => ?_)
        refine mjr_iload_n (x := l2) D_4_65 rfl ?_
        refine mjq_aI D_4_66 h (fun v10 h => ?_)
        refine mjq_pI D_4_67 fr_1_71 rfl rfl h (fun hp11 h => ?_)
        refine mjr_aload_n (x := l0) D_4_70 rfl ?_
        refine mjr_aload_n (x := l0) D_4_71 rfl ?_
        refine mjq_gR D_4_72 fr_1_33 h (fun v12 h => ?_)
        refine mjq_gR D_4_75 fr_1_74 h (fun v13 h => ?_)
        refine mjr_iload_n (x := l2) D_4_78 rfl ?_
        refine mjq_aI D_4_79 h (fun v14 h => ?_)
        refine mjq_pI D_4_80 fr_1_75 rfl rfl h (fun hp15 h => ?_)
        refine mjr_aload_n (x := l0) D_4_83 rfl ?_
        refine mjq_gR D_4_84 fr_1_33 h (fun v16 h => ?_)
        refine mjq_gR D_4_87 fr_1_78 h (fun v17 h => ?_)
        refine mjr_iload_n (x := l2) D_4_90 rfl ?_
        refine mjr_aload_n (x := l0) D_4_91 rfl ?_
        refine mjq_gR D_4_92 fr_1_38 h (fun v18 h => ?_)
        refine mjq_gI D_4_95 fr_1_81 h (fun v19 h => ?_)
        refine mjq_sI D_4_98 h (fun hp20 h => ?_)
        refine mjr_aload_n (x := l0) D_4_99 rfl ?_
        refine mjq_gR D_4_100 fr_1_9 h (fun v21 h => ?_)
        refine mjr_aload_n (x := l0) D_4_103 rfl ?_
        refine mjq_gR D_4_104 fr_1_15 h (fun v22 h => ?_)
        refine mjq_gR D_4_107 fr_1_86 h (fun v23 h => ?_)
        refine mjr_iload_n (x := l2) D_4_110 rfl ?_
        refine mjq_aI D_4_111 h (fun v24 h => ?_)
        refine mjq_vN (As := [.int v24]) (rest := []) D_4_112 mr_1_89 V_179 rfl rfl rfl hR (Nat.le_refl _) h1 h2 h (fun  hp25 h => ?_)
        refine mjr_aload_n (x := l0) D_4_115 rfl ?_
        refine mjq_vN (As := []) (rest := []) D_4_116 mr_1_92 V_7 rfl rfl rfl hR (Nat.le_refl _) h1 h2 h (fun  hp26 h => ?_)
        refine mjr_aload_n (x := l0) D_4_119 rfl ?_
        refine mjq_gR D_4_120 fr_1_38 h (fun v27 h => ?_)
        refine mjq_ic (v := (0 : Int32)) D_4_123 rfl ?_
        refine mjq_ic (v := (0 : Int32)) D_4_124 rfl ?_
        refine mjq_ic (v := (-1 : Int32)) D_4_125 rfl ?_
        refine mjq_vI (As := [.int (0 : Int32), .int (0 : Int32), .int (-1 : Int32)]) (rest := []) D_4_126 mr_1_95 V_1 rfl rfl rfl hR (Nat.le_refl _) h1 h2 h (fun v28 hp29 h => ?_)
        refine mjr_pop D_4_129 rfl ?_
        refine mjr_aload_n (x := l0) D_4_130 rfl ?_
        refine mjq_gR D_4_131 fr_1_38 h (fun v30 h => ?_)
        refine mjq_bi (v := (9 : Int32)) D_4_134 rfl ?_
        refine mjq_ic (v := (0 : Int32)) D_4_136 rfl ?_
        refine mjq_ic (v := (-1 : Int32)) D_4_137 rfl ?_
        refine mjq_vI (As := [.int (9 : Int32), .int (0 : Int32), .int (-1 : Int32)]) (rest := []) D_4_138 mr_1_95 V_1 rfl rfl rfl hR (Nat.le_refl _) h1 h2 h (fun v31 hp32 h => ?_)
        refine mjr_pop D_4_141 rfl ?_
        exact (t_4_142 hR h1 h2 hk23) _ _ _ _ h
noncomputable def L_4_23 (R : mjR) (n : Nat) : Nat → Int32 → mjH → mjU := Nat.rec (motive := fun _ => Nat → Int32 → mjH → mjU) (fun _ _ _ => none) (fun _ self => b_4_23 R self) n
theorem T_4_23 {X : mjX} {d C S kc ks : Nat} {R : mjR} (hR : mjC R d) (h1 : kc ≤ C) (h2 : ks ≤ S) (n : Nat) : P_4_23 X (d + 1) C S kc ks (L_4_23 R n) := by
  induction n with
  | zero => intro _ _ _ _ h; exact mj_no h
  | succ n ih => exact t_4_23 hR h1 h2 ih
noncomputable def b_4_0 (R : mjR) (l0 : Nat) (l1 : Nat) (hp : mjH) : mjU := pR hp l0 1 3 l1 (fun hp1 => gR hp1 l1 7 14 (fun v2 => pR hp1 l0 1 4 v2 (fun hp3 => gR hp3 l1 7 15 (fun v4 => pR hp3 l0 1 5 v4 (fun hp5 => L_4_23 R mjN l0 (0 : Int32) hp5)))))
theorem t_4_0 {X : mjX} {d C S kc ks : Nat} {R : mjR} (hR : mjC R d) (h1 : kc ≤ C) (h2 : ks ≤ S) : P_4_0 X (d + 1) C S kc ks (b_4_0 R) := by
  intro l0 l1 hp q h
  unfold b_4_0 at h
  refine mjr_aload_n (x := l0) D_4_0 rfl ?_
  refine mjr_aload_n (x := l1) D_4_1 rfl ?_
  refine mjq_pR D_4_2 fr_1_23 rfl (fun _ => ⟨rfl, rfl⟩) h (fun hp1 h => ?_)
  refine mjr_aload_n (x := l0) D_4_5 rfl ?_
  refine mjr_aload_n (x := l1) D_4_6 rfl ?_
  refine mjq_gR D_4_7 fr_1_27 h (fun v2 h => ?_)
  refine mjq_pR D_4_10 fr_1_33 rfl (fun _ => ⟨rfl, rfl⟩) h (fun hp3 h => ?_)
  refine mjr_aload_n (x := l0) D_4_13 rfl ?_
  refine mjr_aload_n (x := l1) D_4_14 rfl ?_
  refine mjq_gR D_4_15 fr_1_34 h (fun v4 h => ?_)
  refine mjq_pR D_4_18 fr_1_38 rfl (fun _ => ⟨rfl, rfl⟩) h (fun hp5 h => ?_)
  refine mjq_ic (v := (0 : Int32)) D_4_21 rfl ?_
  refine mjq_istore_n (lo' := [some (.ref l0), some (.ref l1), some (.int (0 : Int32))]) D_4_22 (Nat.le_of_ble_eq_true rfl) rfl ?_
  exact mjG.fg (lo' := [some (.ref l0), none, some (.int (0 : Int32))]) (And.intro rfl (And.intro rfl True.intro)) ((T_4_23 hR h1 h2 mjN) _ _ _ _ h)
noncomputable def f_4 (R : mjR) (a0 : Nat) (a1 : Nat) (hp : mjH) : mjU := b_4_0 R a0 a1 hp
theorem c_4 {R : mjR} {d : Nat} (hR : mjC R d) {a0 : Nat} {a1 : Nat} {hp : mjH} {q : Option Value × mjH} (h : f_4 R a0 a1 hp = some q) : mjM (d + 1) 0 0 4 [.ref a0, .ref a1] hp (mjEq q) :=
  mjM_of Ja_4 (Nat.le_of_ble_eq_true rfl) (mjG.fg (lo' := [some (.ref a0), some (.ref a1), none]) (And.intro rfl (And.intro rfl True.intro)) ((t_4_0 hR (Nat.le_refl 0) (Nat.le_refl 0)) a0 a1 hp q h))
def J_5 : mjI := (⟨"OwnerHeap$Coder", "knowParams", "(I)V"⟩, 1, prog_3_method_3_code, 5, none, 1, false)
theorem Ja_5 : mjMt 5 = some J_5 := by rfl
theorem D_5_0 : decode J_5.2.2.1 0 = .ok (.aload_n 0, 1) := dzq_42 (by decide +kernel)
theorem D_5_1 : decode J_5.2.2.1 1 = .ok (.iconst 0, 1) := dzq_3 (by decide +kernel)
theorem D_5_2 : decode J_5.2.2.1 2 = .ok (.putfield 99, 3) := dzq_181 (by decide +kernel)
theorem D_5_5 : decode J_5.2.2.1 5 = .ok (.aload_n 0, 1) := dzq_42 (by decide +kernel)
theorem D_5_6 : decode J_5.2.2.1 6 = .ok (.iconst 0, 1) := dzq_3 (by decide +kernel)
theorem D_5_7 : decode J_5.2.2.1 7 = .ok (.putfield 102, 3) := dzq_181 (by decide +kernel)
theorem D_5_10 : decode J_5.2.2.1 10 = .ok (.aload_n 0, 1) := dzq_42 (by decide +kernel)
theorem D_5_11 : decode J_5.2.2.1 11 = .ok (.getfield 9, 3) := dzq_180 (by decide +kernel)
theorem D_5_14 : decode J_5.2.2.1 14 = .ok (.aload_n 0, 1) := dzq_42 (by decide +kernel)
theorem D_5_15 : decode J_5.2.2.1 15 = .ok (.getfield 15, 3) := dzq_180 (by decide +kernel)
theorem D_5_18 : decode J_5.2.2.1 18 = .ok (.getfield 105, 3) := dzq_180 (by decide +kernel)
theorem D_5_21 : decode J_5.2.2.1 21 = .ok (.iload_n 1, 1) := dzq_27 (by decide +kernel)
theorem D_5_22 : decode J_5.2.2.1 22 = .ok (.iaload, 1) := dzq_46 (by decide +kernel)
theorem D_5_23 : decode J_5.2.2.1 23 = .ok (.iconst 2, 1) := dzq_5 (by decide +kernel)
theorem D_5_24 : decode J_5.2.2.1 24 = .ok (.iadd, 1) := dzq_96 (by decide +kernel)
theorem D_5_25 : decode J_5.2.2.1 25 = .ok (.invokevirtual 89, 3) := dzq_182 (by decide +kernel)
theorem D_5_28 : decode J_5.2.2.1 28 = .ok (.iconst 0, 1) := dzq_3 (by decide +kernel)
theorem D_5_29 : decode J_5.2.2.1 29 = .ok (.istore_n 2, 1) := dzq_61 (by decide +kernel)
theorem D_5_30 : decode J_5.2.2.1 30 = .ok (.iload_n 2, 1) := dzq_28 (by decide +kernel)
theorem D_5_31 : decode J_5.2.2.1 31 = .ok (.aload_n 0, 1) := dzq_42 (by decide +kernel)
theorem D_5_32 : decode J_5.2.2.1 32 = .ok (.getfield 33, 3) := dzq_180 (by decide +kernel)
theorem D_5_35 : decode J_5.2.2.1 35 = .ok (.getfield 108, 3) := dzq_180 (by decide +kernel)
theorem D_5_38 : decode J_5.2.2.1 38 = .ok (.iload_n 1, 1) := dzq_27 (by decide +kernel)
theorem D_5_39 : decode J_5.2.2.1 39 = .ok (.iaload, 1) := dzq_46 (by decide +kernel)
theorem D_5_40 : decode J_5.2.2.1 40 = .ok (.if_icmp .ge 84, 3) := dzq_162 (by decide +kernel)
theorem D_5_43 : decode J_5.2.2.1 43 = .ok (.aload_n 0, 1) := dzq_42 (by decide +kernel)
theorem D_5_44 : decode J_5.2.2.1 44 = .ok (.getfield 9, 3) := dzq_180 (by decide +kernel)
theorem D_5_47 : decode J_5.2.2.1 47 = .ok (.invokevirtual 111, 3) := dzq_182 (by decide +kernel)
theorem D_5_50 : decode J_5.2.2.1 50 = .ok (.istore_n 3, 1) := dzq_62 (by decide +kernel)
theorem D_5_51 : decode J_5.2.2.1 51 = .ok (.aload_n 0, 1) := dzq_42 (by decide +kernel)
theorem D_5_52 : decode J_5.2.2.1 52 = .ok (.getfield 9, 3) := dzq_180 (by decide +kernel)
theorem D_5_55 : decode J_5.2.2.1 55 = .ok (.bipush 10, 2) := dzq_16 (by decide +kernel)
theorem D_5_57 : decode J_5.2.2.1 57 = .ok (.invokevirtual 115, 3) := dzq_182 (by decide +kernel)
theorem D_5_60 : decode J_5.2.2.1 60 = .ok (.ifCond .eq 9, 3) := dzq_153 (by decide +kernel)
theorem D_5_63 : decode J_5.2.2.1 63 = .ok (.iload_n 3, 1) := dzq_29 (by decide +kernel)
theorem D_5_64 : decode J_5.2.2.1 64 = .ok (.iconst 1, 1) := dzq_4 (by decide +kernel)
theorem D_5_65 : decode J_5.2.2.1 65 = .ok (.iadd, 1) := dzq_96 (by decide +kernel)
theorem D_5_66 : decode J_5.2.2.1 66 = .ok (.goto 17, 3) := dzq_167 (by decide +kernel)
theorem D_5_69 : decode J_5.2.2.1 69 = .ok (.iload_n 3, 1) := dzq_29 (by decide +kernel)
theorem D_5_70 : decode J_5.2.2.1 70 = .ok (.iconst 2, 1) := dzq_5 (by decide +kernel)
theorem D_5_71 : decode J_5.2.2.1 71 = .ok (.iadd, 1) := dzq_96 (by decide +kernel)
theorem D_5_72 : decode J_5.2.2.1 72 = .ok (.iconst 2, 1) := dzq_5 (by decide +kernel)
theorem D_5_73 : decode J_5.2.2.1 73 = .ok (.aload_n 0, 1) := dzq_42 (by decide +kernel)
theorem D_5_74 : decode J_5.2.2.1 74 = .ok (.getfield 19, 3) := dzq_180 (by decide +kernel)
theorem D_5_77 : decode J_5.2.2.1 77 = .ok (.iload_n 3, 1) := dzq_29 (by decide +kernel)
theorem D_5_78 : decode J_5.2.2.1 78 = .ok (.invokevirtual 119, 3) := dzq_182 (by decide +kernel)
theorem D_5_81 : decode J_5.2.2.1 81 = .ok (.imul, 1) := dzq_104 (by decide +kernel)
theorem D_5_82 : decode J_5.2.2.1 82 = .ok (.iadd, 1) := dzq_96 (by decide +kernel)
theorem D_5_83 : decode J_5.2.2.1 83 = .ok (.istore 4, 2) := dzq_54 (by decide +kernel)
theorem D_5_85 : decode J_5.2.2.1 85 = .ok (.aload_n 0, 1) := dzq_42 (by decide +kernel)
theorem D_5_86 : decode J_5.2.2.1 86 = .ok (.aload_n 0, 1) := dzq_42 (by decide +kernel)
theorem D_5_87 : decode J_5.2.2.1 87 = .ok (.getfield 9, 3) := dzq_180 (by decide +kernel)
theorem D_5_90 : decode J_5.2.2.1 90 = .ok (.iload 4, 2) := dzq_21 (by decide +kernel)
theorem D_5_92 : decode J_5.2.2.1 92 = .ok (.invokevirtual 125, 3) := dzq_182 (by decide +kernel)
theorem D_5_95 : decode J_5.2.2.1 95 = .ok (.aload_n 0, 1) := dzq_42 (by decide +kernel)
theorem D_5_96 : decode J_5.2.2.1 96 = .ok (.getfield 33, 3) := dzq_180 (by decide +kernel)
theorem D_5_99 : decode J_5.2.2.1 99 = .ok (.iload_n 1, 1) := dzq_27 (by decide +kernel)
theorem D_5_100 : decode J_5.2.2.1 100 = .ok (.iload_n 2, 1) := dzq_28 (by decide +kernel)
theorem D_5_101 : decode J_5.2.2.1 101 = .ok (.invokevirtual 129, 3) := dzq_182 (by decide +kernel)
theorem D_5_104 : decode J_5.2.2.1 104 = .ok (.invokevirtual 133, 3) := dzq_182 (by decide +kernel)
theorem D_5_107 : decode J_5.2.2.1 107 = .ok (.aload_n 0, 1) := dzq_42 (by decide +kernel)
theorem D_5_108 : decode J_5.2.2.1 108 = .ok (.getfield 9, 3) := dzq_180 (by decide +kernel)
theorem D_5_111 : decode J_5.2.2.1 111 = .ok (.iload 4, 2) := dzq_21 (by decide +kernel)
theorem D_5_113 : decode J_5.2.2.1 113 = .ok (.iconst 2, 1) := dzq_5 (by decide +kernel)
theorem D_5_114 : decode J_5.2.2.1 114 = .ok (.iadd, 1) := dzq_96 (by decide +kernel)
theorem D_5_115 : decode J_5.2.2.1 115 = .ok (.invokevirtual 89, 3) := dzq_182 (by decide +kernel)
theorem D_5_118 : decode J_5.2.2.1 118 = .ok (.iinc 2 1, 3) := dzq_132 (by decide +kernel)
theorem D_5_121 : decode J_5.2.2.1 121 = .ok (.goto (-91), 3) := dzq_167 (by decide +kernel)
theorem D_5_124 : decode J_5.2.2.1 124 = .ok (.return_, 1) := dzq_177 (by decide +kernel)
def P_5_83 (X : mjX) (d C S kc ks : Nat) (k : Nat → Int32 → Int32 → Int32 → mjH → mjU) : Prop := ∀ (l0 : Nat) (l1 : Int32) (l2 : Int32) (s0 : Int32) (hp : mjH) (q : Option Value × mjH), k l0 l1 l2 s0 hp = some q → mjG X d C S J_5 (mjEq q) 83 [some (.ref l0), some (.int l1), some (.int l2), none, none] [.int s0] hp kc ks
def P_5_30 (X : mjX) (d C S kc ks : Nat) (k : Nat → Int32 → Int32 → mjH → mjU) : Prop := ∀ (l0 : Nat) (l1 : Int32) (l2 : Int32) (hp : mjH) (q : Option Value × mjH), k l0 l1 l2 hp = some q → mjG X d C S J_5 (mjEq q) 30 [some (.ref l0), some (.int l1), some (.int l2), none, none] [] hp kc ks
def P_5_0 (X : mjX) (d C S kc ks : Nat) (k : Nat → Int32 → mjH → mjU) : Prop := ∀ (l0 : Nat) (l1 : Int32) (hp : mjH) (q : Option Value × mjH), k l0 l1 hp = some q → mjG X d C S J_5 (mjEq q) 0 [some (.ref l0), some (.int l1), none, none, none] [] hp kc ks
noncomputable def b_5_83 (R : mjR) (k30 : Nat → Int32 → Int32 → mjH → mjU) (l0 : Nat) (l1 : Int32) (l2 : Int32) (s0 : Int32) (hp : mjH) : mjU := gR hp l0 1 0 (fun v1 => rV hp v1 9 (bL (R 170 [.ref v1, .int s0] hp) (fun v2 hp3 => gR hp3 l0 1 4 (fun v4 => rV hp3 v4 6 (bI (R 98 [.ref v4, .int l1, .int l2] hp3) (fun v5 hp6 => rV hp6 l0 1 (bN (R 6 [.ref l0, .long v2, .int v5] hp6) (fun  hp7 => gR hp7 l0 1 0 (fun v8 => rV hp7 v8 9 (bN (R 179 [.ref v8, .int (s0 + (2 : Int32))] hp7) (fun  hp9 => k30 l0 l1 (l2 + (1 : Int32)) hp9)))))))))))
theorem t_5_83 {X : mjX} {d C S kc ks : Nat} {R : mjR} (hR : mjC R d) (h1 : kc ≤ C) (h2 : ks ≤ S) {k30 : Nat → Int32 → Int32 → mjH → mjU} (hk30 : P_5_30 X (d + 1) C S kc ks k30) : P_5_83 X (d + 1) C S kc ks (b_5_83 R k30) := by
  intro l0 l1 l2 s0 hp q h
  unfold b_5_83 at h
  refine mjq_istore (lo' := [some (.ref l0), some (.int l1), some (.int l2), none, some (.int s0)]) D_5_83 (Nat.le_of_ble_eq_true rfl) rfl ?_
  refine mjr_aload_n (x := l0) D_5_85 rfl ?_
  refine mjr_aload_n (x := l0) D_5_86 rfl ?_
  refine mjq_gR D_5_87 fr_1_9 h (fun v1 h => ?_)
  refine mjr_iload (x := s0) D_5_90 rfl ?_
  refine mjq_vL (As := [.int s0]) (rest := [.ref l0]) D_5_92 mr_1_125 V_170 rfl rfl rfl hR (Nat.le_refl _) h1 h2 h (fun v2 hp3 h => ?_)
  refine mjr_aload_n (x := l0) D_5_95 rfl ?_
  refine mjq_gR D_5_96 fr_1_33 h (fun v4 h => ?_)
  refine mjr_iload_n (x := l1) D_5_99 rfl ?_
  refine mjr_iload_n (x := l2) D_5_100 rfl ?_
  refine mjq_vI (As := [.int l1, .int l2]) (rest := [.long v2, .ref l0]) D_5_101 mr_1_129 V_98 rfl rfl rfl hR (Nat.le_refl _) h1 h2 h (fun v5 hp6 h => ?_)
  refine mjq_vN (As := [.long v2, .int v5]) (rest := []) D_5_104 mr_1_133 V_6 rfl rfl rfl hR (Nat.le_refl _) h1 h2 h (fun  hp7 h => ?_)
  refine mjr_aload_n (x := l0) D_5_107 rfl ?_
  refine mjq_gR D_5_108 fr_1_9 h (fun v8 h => ?_)
  refine mjr_iload (x := s0) D_5_111 rfl ?_
  refine mjq_ic (v := (2 : Int32)) D_5_113 rfl ?_
  refine mjr_iadd D_5_114 ?_
  refine mjq_vN (As := [.int (s0 + (2 : Int32))]) (rest := []) D_5_115 mr_1_89 V_179 rfl rfl rfl hR (Nat.le_refl _) h1 h2 h (fun  hp9 h => ?_)
  refine mjq_iinc (x := l2) (c := (1 : Int32)) (lo' := [some (.ref l0), some (.int l1), some (.int (l2 + (1 : Int32))), none, some (.int s0)]) D_5_118 rfl (Nat.le_of_ble_eq_true rfl) rfl rfl ?_
  refine mjr_goto (tgt := 30) D_5_121 rfl ?_
  exact mjG.fg (lo' := [some (.ref l0), some (.int l1), some (.int (l2 + (1 : Int32))), none, none]) (And.intro rfl (And.intro rfl (And.intro rfl True.intro))) (hk30 _ _ _ _ _ h)
noncomputable def b_5_30 (R : mjR) (k30 : Nat → Int32 → Int32 → mjH → mjU) (l0 : Nat) (l1 : Int32) (l2 : Int32) (hp : mjH) : mjU := gR hp l0 1 4 (fun v1 => gR hp v1 6 6 (fun v2 => aI hp v2 l1 (fun v3 => (if v3 ≤ l2 then some (none, hp) else gR hp l0 1 0 (fun v4 => rV hp v4 9 (bI (R 167 [.ref v4] hp) (fun v5 hp6 => gR hp6 l0 1 0 (fun v7 => rV hp6 v7 9 (bI (R 164 [.ref v7, .int (10 : Int32)] hp6) (fun v8 hp9 => (if v8 = 0 then gR hp9 l0 1 2 (fun v10 => rV hp9 v10 4 (bI (R 61 [.ref v10, .int v5] hp9) (fun v11 hp12 => b_5_83 R k30 l0 l1 l2 ((v5 + (2 : Int32)) + ((2 : Int32) * v11)) hp12))) else b_5_83 R k30 l0 l1 l2 (v5 + (1 : Int32)) hp9)))))))))))
theorem t_5_30 {X : mjX} {d C S kc ks : Nat} {R : mjR} (hR : mjC R d) (h1 : kc ≤ C) (h2 : ks ≤ S) {k30 : Nat → Int32 → Int32 → mjH → mjU} (hk30 : P_5_30 X (d + 1) C S kc ks k30) : P_5_30 X (d + 1) C S kc ks (b_5_30 R k30) := by
  intro l0 l1 l2 hp q h
  unfold b_5_30 at h
  refine mjr_iload_n (x := l2) D_5_30 rfl ?_
  refine mjr_aload_n (x := l0) D_5_31 rfl ?_
  refine mjq_gR D_5_32 fr_1_33 h (fun v1 h => ?_)
  refine mjq_gR D_5_35 fr_1_108 h (fun v2 h => ?_)
  refine mjr_iload_n (x := l1) D_5_38 rfl ?_
  refine mjq_aI D_5_39 h (fun v3 h => ?_)
  refine mjq_icmp_ge (tgt := 124) D_5_40 rfl h (fun h => ?_) (fun h => ?_)
  · exact mjq_nret D_5_124 rfl h1 h2 h
  · refine mjr_aload_n (x := l0) D_5_43 rfl ?_
    refine mjq_gR D_5_44 fr_1_9 h (fun v4 h => ?_)
    refine mjq_vI (As := []) (rest := []) D_5_47 mr_1_111 V_167 rfl rfl rfl hR (Nat.le_refl _) h1 h2 h (fun v5 hp6 h => ?_)
    refine mjq_istore_n (lo' := [some (.ref l0), some (.int l1), some (.int l2), some (.int v5), none]) D_5_50 (Nat.le_of_ble_eq_true rfl) rfl ?_
    refine mjr_aload_n (x := l0) D_5_51 rfl ?_
    refine mjq_gR D_5_52 fr_1_9 h (fun v7 h => ?_)
    refine mjq_bi (v := (10 : Int32)) D_5_55 rfl ?_
    refine mjq_vI (As := [.int (10 : Int32)]) (rest := []) D_5_57 mr_1_115 V_164 rfl rfl rfl hR (Nat.le_refl _) h1 h2 h (fun v8 hp9 h => ?_)
    refine mjq_if_eq (tgt := 69) D_5_60 rfl h (fun h => ?_) (fun h => ?_)
    · refine mjr_iload_n (x := v5) D_5_69 rfl ?_
      refine mjq_ic (v := (2 : Int32)) D_5_70 rfl ?_
      refine mjr_iadd D_5_71 ?_
      refine mjq_ic (v := (2 : Int32)) D_5_72 rfl ?_
      refine mjr_aload_n (x := l0) D_5_73 rfl ?_
      refine mjq_gR D_5_74 fr_1_19 h (fun v10 h => ?_)
      refine mjr_iload_n (x := v5) D_5_77 rfl ?_
      refine mjq_vI (As := [.int v5]) (rest := [.int (2 : Int32), .int (v5 + (2 : Int32))]) D_5_78 mr_1_119 V_61 rfl rfl rfl hR (Nat.le_refl _) h1 h2 h (fun v11 hp12 h => ?_)
      refine mjr_imul D_5_81 ?_
      refine mjr_iadd D_5_82 ?_
      exact mjG.fg (lo' := [some (.ref l0), some (.int l1), some (.int l2), none, none]) (And.intro rfl (And.intro rfl (And.intro rfl True.intro))) ((t_5_83 hR h1 h2 hk30) _ _ _ _ _ _ h)
    · refine mjr_iload_n (x := v5) D_5_63 rfl ?_
      refine mjq_ic (v := (1 : Int32)) D_5_64 rfl ?_
      refine mjr_iadd D_5_65 ?_
      refine mjr_goto (tgt := 83) D_5_66 rfl ?_
      exact mjG.fg (lo' := [some (.ref l0), some (.int l1), some (.int l2), none, none]) (And.intro rfl (And.intro rfl (And.intro rfl True.intro))) ((t_5_83 hR h1 h2 hk30) _ _ _ _ _ _ h)
noncomputable def L_5_30 (R : mjR) (n : Nat) : Nat → Int32 → Int32 → mjH → mjU := Nat.rec (motive := fun _ => Nat → Int32 → Int32 → mjH → mjU) (fun _ _ _ _ => none) (fun _ self => b_5_30 R self) n
theorem T_5_30 {X : mjX} {d C S kc ks : Nat} {R : mjR} (hR : mjC R d) (h1 : kc ≤ C) (h2 : ks ≤ S) (n : Nat) : P_5_30 X (d + 1) C S kc ks (L_5_30 R n) := by
  induction n with
  | zero => intro _ _ _ _ _ h; exact mj_no h
  | succ n ih => exact t_5_30 hR h1 h2 ih
noncomputable def b_5_0 (R : mjR) (l0 : Nat) (l1 : Int32) (hp : mjH) : mjU := pI hp l0 1 11 (0 : Int32) (fun hp1 => pI hp1 l0 1 12 (0 : Int32) (fun hp2 => gR hp2 l0 1 0 (fun v3 => gR hp2 l0 1 1 (fun v4 => gR hp2 v4 8 7 (fun v5 => aI hp2 v5 l1 (fun v6 => rV hp2 v3 9 (bN (R 179 [.ref v3, .int (v6 + (2 : Int32))] hp2) (fun  hp7 => L_5_30 R mjN l0 l1 (0 : Int32) hp7))))))))
theorem t_5_0 {X : mjX} {d C S kc ks : Nat} {R : mjR} (hR : mjC R d) (h1 : kc ≤ C) (h2 : ks ≤ S) : P_5_0 X (d + 1) C S kc ks (b_5_0 R) := by
  intro l0 l1 hp q h
  unfold b_5_0 at h
  refine mjr_aload_n (x := l0) D_5_0 rfl ?_
  refine mjq_ic (v := (0 : Int32)) D_5_1 rfl ?_
  refine mjq_pI D_5_2 fr_1_99 rfl rfl h (fun hp1 h => ?_)
  refine mjr_aload_n (x := l0) D_5_5 rfl ?_
  refine mjq_ic (v := (0 : Int32)) D_5_6 rfl ?_
  refine mjq_pI D_5_7 fr_1_102 rfl rfl h (fun hp2 h => ?_)
  refine mjr_aload_n (x := l0) D_5_10 rfl ?_
  refine mjq_gR D_5_11 fr_1_9 h (fun v3 h => ?_)
  refine mjr_aload_n (x := l0) D_5_14 rfl ?_
  refine mjq_gR D_5_15 fr_1_15 h (fun v4 h => ?_)
  refine mjq_gR D_5_18 fr_1_105 h (fun v5 h => ?_)
  refine mjr_iload_n (x := l1) D_5_21 rfl ?_
  refine mjq_aI D_5_22 h (fun v6 h => ?_)
  refine mjq_ic (v := (2 : Int32)) D_5_23 rfl ?_
  refine mjr_iadd D_5_24 ?_
  refine mjq_vN (As := [.int (v6 + (2 : Int32))]) (rest := []) D_5_25 mr_1_89 V_179 rfl rfl rfl hR (Nat.le_refl _) h1 h2 h (fun  hp7 h => ?_)
  refine mjq_ic (v := (0 : Int32)) D_5_28 rfl ?_
  refine mjq_istore_n (lo' := [some (.ref l0), some (.int l1), some (.int (0 : Int32)), none, none]) D_5_29 (Nat.le_of_ble_eq_true rfl) rfl ?_
  exact (T_5_30 hR h1 h2 mjN) _ _ _ _ _ h
noncomputable def f_5 (R : mjR) (a0 : Nat) (a1 : Int32) (hp : mjH) : mjU := b_5_0 R a0 a1 hp
theorem c_5 {R : mjR} {d : Nat} (hR : mjC R d) {a0 : Nat} {a1 : Int32} {hp : mjH} {q : Option Value × mjH} (h : f_5 R a0 a1 hp = some q) : mjM (d + 1) 0 0 5 [.ref a0, .int a1] hp (mjEq q) :=
  mjM_of Ja_5 (Nat.le_of_ble_eq_true rfl) (mjG.fg (lo' := [some (.ref a0), some (.int a1), none, none, none]) (And.intro rfl (And.intro rfl True.intro)) ((t_5_0 hR (Nat.le_refl 0) (Nat.le_refl 0)) a0 a1 hp q h))
def J_6 : mjI := (⟨"OwnerHeap$Coder", "know", "(JI)V"⟩, 1, prog_3_method_4_code, 4, none, 2, false)
theorem Ja_6 : mjMt 6 = some J_6 := by rfl
theorem D_6_0 : decode J_6.2.2.1 0 = .ok (.aload_n 0, 1) := dzq_42 (by decide +kernel)
theorem D_6_1 : decode J_6.2.2.1 1 = .ok (.getfield 99, 3) := dzq_180 (by decide +kernel)
theorem D_6_4 : decode J_6.2.2.1 4 = .ok (.aload_n 0, 1) := dzq_42 (by decide +kernel)
theorem D_6_5 : decode J_6.2.2.1 5 = .ok (.getfield 41, 3) := dzq_180 (by decide +kernel)
theorem D_6_8 : decode J_6.2.2.1 8 = .ok (.arraylength, 1) := by decide +kernel
theorem D_6_9 : decode J_6.2.2.1 9 = .ok (.if_icmp .ge 56, 3) := dzq_162 (by decide +kernel)
theorem D_6_12 : decode J_6.2.2.1 12 = .ok (.aload_n 0, 1) := dzq_42 (by decide +kernel)
theorem D_6_13 : decode J_6.2.2.1 13 = .ok (.getfield 41, 3) := dzq_180 (by decide +kernel)
theorem D_6_16 : decode J_6.2.2.1 16 = .ok (.aload_n 0, 1) := dzq_42 (by decide +kernel)
theorem D_6_17 : decode J_6.2.2.1 17 = .ok (.getfield 99, 3) := dzq_180 (by decide +kernel)
theorem D_6_20 : decode J_6.2.2.1 20 = .ok (.lload_n 1, 1) := dzq_31 (by decide +kernel)
theorem D_6_21 : decode J_6.2.2.1 21 = .ok (.lastore, 1) := by decide +kernel
theorem D_6_22 : decode J_6.2.2.1 22 = .ok (.aload_n 0, 1) := dzq_42 (by decide +kernel)
theorem D_6_23 : decode J_6.2.2.1 23 = .ok (.getfield 45, 3) := dzq_180 (by decide +kernel)
theorem D_6_26 : decode J_6.2.2.1 26 = .ok (.aload_n 0, 1) := dzq_42 (by decide +kernel)
theorem D_6_27 : decode J_6.2.2.1 27 = .ok (.getfield 99, 3) := dzq_180 (by decide +kernel)
theorem D_6_30 : decode J_6.2.2.1 30 = .ok (.iload_n 3, 1) := dzq_29 (by decide +kernel)
theorem D_6_31 : decode J_6.2.2.1 31 = .ok (.iastore, 1) := dzq_79 (by decide +kernel)
theorem D_6_32 : decode J_6.2.2.1 32 = .ok (.aload_n 0, 1) := dzq_42 (by decide +kernel)
theorem D_6_33 : decode J_6.2.2.1 33 = .ok (.getfield 49, 3) := dzq_180 (by decide +kernel)
theorem D_6_36 : decode J_6.2.2.1 36 = .ok (.aload_n 0, 1) := dzq_42 (by decide +kernel)
theorem D_6_37 : decode J_6.2.2.1 37 = .ok (.getfield 99, 3) := dzq_180 (by decide +kernel)
theorem D_6_40 : decode J_6.2.2.1 40 = .ok (.aload_n 0, 1) := dzq_42 (by decide +kernel)
theorem D_6_41 : decode J_6.2.2.1 41 = .ok (.getfield 102, 3) := dzq_180 (by decide +kernel)
theorem D_6_44 : decode J_6.2.2.1 44 = .ok (.iastore, 1) := dzq_79 (by decide +kernel)
theorem D_6_45 : decode J_6.2.2.1 45 = .ok (.aload_n 0, 1) := dzq_42 (by decide +kernel)
theorem D_6_46 : decode J_6.2.2.1 46 = .ok (.dup, 1) := dzq_89 (by decide +kernel)
theorem D_6_47 : decode J_6.2.2.1 47 = .ok (.getfield 99, 3) := dzq_180 (by decide +kernel)
theorem D_6_50 : decode J_6.2.2.1 50 = .ok (.iconst 1, 1) := dzq_4 (by decide +kernel)
theorem D_6_51 : decode J_6.2.2.1 51 = .ok (.iadd, 1) := dzq_96 (by decide +kernel)
theorem D_6_52 : decode J_6.2.2.1 52 = .ok (.putfield 99, 3) := dzq_181 (by decide +kernel)
theorem D_6_55 : decode J_6.2.2.1 55 = .ok (.aload_n 0, 1) := dzq_42 (by decide +kernel)
theorem D_6_56 : decode J_6.2.2.1 56 = .ok (.dup, 1) := dzq_89 (by decide +kernel)
theorem D_6_57 : decode J_6.2.2.1 57 = .ok (.getfield 102, 3) := dzq_180 (by decide +kernel)
theorem D_6_60 : decode J_6.2.2.1 60 = .ok (.iconst 1, 1) := dzq_4 (by decide +kernel)
theorem D_6_61 : decode J_6.2.2.1 61 = .ok (.iadd, 1) := dzq_96 (by decide +kernel)
theorem D_6_62 : decode J_6.2.2.1 62 = .ok (.putfield 102, 3) := dzq_181 (by decide +kernel)
theorem D_6_65 : decode J_6.2.2.1 65 = .ok (.return_, 1) := dzq_177 (by decide +kernel)
def P_6_0 (X : mjX) (d C S kc ks : Nat) (k : Nat → Int64 → Int32 → mjH → mjU) : Prop := ∀ (l0 : Nat) (l1 : Int64) (l3 : Int32) (hp : mjH) (q : Option Value × mjH), k l0 l1 l3 hp = some q → mjG X d C S J_6 (mjEq q) 0 [some (.ref l0), some (.long l1), none, some (.int l3)] [] hp kc ks
noncomputable def b_6_0 (R : mjR) (l0 : Nat) (l1 : Int64) (l3 : Int32) (hp : mjH) : mjU := gI hp l0 1 11 (fun v1 => gR hp l0 1 8 (fun v2 => aN hp v2 (fun v3 => (if v3 ≤ v1 then some (none, hp) else gR hp l0 1 8 (fun v4 => gI hp l0 1 11 (fun v5 => sL hp v4 v5 l1 (fun hp6 => gR hp6 l0 1 9 (fun v7 => gI hp6 l0 1 11 (fun v8 => sI hp6 v7 v8 l3 (fun hp9 => gR hp9 l0 1 10 (fun v10 => gI hp9 l0 1 11 (fun v11 => gI hp9 l0 1 12 (fun v12 => sI hp9 v10 v11 v12 (fun hp13 => gI hp13 l0 1 11 (fun v14 => pI hp13 l0 1 11 (v14 + (1 : Int32)) (fun hp15 => gI hp15 l0 1 12 (fun v16 => pI hp15 l0 1 12 (v16 + (1 : Int32)) (fun hp17 => some (none, hp17)))))))))))))))))))
theorem t_6_0 {X : mjX} {d C S kc ks : Nat} {R : mjR} (hR : mjC R d) (h1 : kc ≤ C) (h2 : ks ≤ S) : P_6_0 X (d + 1) C S kc ks (b_6_0 R) := by
  intro l0 l1 l3 hp q h
  unfold b_6_0 at h
  refine mjr_aload_n (x := l0) D_6_0 rfl ?_
  refine mjq_gI D_6_1 fr_1_99 h (fun v1 h => ?_)
  refine mjr_aload_n (x := l0) D_6_4 rfl ?_
  refine mjq_gR D_6_5 fr_1_41 h (fun v2 h => ?_)
  refine mjq_aN D_6_8 h (fun v3 h => ?_)
  refine mjq_icmp_ge (tgt := 65) D_6_9 rfl h (fun h => ?_) (fun h => ?_)
  · exact mjq_nret D_6_65 rfl h1 h2 h
  · refine mjr_aload_n (x := l0) D_6_12 rfl ?_
    refine mjq_gR D_6_13 fr_1_41 h (fun v4 h => ?_)
    refine mjr_aload_n (x := l0) D_6_16 rfl ?_
    refine mjq_gI D_6_17 fr_1_99 h (fun v5 h => ?_)
    refine mjr_lload_n (x := l1) D_6_20 rfl ?_
    refine mjq_sL D_6_21 h (fun hp6 h => ?_)
    refine mjr_aload_n (x := l0) D_6_22 rfl ?_
    refine mjq_gR D_6_23 fr_1_45 h (fun v7 h => ?_)
    refine mjr_aload_n (x := l0) D_6_26 rfl ?_
    refine mjq_gI D_6_27 fr_1_99 h (fun v8 h => ?_)
    refine mjr_iload_n (x := l3) D_6_30 rfl ?_
    refine mjq_sI D_6_31 h (fun hp9 h => ?_)
    refine mjr_aload_n (x := l0) D_6_32 rfl ?_
    refine mjq_gR D_6_33 fr_1_49 h (fun v10 h => ?_)
    refine mjr_aload_n (x := l0) D_6_36 rfl ?_
    refine mjq_gI D_6_37 fr_1_99 h (fun v11 h => ?_)
    refine mjr_aload_n (x := l0) D_6_40 rfl ?_
    refine mjq_gI D_6_41 fr_1_102 h (fun v12 h => ?_)
    refine mjq_sI D_6_44 h (fun hp13 h => ?_)
    refine mjr_aload_n (x := l0) D_6_45 rfl ?_
    refine mjr_dup D_6_46 rfl ?_
    refine mjq_gI D_6_47 fr_1_99 h (fun v14 h => ?_)
    refine mjq_ic (v := (1 : Int32)) D_6_50 rfl ?_
    refine mjr_iadd D_6_51 ?_
    refine mjq_pI D_6_52 fr_1_99 rfl rfl h (fun hp15 h => ?_)
    refine mjr_aload_n (x := l0) D_6_55 rfl ?_
    refine mjr_dup D_6_56 rfl ?_
    refine mjq_gI D_6_57 fr_1_102 h (fun v16 h => ?_)
    refine mjq_ic (v := (1 : Int32)) D_6_60 rfl ?_
    refine mjr_iadd D_6_61 ?_
    refine mjq_pI D_6_62 fr_1_102 rfl rfl h (fun hp17 h => ?_)
    exact mjq_nret D_6_65 rfl h1 h2 h
noncomputable def f_6 (R : mjR) (a0 : Nat) (a1 : Int64) (a2 : Int32) (hp : mjH) : mjU := b_6_0 R a0 a1 a2 hp
theorem c_6 {R : mjR} {d : Nat} (hR : mjC R d) {a0 : Nat} {a1 : Int64} {a2 : Int32} {hp : mjH} {q : Option Value × mjH} (h : f_6 R a0 a1 a2 hp = some q) : mjM (d + 1) 0 0 6 [.ref a0, .long a1, .int a2] hp (mjEq q) :=
  mjM_of Ja_6 (Nat.le_of_ble_eq_true rfl) (mjG.fg (lo' := [some (.ref a0), some (.long a1), none, some (.int a2)]) (And.intro rfl (And.intro rfl (And.intro rfl True.intro))) ((t_6_0 hR (Nat.le_refl 0) (Nat.le_refl 0)) a0 a1 a2 hp q h))
def J_7 : mjI := (⟨"OwnerHeap$Coder", "codeBlock", "()V"⟩, 1, prog_3_method_6_code, 3, none, 0, false)
theorem Ja_7 : mjMt 7 = some J_7 := by rfl
theorem D_7_0 : decode J_7.2.2.1 0 = .ok (.aload_n 0, 1) := dzq_42 (by decide +kernel)
theorem D_7_1 : decode J_7.2.2.1 1 = .ok (.getfield 99, 3) := dzq_180 (by decide +kernel)
theorem D_7_4 : decode J_7.2.2.1 4 = .ok (.istore_n 1, 1) := dzq_60 (by decide +kernel)
theorem D_7_5 : decode J_7.2.2.1 5 = .ok (.aload_n 0, 1) := dzq_42 (by decide +kernel)
theorem D_7_6 : decode J_7.2.2.1 6 = .ok (.getfield 9, 3) := dzq_180 (by decide +kernel)
theorem D_7_9 : decode J_7.2.2.1 9 = .ok (.invokevirtual 137, 3) := dzq_182 (by decide +kernel)
theorem D_7_12 : decode J_7.2.2.1 12 = .ok (.iconst 0, 1) := dzq_3 (by decide +kernel)
theorem D_7_13 : decode J_7.2.2.1 13 = .ok (.istore_n 2, 1) := dzq_61 (by decide +kernel)
theorem D_7_14 : decode J_7.2.2.1 14 = .ok (.iload_n 2, 1) := dzq_28 (by decide +kernel)
theorem D_7_15 : decode J_7.2.2.1 15 = .ok (.aload_n 0, 1) := dzq_42 (by decide +kernel)
theorem D_7_16 : decode J_7.2.2.1 16 = .ok (.getfield 9, 3) := dzq_180 (by decide +kernel)
theorem D_7_19 : decode J_7.2.2.1 19 = .ok (.invokevirtual 140, 3) := dzq_182 (by decide +kernel)
theorem D_7_22 : decode J_7.2.2.1 22 = .ok (.if_icmp .ge 35, 3) := dzq_162 (by decide +kernel)
theorem D_7_25 : decode J_7.2.2.1 25 = .ok (.aload_n 0, 1) := dzq_42 (by decide +kernel)
theorem D_7_26 : decode J_7.2.2.1 26 = .ok (.getfield 9, 3) := dzq_180 (by decide +kernel)
theorem D_7_29 : decode J_7.2.2.1 29 = .ok (.bipush 125, 2) := dzq_16 (by decide +kernel)
theorem D_7_31 : decode J_7.2.2.1 31 = .ok (.invokevirtual 115, 3) := dzq_182 (by decide +kernel)
theorem D_7_34 : decode J_7.2.2.1 34 = .ok (.ifCond .ne 23, 3) := dzq_154 (by decide +kernel)
theorem D_7_37 : decode J_7.2.2.1 37 = .ok (.aload_n 0, 1) := dzq_42 (by decide +kernel)
theorem D_7_38 : decode J_7.2.2.1 38 = .ok (.getfield 9, 3) := dzq_180 (by decide +kernel)
theorem D_7_41 : decode J_7.2.2.1 41 = .ok (.invokevirtual 54, 3) := dzq_182 (by decide +kernel)
theorem D_7_44 : decode J_7.2.2.1 44 = .ok (.ifCond .eq 13, 3) := dzq_153 (by decide +kernel)
theorem D_7_47 : decode J_7.2.2.1 47 = .ok (.aload_n 0, 1) := dzq_42 (by decide +kernel)
theorem D_7_48 : decode J_7.2.2.1 48 = .ok (.invokevirtual 142, 3) := dzq_182 (by decide +kernel)
theorem D_7_51 : decode J_7.2.2.1 51 = .ok (.iinc 2 1, 3) := dzq_132 (by decide +kernel)
theorem D_7_54 : decode J_7.2.2.1 54 = .ok (.goto (-40), 3) := dzq_167 (by decide +kernel)
theorem D_7_57 : decode J_7.2.2.1 57 = .ok (.aload_n 0, 1) := dzq_42 (by decide +kernel)
theorem D_7_58 : decode J_7.2.2.1 58 = .ok (.getfield 9, 3) := dzq_180 (by decide +kernel)
theorem D_7_61 : decode J_7.2.2.1 61 = .ok (.invokevirtual 137, 3) := dzq_182 (by decide +kernel)
theorem D_7_64 : decode J_7.2.2.1 64 = .ok (.aload_n 0, 1) := dzq_42 (by decide +kernel)
theorem D_7_65 : decode J_7.2.2.1 65 = .ok (.iload_n 1, 1) := dzq_27 (by decide +kernel)
theorem D_7_66 : decode J_7.2.2.1 66 = .ok (.putfield 99, 3) := dzq_181 (by decide +kernel)
theorem D_7_69 : decode J_7.2.2.1 69 = .ok (.return_, 1) := dzq_177 (by decide +kernel)
def P_7_57 (X : mjX) (d C S kc ks : Nat) (k : Nat → Int32 → mjH → mjU) : Prop := ∀ (l0 : Nat) (l1 : Int32) (hp : mjH) (q : Option Value × mjH), k l0 l1 hp = some q → mjG X d C S J_7 (mjEq q) 57 [some (.ref l0), some (.int l1), none] [] hp kc ks
def P_7_14 (X : mjX) (d C S kc ks : Nat) (k : Nat → Int32 → Int32 → mjH → mjU) : Prop := ∀ (l0 : Nat) (l1 : Int32) (l2 : Int32) (hp : mjH) (q : Option Value × mjH), k l0 l1 l2 hp = some q → mjG X d C S J_7 (mjEq q) 14 [some (.ref l0), some (.int l1), some (.int l2)] [] hp kc ks
def P_7_0 (X : mjX) (d C S kc ks : Nat) (k : Nat → mjH → mjU) : Prop := ∀ (l0 : Nat) (hp : mjH) (q : Option Value × mjH), k l0 hp = some q → mjG X d C S J_7 (mjEq q) 0 [some (.ref l0), none, none] [] hp kc ks
noncomputable def b_7_57 (R : mjR) (l0 : Nat) (l1 : Int32) (hp : mjH) : mjU := gR hp l0 1 0 (fun v1 => rV hp v1 9 (bN (R 166 [.ref v1] hp) (fun  hp2 => pI hp2 l0 1 11 l1 (fun hp3 => some (none, hp3)))))
theorem t_7_57 {X : mjX} {d C S kc ks : Nat} {R : mjR} (hR : mjC R d) (h1 : kc ≤ C) (h2 : ks ≤ S) : P_7_57 X (d + 1) C S kc ks (b_7_57 R) := by
  intro l0 l1 hp q h
  unfold b_7_57 at h
  refine mjr_aload_n (x := l0) D_7_57 rfl ?_
  refine mjq_gR D_7_58 fr_1_9 h (fun v1 h => ?_)
  refine mjq_vN (As := []) (rest := []) D_7_61 mr_1_137 V_166 rfl rfl rfl hR (Nat.le_refl _) h1 h2 h (fun  hp2 h => ?_)
  refine mjr_aload_n (x := l0) D_7_64 rfl ?_
  refine mjr_iload_n (x := l1) D_7_65 rfl ?_
  refine mjq_pI D_7_66 fr_1_99 rfl rfl h (fun hp3 h => ?_)
  exact mjq_nret D_7_69 rfl h1 h2 h
noncomputable def b_7_14 (R : mjR) (k14 : Nat → Int32 → Int32 → mjH → mjU) (l0 : Nat) (l1 : Int32) (l2 : Int32) (hp : mjH) : mjU := gR hp l0 1 0 (fun v1 => rV hp v1 9 (bI (R 171 [.ref v1] hp) (fun v2 hp3 => (if v2 ≤ l2 then b_7_57 R l0 l1 hp3 else gR hp3 l0 1 0 (fun v4 => rV hp3 v4 9 (bI (R 164 [.ref v4, .int (125 : Int32)] hp3) (fun v5 hp6 => (if v5 = 0 then gR hp6 l0 1 0 (fun v7 => rV hp6 v7 9 (bI (R 172 [.ref v7] hp6) (fun v8 hp9 => (if v8 = 0 then b_7_57 R l0 l1 hp9 else rV hp9 l0 1 (bN (R 8 [.ref l0] hp9) (fun  hp10 => k14 l0 l1 (l2 + (1 : Int32)) hp10)))))) else b_7_57 R l0 l1 hp6))))))))
theorem t_7_14 {X : mjX} {d C S kc ks : Nat} {R : mjR} (hR : mjC R d) (h1 : kc ≤ C) (h2 : ks ≤ S) {k14 : Nat → Int32 → Int32 → mjH → mjU} (hk14 : P_7_14 X (d + 1) C S kc ks k14) : P_7_14 X (d + 1) C S kc ks (b_7_14 R k14) := by
  intro l0 l1 l2 hp q h
  unfold b_7_14 at h
  refine mjr_iload_n (x := l2) D_7_14 rfl ?_
  refine mjr_aload_n (x := l0) D_7_15 rfl ?_
  refine mjq_gR D_7_16 fr_1_9 h (fun v1 h => ?_)
  refine mjq_vI (As := []) (rest := [.int l2]) D_7_19 mr_1_140 V_171 rfl rfl rfl hR (Nat.le_refl _) h1 h2 h (fun v2 hp3 h => ?_)
  refine mjq_icmp_ge (tgt := 57) D_7_22 rfl h (fun h => ?_) (fun h => ?_)
  · exact mjG.fg (lo' := [some (.ref l0), some (.int l1), none]) (And.intro rfl (And.intro rfl True.intro)) ((t_7_57 hR h1 h2) _ _ _ _ h)
  · refine mjr_aload_n (x := l0) D_7_25 rfl ?_
    refine mjq_gR D_7_26 fr_1_9 h (fun v4 h => ?_)
    refine mjq_bi (v := (125 : Int32)) D_7_29 rfl ?_
    refine mjq_vI (As := [.int (125 : Int32)]) (rest := []) D_7_31 mr_1_115 V_164 rfl rfl rfl hR (Nat.le_refl _) h1 h2 h (fun v5 hp6 h => ?_)
    refine mjq_if_ne (tgt := 57) D_7_34 rfl h (fun h => ?_) (fun h => ?_)
    · exact mjG.fg (lo' := [some (.ref l0), some (.int l1), none]) (And.intro rfl (And.intro rfl True.intro)) ((t_7_57 hR h1 h2) _ _ _ _ h)
    · refine mjr_aload_n (x := l0) D_7_37 rfl ?_
      refine mjq_gR D_7_38 fr_1_9 h (fun v7 h => ?_)
      refine mjq_vI (As := []) (rest := []) D_7_41 mr_1_54 V_172 rfl rfl rfl hR (Nat.le_refl _) h1 h2 h (fun v8 hp9 h => ?_)
      refine mjq_if_eq (tgt := 57) D_7_44 rfl h (fun h => ?_) (fun h => ?_)
      · exact mjG.fg (lo' := [some (.ref l0), some (.int l1), none]) (And.intro rfl (And.intro rfl True.intro)) ((t_7_57 hR h1 h2) _ _ _ _ h)
      · refine mjr_aload_n (x := l0) D_7_47 rfl ?_
        refine mjq_vN (As := []) (rest := []) D_7_48 mr_1_142 V_8 rfl rfl rfl hR (Nat.le_refl _) h1 h2 h (fun  hp10 h => ?_)
        refine mjq_iinc (x := l2) (c := (1 : Int32)) (lo' := [some (.ref l0), some (.int l1), some (.int (l2 + (1 : Int32)))]) D_7_51 rfl (Nat.le_of_ble_eq_true rfl) rfl rfl ?_
        refine mjr_goto (tgt := 14) D_7_54 rfl ?_
        exact hk14 _ _ _ _ _ h
noncomputable def L_7_14 (R : mjR) (n : Nat) : Nat → Int32 → Int32 → mjH → mjU := Nat.rec (motive := fun _ => Nat → Int32 → Int32 → mjH → mjU) (fun _ _ _ _ => none) (fun _ self => b_7_14 R self) n
theorem T_7_14 {X : mjX} {d C S kc ks : Nat} {R : mjR} (hR : mjC R d) (h1 : kc ≤ C) (h2 : ks ≤ S) (n : Nat) : P_7_14 X (d + 1) C S kc ks (L_7_14 R n) := by
  induction n with
  | zero => intro _ _ _ _ _ h; exact mj_no h
  | succ n ih => exact t_7_14 hR h1 h2 ih
noncomputable def b_7_0 (R : mjR) (l0 : Nat) (hp : mjH) : mjU := gI hp l0 1 11 (fun v1 => gR hp l0 1 0 (fun v2 => rV hp v2 9 (bN (R 166 [.ref v2] hp) (fun  hp3 => L_7_14 R mjN l0 v1 (0 : Int32) hp3))))
theorem t_7_0 {X : mjX} {d C S kc ks : Nat} {R : mjR} (hR : mjC R d) (h1 : kc ≤ C) (h2 : ks ≤ S) : P_7_0 X (d + 1) C S kc ks (b_7_0 R) := by
  intro l0 hp q h
  unfold b_7_0 at h
  refine mjr_aload_n (x := l0) D_7_0 rfl ?_
  refine mjq_gI D_7_1 fr_1_99 h (fun v1 h => ?_)
  refine mjq_istore_n (lo' := [some (.ref l0), some (.int v1), none]) D_7_4 (Nat.le_of_ble_eq_true rfl) rfl ?_
  refine mjr_aload_n (x := l0) D_7_5 rfl ?_
  refine mjq_gR D_7_6 fr_1_9 h (fun v2 h => ?_)
  refine mjq_vN (As := []) (rest := []) D_7_9 mr_1_137 V_166 rfl rfl rfl hR (Nat.le_refl _) h1 h2 h (fun  hp3 h => ?_)
  refine mjq_ic (v := (0 : Int32)) D_7_12 rfl ?_
  refine mjq_istore_n (lo' := [some (.ref l0), some (.int v1), some (.int (0 : Int32))]) D_7_13 (Nat.le_of_ble_eq_true rfl) rfl ?_
  exact (T_7_14 hR h1 h2 mjN) _ _ _ _ _ h
noncomputable def f_7 (R : mjR) (a0 : Nat) (hp : mjH) : mjU := b_7_0 R a0 hp
theorem c_7 {R : mjR} {d : Nat} (hR : mjC R d) {a0 : Nat} {hp : mjH} {q : Option Value × mjH} (h : f_7 R a0 hp = some q) : mjM (d + 1) 0 0 7 [.ref a0] hp (mjEq q) :=
  mjM_of Ja_7 (Nat.le_of_ble_eq_true rfl) (mjG.fg (lo' := [some (.ref a0), none, none]) (And.intro rfl True.intro) ((t_7_0 hR (Nat.le_refl 0) (Nat.le_refl 0)) a0 hp q h))
def J_8 : mjI := (⟨"OwnerHeap$Coder", "codeStatement", "()V"⟩, 1, prog_3_method_7_code, 5, none, 0, false)
theorem Ja_8 : mjMt 8 = some J_8 := by rfl
theorem D_8_0 : decode J_8.2.2.1 0 = .ok (.aload_n 0, 1) := dzq_42 (by decide +kernel)
theorem D_8_1 : decode J_8.2.2.1 1 = .ok (.getfield 9, 3) := dzq_180 (by decide +kernel)
theorem D_8_4 : decode J_8.2.2.1 4 = .ok (.invokevirtual 145, 3) := dzq_182 (by decide +kernel)
theorem D_8_7 : decode J_8.2.2.1 7 = .ok (.istore_n 1, 1) := dzq_60 (by decide +kernel)
theorem D_8_8 : decode J_8.2.2.1 8 = .ok (.iload_n 1, 1) := dzq_27 (by decide +kernel)
theorem D_8_9 : decode J_8.2.2.1 9 = .ok (.bipush 123, 2) := dzq_16 (by decide +kernel)
theorem D_8_11 : decode J_8.2.2.1 11 = .ok (.if_icmp .eq 28, 3) := dzq_159 (by decide +kernel)
theorem D_8_14 : decode J_8.2.2.1 14 = .ok (.aload_n 0, 1) := dzq_42 (by decide +kernel)
theorem D_8_15 : decode J_8.2.2.1 15 = .ok (.getfield 38, 3) := dzq_180 (by decide +kernel)
theorem D_8_18 : decode J_8.2.2.1 18 = .ok (.bipush 10, 2) := dzq_16 (by decide +kernel)
theorem D_8_20 : decode J_8.2.2.1 20 = .ok (.iconst 0, 1) := dzq_3 (by decide +kernel)
theorem D_8_21 : decode J_8.2.2.1 21 = .ok (.aload_n 0, 1) := dzq_42 (by decide +kernel)
theorem D_8_22 : decode J_8.2.2.1 22 = .ok (.getfield 9, 3) := dzq_180 (by decide +kernel)
theorem D_8_25 : decode J_8.2.2.1 25 = .ok (.aload_n 0, 1) := dzq_42 (by decide +kernel)
theorem D_8_26 : decode J_8.2.2.1 26 = .ok (.getfield 9, 3) := dzq_180 (by decide +kernel)
theorem D_8_29 : decode J_8.2.2.1 29 = .ok (.invokevirtual 111, 3) := dzq_182 (by decide +kernel)
theorem D_8_32 : decode J_8.2.2.1 32 = .ok (.invokevirtual 148, 3) := dzq_182 (by decide +kernel)
theorem D_8_35 : decode J_8.2.2.1 35 = .ok (.invokevirtual 95, 3) := dzq_182 (by decide +kernel)
theorem D_8_38 : decode J_8.2.2.1 38 = .ok (.pop, 1) := dzq_87 (by decide +kernel)
theorem D_8_39 : decode J_8.2.2.1 39 = .ok (.iload_n 1, 1) := dzq_27 (by decide +kernel)
theorem D_8_40 : decode J_8.2.2.1 40 = .ok (.lookupswitch 177 #[(2, 132), (10, 132), (15, 75), (17, 82), (18, 89), (19, 112), (123, 68)], 68) := by decide +kernel
theorem D_8_108 : decode J_8.2.2.1 108 = .ok (.aload_n 0, 1) := dzq_42 (by decide +kernel)
theorem D_8_109 : decode J_8.2.2.1 109 = .ok (.invokevirtual 92, 3) := dzq_182 (by decide +kernel)
theorem D_8_112 : decode J_8.2.2.1 112 = .ok (.goto 141, 3) := dzq_167 (by decide +kernel)
theorem D_8_115 : decode J_8.2.2.1 115 = .ok (.aload_n 0, 1) := dzq_42 (by decide +kernel)
theorem D_8_116 : decode J_8.2.2.1 116 = .ok (.invokevirtual 151, 3) := dzq_182 (by decide +kernel)
theorem D_8_119 : decode J_8.2.2.1 119 = .ok (.goto 134, 3) := dzq_167 (by decide +kernel)
theorem D_8_122 : decode J_8.2.2.1 122 = .ok (.aload_n 0, 1) := dzq_42 (by decide +kernel)
theorem D_8_123 : decode J_8.2.2.1 123 = .ok (.invokevirtual 154, 3) := dzq_182 (by decide +kernel)
theorem D_8_126 : decode J_8.2.2.1 126 = .ok (.goto 127, 3) := dzq_167 (by decide +kernel)
theorem D_8_129 : decode J_8.2.2.1 129 = .ok (.aload_n 0, 1) := dzq_42 (by decide +kernel)
theorem D_8_130 : decode J_8.2.2.1 130 = .ok (.aload_n 0, 1) := dzq_42 (by decide +kernel)
theorem D_8_131 : decode J_8.2.2.1 131 = .ok (.getfield 75, 3) := dzq_180 (by decide +kernel)
theorem D_8_134 : decode J_8.2.2.1 134 = .ok (.invokevirtual 157, 3) := dzq_182 (by decide +kernel)
theorem D_8_137 : decode J_8.2.2.1 137 = .ok (.aload_n 0, 1) := dzq_42 (by decide +kernel)
theorem D_8_138 : decode J_8.2.2.1 138 = .ok (.getfield 38, 3) := dzq_180 (by decide +kernel)
theorem D_8_141 : decode J_8.2.2.1 141 = .ok (.bipush 9, 2) := dzq_16 (by decide +kernel)
theorem D_8_143 : decode J_8.2.2.1 143 = .ok (.iconst 0, 1) := dzq_3 (by decide +kernel)
theorem D_8_144 : decode J_8.2.2.1 144 = .ok (.iconst (-1), 1) := dzq_2 (by decide +kernel)
theorem D_8_145 : decode J_8.2.2.1 145 = .ok (.invokevirtual 95, 3) := dzq_182 (by decide +kernel)
theorem D_8_148 : decode J_8.2.2.1 148 = .ok (.pop, 1) := dzq_87 (by decide +kernel)
theorem D_8_149 : decode J_8.2.2.1 149 = .ok (.goto 104, 3) := dzq_167 (by decide +kernel)
theorem D_8_152 : decode J_8.2.2.1 152 = .ok (.aload_n 0, 1) := dzq_42 (by decide +kernel)
theorem D_8_153 : decode J_8.2.2.1 153 = .ok (.iconst (-1), 1) := dzq_2 (by decide +kernel)
theorem D_8_154 : decode J_8.2.2.1 154 = .ok (.invokevirtual 157, 3) := dzq_182 (by decide +kernel)
theorem D_8_157 : decode J_8.2.2.1 157 = .ok (.aload_n 0, 1) := dzq_42 (by decide +kernel)
theorem D_8_158 : decode J_8.2.2.1 158 = .ok (.getfield 38, 3) := dzq_180 (by decide +kernel)
theorem D_8_161 : decode J_8.2.2.1 161 = .ok (.bipush 8, 2) := dzq_16 (by decide +kernel)
theorem D_8_163 : decode J_8.2.2.1 163 = .ok (.iconst 0, 1) := dzq_3 (by decide +kernel)
theorem D_8_164 : decode J_8.2.2.1 164 = .ok (.iconst (-1), 1) := dzq_2 (by decide +kernel)
theorem D_8_165 : decode J_8.2.2.1 165 = .ok (.invokevirtual 95, 3) := dzq_182 (by decide +kernel)
theorem D_8_168 : decode J_8.2.2.1 168 = .ok (.pop, 1) := dzq_87 (by decide +kernel)
theorem D_8_169 : decode J_8.2.2.1 169 = .ok (.goto 84, 3) := dzq_167 (by decide +kernel)
theorem D_8_172 : decode J_8.2.2.1 172 = .ok (.aload_n 0, 1) := dzq_42 (by decide +kernel)
theorem D_8_173 : decode J_8.2.2.1 173 = .ok (.getfield 19, 3) := dzq_180 (by decide +kernel)
theorem D_8_176 : decode J_8.2.2.1 176 = .ok (.aload_n 0, 1) := dzq_42 (by decide +kernel)
theorem D_8_177 : decode J_8.2.2.1 177 = .ok (.getfield 71, 3) := dzq_180 (by decide +kernel)
theorem D_8_180 : decode J_8.2.2.1 180 = .ok (.invokevirtual 160, 3) := dzq_182 (by decide +kernel)
theorem D_8_183 : decode J_8.2.2.1 183 = .ok (.istore_n 2, 1) := dzq_61 (by decide +kernel)
theorem D_8_184 : decode J_8.2.2.1 184 = .ok (.aload_n 0, 1) := dzq_42 (by decide +kernel)
theorem D_8_185 : decode J_8.2.2.1 185 = .ok (.invokevirtual 163, 3) := dzq_182 (by decide +kernel)
theorem D_8_188 : decode J_8.2.2.1 188 = .ok (.lstore_n 3, 1) := by decide +kernel
theorem D_8_189 : decode J_8.2.2.1 189 = .ok (.aload_n 0, 1) := dzq_42 (by decide +kernel)
theorem D_8_190 : decode J_8.2.2.1 190 = .ok (.iload_n 2, 1) := dzq_28 (by decide +kernel)
theorem D_8_191 : decode J_8.2.2.1 191 = .ok (.invokevirtual 157, 3) := dzq_182 (by decide +kernel)
theorem D_8_194 : decode J_8.2.2.1 194 = .ok (.aload_n 0, 1) := dzq_42 (by decide +kernel)
theorem D_8_195 : decode J_8.2.2.1 195 = .ok (.getfield 38, 3) := dzq_180 (by decide +kernel)
theorem D_8_198 : decode J_8.2.2.1 198 = .ok (.iconst 2, 1) := dzq_5 (by decide +kernel)
theorem D_8_199 : decode J_8.2.2.1 199 = .ok (.aload_n 0, 1) := dzq_42 (by decide +kernel)
theorem D_8_200 : decode J_8.2.2.1 200 = .ok (.getfield 102, 3) := dzq_180 (by decide +kernel)
theorem D_8_203 : decode J_8.2.2.1 203 = .ok (.iconst (-1), 1) := dzq_2 (by decide +kernel)
theorem D_8_204 : decode J_8.2.2.1 204 = .ok (.invokevirtual 95, 3) := dzq_182 (by decide +kernel)
theorem D_8_207 : decode J_8.2.2.1 207 = .ok (.pop, 1) := dzq_87 (by decide +kernel)
theorem D_8_208 : decode J_8.2.2.1 208 = .ok (.aload_n 0, 1) := dzq_42 (by decide +kernel)
theorem D_8_209 : decode J_8.2.2.1 209 = .ok (.lload_n 3, 1) := dzq_33 (by decide +kernel)
theorem D_8_210 : decode J_8.2.2.1 210 = .ok (.iload_n 2, 1) := dzq_28 (by decide +kernel)
theorem D_8_211 : decode J_8.2.2.1 211 = .ok (.invokevirtual 133, 3) := dzq_182 (by decide +kernel)
theorem D_8_214 : decode J_8.2.2.1 214 = .ok (.goto 39, 3) := dzq_167 (by decide +kernel)
theorem D_8_217 : decode J_8.2.2.1 217 = .ok (.aload_n 0, 1) := dzq_42 (by decide +kernel)
theorem D_8_218 : decode J_8.2.2.1 218 = .ok (.invokevirtual 167, 3) := dzq_182 (by decide +kernel)
theorem D_8_221 : decode J_8.2.2.1 221 = .ok (.iconst 5, 1) := dzq_8 (by decide +kernel)
theorem D_8_222 : decode J_8.2.2.1 222 = .ok (.if_icmp .eq 11, 3) := dzq_159 (by decide +kernel)
theorem D_8_225 : decode J_8.2.2.1 225 = .ok (.aload_n 0, 1) := dzq_42 (by decide +kernel)
theorem D_8_226 : decode J_8.2.2.1 226 = .ok (.aload_n 0, 1) := dzq_42 (by decide +kernel)
theorem D_8_227 : decode J_8.2.2.1 227 = .ok (.getfield 170, 3) := dzq_180 (by decide +kernel)
theorem D_8_230 : decode J_8.2.2.1 230 = .ok (.invokevirtual 157, 3) := dzq_182 (by decide +kernel)
theorem D_8_233 : decode J_8.2.2.1 233 = .ok (.aload_n 0, 1) := dzq_42 (by decide +kernel)
theorem D_8_234 : decode J_8.2.2.1 234 = .ok (.getfield 38, 3) := dzq_180 (by decide +kernel)
theorem D_8_237 : decode J_8.2.2.1 237 = .ok (.aload_n 0, 1) := dzq_42 (by decide +kernel)
theorem D_8_238 : decode J_8.2.2.1 238 = .ok (.getfield 173, 3) := dzq_180 (by decide +kernel)
theorem D_8_241 : decode J_8.2.2.1 241 = .ok (.aload_n 0, 1) := dzq_42 (by decide +kernel)
theorem D_8_242 : decode J_8.2.2.1 242 = .ok (.getfield 176, 3) := dzq_180 (by decide +kernel)
theorem D_8_245 : decode J_8.2.2.1 245 = .ok (.aload_n 0, 1) := dzq_42 (by decide +kernel)
theorem D_8_246 : decode J_8.2.2.1 246 = .ok (.getfield 179, 3) := dzq_180 (by decide +kernel)
theorem D_8_249 : decode J_8.2.2.1 249 = .ok (.invokevirtual 95, 3) := dzq_182 (by decide +kernel)
theorem D_8_252 : decode J_8.2.2.1 252 = .ok (.pop, 1) := dzq_87 (by decide +kernel)
theorem D_8_253 : decode J_8.2.2.1 253 = .ok (.return_, 1) := dzq_177 (by decide +kernel)
def P_8_172 (X : mjX) (d C S kc ks : Nat) (k : Nat → mjH → mjU) : Prop := ∀ (l0 : Nat) (hp : mjH) (q : Option Value × mjH), k l0 hp = some q → mjG X d C S J_8 (mjEq q) 172 [some (.ref l0), none, none, none, none] [] hp kc ks
def P_8_233 (X : mjX) (d C S kc ks : Nat) (k : Nat → mjH → mjU) : Prop := ∀ (l0 : Nat) (hp : mjH) (q : Option Value × mjH), k l0 hp = some q → mjG X d C S J_8 (mjEq q) 233 [some (.ref l0), none, none, none, none] [] hp kc ks
def P_8_39 (X : mjX) (d C S kc ks : Nat) (k : Nat → Int32 → mjH → mjU) : Prop := ∀ (l0 : Nat) (l1 : Int32) (hp : mjH) (q : Option Value × mjH), k l0 l1 hp = some q → mjG X d C S J_8 (mjEq q) 39 [some (.ref l0), some (.int l1), none, none, none] [] hp kc ks
def P_8_0 (X : mjX) (d C S kc ks : Nat) (k : Nat → mjH → mjU) : Prop := ∀ (l0 : Nat) (hp : mjH) (q : Option Value × mjH), k l0 hp = some q → mjG X d C S J_8 (mjEq q) 0 [some (.ref l0), none, none, none, none] [] hp kc ks
noncomputable def b_8_172 (R : mjR) (l0 : Nat) (hp : mjH) : mjU := gR hp l0 1 2 (fun v1 => gI hp l0 1 6 (fun v2 => rV hp v1 4 (bI (R 68 [.ref v1, .int v2] hp) (fun v3 hp4 => rV hp4 l0 1 (bL (R 33 [.ref l0] hp4) (fun v5 hp6 => rV hp6 l0 1 (bN (R 32 [.ref l0, .int v3] hp6) (fun  hp7 => gR hp7 l0 1 5 (fun v8 => gI hp7 l0 1 12 (fun v9 => rV hp7 v8 0 (bI (R 1 [.ref v8, .int (2 : Int32), .int v9, .int (-1 : Int32)] hp7) (fun v10 hp11 => rV hp11 l0 1 (bN (R 6 [.ref l0, .long v5, .int v3] hp11) (fun  hp12 => some (none, hp12)))))))))))))))
theorem t_8_172 {X : mjX} {d C S kc ks : Nat} {R : mjR} (hR : mjC R d) (h1 : kc ≤ C) (h2 : ks ≤ S) : P_8_172 X (d + 1) C S kc ks (b_8_172 R) := by
  intro l0 hp q h
  unfold b_8_172 at h
  refine mjr_aload_n (x := l0) D_8_172 rfl ?_
  refine mjq_gR D_8_173 fr_1_19 h (fun v1 h => ?_)
  refine mjr_aload_n (x := l0) D_8_176 rfl ?_
  refine mjq_gI D_8_177 fr_1_71 h (fun v2 h => ?_)
  refine mjq_vI (As := [.int v2]) (rest := []) D_8_180 mr_1_160 V_68 rfl rfl rfl hR (Nat.le_refl _) h1 h2 h (fun v3 hp4 h => ?_)
  refine mjq_istore_n (lo' := [some (.ref l0), none, some (.int v3), none, none]) D_8_183 (Nat.le_of_ble_eq_true rfl) rfl ?_
  refine mjr_aload_n (x := l0) D_8_184 rfl ?_
  refine mjq_vL (As := []) (rest := []) D_8_185 mr_1_163 V_33 rfl rfl rfl hR (Nat.le_refl _) h1 h2 h (fun v5 hp6 h => ?_)
  refine mjq_lstore_n (lo' := [some (.ref l0), none, some (.int v3), some (.long v5), none]) D_8_188 (Nat.le_of_ble_eq_true rfl) rfl ?_
  refine mjr_aload_n (x := l0) D_8_189 rfl ?_
  refine mjr_iload_n (x := v3) D_8_190 rfl ?_
  refine mjq_vN (As := [.int v3]) (rest := []) D_8_191 mr_1_157 V_32 rfl rfl rfl hR (Nat.le_refl _) h1 h2 h (fun  hp7 h => ?_)
  refine mjr_aload_n (x := l0) D_8_194 rfl ?_
  refine mjq_gR D_8_195 fr_1_38 h (fun v8 h => ?_)
  refine mjq_ic (v := (2 : Int32)) D_8_198 rfl ?_
  refine mjr_aload_n (x := l0) D_8_199 rfl ?_
  refine mjq_gI D_8_200 fr_1_102 h (fun v9 h => ?_)
  refine mjq_ic (v := (-1 : Int32)) D_8_203 rfl ?_
  refine mjq_vI (As := [.int (2 : Int32), .int v9, .int (-1 : Int32)]) (rest := []) D_8_204 mr_1_95 V_1 rfl rfl rfl hR (Nat.le_refl _) h1 h2 h (fun v10 hp11 h => ?_)
  refine mjr_pop D_8_207 rfl ?_
  refine mjr_aload_n (x := l0) D_8_208 rfl ?_
  refine mjr_lload_n (x := v5) D_8_209 rfl ?_
  refine mjr_iload_n (x := v3) D_8_210 rfl ?_
  refine mjq_vN (As := [.long v5, .int v3]) (rest := []) D_8_211 mr_1_133 V_6 rfl rfl rfl hR (Nat.le_refl _) h1 h2 h (fun  hp12 h => ?_)
  refine mjr_goto (tgt := 253) D_8_214 rfl ?_
  exact mjq_nret D_8_253 rfl h1 h2 h
noncomputable def b_8_233 (R : mjR) (l0 : Nat) (hp : mjH) : mjU := gR hp l0 1 5 (fun v1 => gI hp l0 1 13 (fun v2 => gI hp l0 1 14 (fun v3 => gI hp l0 1 15 (fun v4 => rV hp v1 0 (bI (R 1 [.ref v1, .int v2, .int v3, .int v4] hp) (fun v5 hp6 => some (none, hp6)))))))
theorem t_8_233 {X : mjX} {d C S kc ks : Nat} {R : mjR} (hR : mjC R d) (h1 : kc ≤ C) (h2 : ks ≤ S) : P_8_233 X (d + 1) C S kc ks (b_8_233 R) := by
  intro l0 hp q h
  unfold b_8_233 at h
  refine mjr_aload_n (x := l0) D_8_233 rfl ?_
  refine mjq_gR D_8_234 fr_1_38 h (fun v1 h => ?_)
  refine mjr_aload_n (x := l0) D_8_237 rfl ?_
  refine mjq_gI D_8_238 fr_1_173 h (fun v2 h => ?_)
  refine mjr_aload_n (x := l0) D_8_241 rfl ?_
  refine mjq_gI D_8_242 fr_1_176 h (fun v3 h => ?_)
  refine mjr_aload_n (x := l0) D_8_245 rfl ?_
  refine mjq_gI D_8_246 fr_1_179 h (fun v4 h => ?_)
  refine mjq_vI (As := [.int v2, .int v3, .int v4]) (rest := []) D_8_249 mr_1_95 V_1 rfl rfl rfl hR (Nat.le_refl _) h1 h2 h (fun v5 hp6 h => ?_)
  refine mjr_pop D_8_252 rfl ?_
  exact mjq_nret D_8_253 rfl h1 h2 h
noncomputable def b_8_39 (R : mjR) (l0 : Nat) (l1 : Int32) (hp : mjH) : mjU := (if l1 = (2 : Int32) then b_8_172 R l0 hp else if l1 = (10 : Int32) then b_8_172 R l0 hp else if l1 = (15 : Int32) then rV hp l0 1 (bN (R 9 [.ref l0] hp) (fun  hp4 => some (none, hp4))) else if l1 = (17 : Int32) then rV hp l0 1 (bN (R 31 [.ref l0] hp) (fun  hp6 => some (none, hp6))) else if l1 = (18 : Int32) then gI hp l0 1 7 (fun v8 => rV hp l0 1 (bN (R 32 [.ref l0, .int v8] hp) (fun  hp9 => gR hp9 l0 1 5 (fun v10 => rV hp9 v10 0 (bI (R 1 [.ref v10, .int (9 : Int32), .int (0 : Int32), .int (-1 : Int32)] hp9) (fun v11 hp12 => some (none, hp12))))))) else if l1 = (19 : Int32) then rV hp l0 1 (bN (R 32 [.ref l0, .int (-1 : Int32)] hp) (fun  hp14 => gR hp14 l0 1 5 (fun v15 => rV hp14 v15 0 (bI (R 1 [.ref v15, .int (8 : Int32), .int (0 : Int32), .int (-1 : Int32)] hp14) (fun v16 hp17 => some (none, hp17)))))) else if l1 = (123 : Int32) then rV hp l0 1 (bN (R 7 [.ref l0] hp) (fun  hp19 => some (none, hp19))) else rV hp l0 1 (bI (R 34 [.ref l0] hp) (fun v20 hp21 => (if v20 = (5 : Int32) then b_8_233 R l0 hp21 else gI hp21 l0 1 16 (fun v22 => rV hp21 l0 1 (bN (R 32 [.ref l0, .int v22] hp21) (fun  hp23 => b_8_233 R l0 hp23)))))))
theorem t_8_39 {X : mjX} {d C S kc ks : Nat} {R : mjR} (hR : mjC R d) (h1 : kc ≤ C) (h2 : ks ≤ S) : P_8_39 X (d + 1) C S kc ks (b_8_39 R) := by
  intro l0 l1 hp q h
  unfold b_8_39 at h
  refine mjr_iload_n (x := l1) D_8_39 rfl ?_
  refine mjq_lsw (c := (2 : Int32)) (tgt := 172) D_8_40 rfl (by decide) h (fun h => ?_) (fun n1 h => ?_)
  · exact mjG.fg (lo' := [some (.ref l0), none, none, none, none]) (And.intro rfl True.intro) ((t_8_172 hR h1 h2) _ _ _ h)
  refine mjq_lsw (c := (10 : Int32)) (tgt := 172) D_8_40 rfl (by decide) h (fun h => ?_) (fun n2 h => ?_)
  · exact mjG.fg (lo' := [some (.ref l0), none, none, none, none]) (And.intro rfl True.intro) ((t_8_172 hR h1 h2) _ _ _ h)
  refine mjq_lsw (c := (15 : Int32)) (tgt := 115) D_8_40 rfl (by decide) h (fun h => ?_) (fun n3 h => ?_)
  · refine mjr_aload_n (x := l0) D_8_115 rfl ?_
    refine mjq_vN (As := []) (rest := []) D_8_116 mr_1_151 V_9 rfl rfl rfl hR (Nat.le_refl _) h1 h2 h (fun  hp4 h => ?_)
    refine mjr_goto (tgt := 253) D_8_119 rfl ?_
    exact mjq_nret D_8_253 rfl h1 h2 h
  refine mjq_lsw (c := (17 : Int32)) (tgt := 122) D_8_40 rfl (by decide) h (fun h => ?_) (fun n5 h => ?_)
  · refine mjr_aload_n (x := l0) D_8_122 rfl ?_
    refine mjq_vN (As := []) (rest := []) D_8_123 mr_1_154 V_31 rfl rfl rfl hR (Nat.le_refl _) h1 h2 h (fun  hp6 h => ?_)
    refine mjr_goto (tgt := 253) D_8_126 rfl ?_
    exact mjq_nret D_8_253 rfl h1 h2 h
  refine mjq_lsw (c := (18 : Int32)) (tgt := 129) D_8_40 rfl (by decide) h (fun h => ?_) (fun n7 h => ?_)
  · refine mjr_aload_n (x := l0) D_8_129 rfl ?_
    refine mjr_aload_n (x := l0) D_8_130 rfl ?_
    refine mjq_gI D_8_131 fr_1_75 h (fun v8 h => ?_)
    refine mjq_vN (As := [.int v8]) (rest := []) D_8_134 mr_1_157 V_32 rfl rfl rfl hR (Nat.le_refl _) h1 h2 h (fun  hp9 h => ?_)
    refine mjr_aload_n (x := l0) D_8_137 rfl ?_
    refine mjq_gR D_8_138 fr_1_38 h (fun v10 h => ?_)
    refine mjq_bi (v := (9 : Int32)) D_8_141 rfl ?_
    refine mjq_ic (v := (0 : Int32)) D_8_143 rfl ?_
    refine mjq_ic (v := (-1 : Int32)) D_8_144 rfl ?_
    refine mjq_vI (As := [.int (9 : Int32), .int (0 : Int32), .int (-1 : Int32)]) (rest := []) D_8_145 mr_1_95 V_1 rfl rfl rfl hR (Nat.le_refl _) h1 h2 h (fun v11 hp12 h => ?_)
    refine mjr_pop D_8_148 rfl ?_
    refine mjr_goto (tgt := 253) D_8_149 rfl ?_
    exact mjq_nret D_8_253 rfl h1 h2 h
  refine mjq_lsw (c := (19 : Int32)) (tgt := 152) D_8_40 rfl (by decide) h (fun h => ?_) (fun n13 h => ?_)
  · refine mjr_aload_n (x := l0) D_8_152 rfl ?_
    refine mjq_ic (v := (-1 : Int32)) D_8_153 rfl ?_
    refine mjq_vN (As := [.int (-1 : Int32)]) (rest := []) D_8_154 mr_1_157 V_32 rfl rfl rfl hR (Nat.le_refl _) h1 h2 h (fun  hp14 h => ?_)
    refine mjr_aload_n (x := l0) D_8_157 rfl ?_
    refine mjq_gR D_8_158 fr_1_38 h (fun v15 h => ?_)
    refine mjq_bi (v := (8 : Int32)) D_8_161 rfl ?_
    refine mjq_ic (v := (0 : Int32)) D_8_163 rfl ?_
    refine mjq_ic (v := (-1 : Int32)) D_8_164 rfl ?_
    refine mjq_vI (As := [.int (8 : Int32), .int (0 : Int32), .int (-1 : Int32)]) (rest := []) D_8_165 mr_1_95 V_1 rfl rfl rfl hR (Nat.le_refl _) h1 h2 h (fun v16 hp17 h => ?_)
    refine mjr_pop D_8_168 rfl ?_
    refine mjr_goto (tgt := 253) D_8_169 rfl ?_
    exact mjq_nret D_8_253 rfl h1 h2 h
  refine mjq_lsw (c := (123 : Int32)) (tgt := 108) D_8_40 rfl (by decide) h (fun h => ?_) (fun n18 h => ?_)
  · refine mjr_aload_n (x := l0) D_8_108 rfl ?_
    refine mjq_vN (As := []) (rest := []) D_8_109 mr_1_92 V_7 rfl rfl rfl hR (Nat.le_refl _) h1 h2 h (fun  hp19 h => ?_)
    refine mjr_goto (tgt := 253) D_8_112 rfl ?_
    exact mjq_nret D_8_253 rfl h1 h2 h
  refine mjq_lswD (tgt := 217) [(2 : Int32), (10 : Int32), (15 : Int32), (17 : Int32), (18 : Int32), (19 : Int32), (123 : Int32)] D_8_40 rfl (by decide) (mj_all1 n1 (mj_all1 n2 (mj_all1 n3 (mj_all1 n5 (mj_all1 n7 (mj_all1 n13 (mj_all1 n18 mj_all0))))))) rfl ?_
  refine mjr_aload_n (x := l0) D_8_217 rfl ?_
  refine mjq_vI (As := []) (rest := []) D_8_218 mr_1_167 V_34 rfl rfl rfl hR (Nat.le_refl _) h1 h2 h (fun v20 hp21 h => ?_)
  refine mjq_ic (v := (5 : Int32)) D_8_221 rfl ?_
  refine mjq_icmp_eq (tgt := 233) D_8_222 rfl h (fun h => ?_) (fun h => ?_)
  · exact mjG.fg (lo' := [some (.ref l0), none, none, none, none]) (And.intro rfl True.intro) ((t_8_233 hR h1 h2) _ _ _ h)
  · refine mjr_aload_n (x := l0) D_8_225 rfl ?_
    refine mjr_aload_n (x := l0) D_8_226 rfl ?_
    refine mjq_gI D_8_227 fr_1_170 h (fun v22 h => ?_)
    refine mjq_vN (As := [.int v22]) (rest := []) D_8_230 mr_1_157 V_32 rfl rfl rfl hR (Nat.le_refl _) h1 h2 h (fun  hp23 h => ?_)
    exact mjG.fg (lo' := [some (.ref l0), none, none, none, none]) (And.intro rfl True.intro) ((t_8_233 hR h1 h2) _ _ _ h)
noncomputable def b_8_0 (R : mjR) (l0 : Nat) (hp : mjH) : mjU := gR hp l0 1 0 (fun v1 => rV hp v1 9 (bI (R 173 [.ref v1] hp) (fun v2 hp3 => (if v2 = (123 : Int32) then b_8_39 R l0 v2 hp3 else gR hp3 l0 1 5 (fun v4 => gR hp3 l0 1 0 (fun v5 => gR hp3 l0 1 0 (fun v6 => rV hp3 v6 9 (bI (R 167 [.ref v6] hp3) (fun v7 hp8 => rV hp8 v5 9 (bI (R 168 [.ref v5, .int v7] hp8) (fun v9 hp10 => rV hp10 v4 0 (bI (R 1 [.ref v4, .int (10 : Int32), .int (0 : Int32), .int v9] hp10) (fun v11 hp12 => b_8_39 R l0 v2 hp12)))))))))))))
theorem t_8_0 {X : mjX} {d C S kc ks : Nat} {R : mjR} (hR : mjC R d) (h1 : kc ≤ C) (h2 : ks ≤ S) : P_8_0 X (d + 1) C S kc ks (b_8_0 R) := by
  intro l0 hp q h
  unfold b_8_0 at h
  refine mjr_aload_n (x := l0) D_8_0 rfl ?_
  refine mjq_gR D_8_1 fr_1_9 h (fun v1 h => ?_)
  refine mjq_vI (As := []) (rest := []) D_8_4 mr_1_145 V_173 rfl rfl rfl hR (Nat.le_refl _) h1 h2 h (fun v2 hp3 h => ?_)
  refine mjq_istore_n (lo' := [some (.ref l0), some (.int v2), none, none, none]) D_8_7 (Nat.le_of_ble_eq_true rfl) rfl ?_
  refine mjr_iload_n (x := v2) D_8_8 rfl ?_
  refine mjq_bi (v := (123 : Int32)) D_8_9 rfl ?_
  refine mjq_icmp_eq (tgt := 39) D_8_11 rfl h (fun h => ?_) (fun h => ?_)
  · exact (t_8_39 hR h1 h2) _ _ _ _ h
  · refine mjr_aload_n (x := l0) D_8_14 rfl ?_
    refine mjq_gR D_8_15 fr_1_38 h (fun v4 h => ?_)
    refine mjq_bi (v := (10 : Int32)) D_8_18 rfl ?_
    refine mjq_ic (v := (0 : Int32)) D_8_20 rfl ?_
    refine mjr_aload_n (x := l0) D_8_21 rfl ?_
    refine mjq_gR D_8_22 fr_1_9 h (fun v5 h => ?_)
    refine mjr_aload_n (x := l0) D_8_25 rfl ?_
    refine mjq_gR D_8_26 fr_1_9 h (fun v6 h => ?_)
    refine mjq_vI (As := []) (rest := [.ref v5, .int (0 : Int32), .int (10 : Int32), .ref v4]) D_8_29 mr_1_111 V_167 rfl rfl rfl hR (Nat.le_refl _) h1 h2 h (fun v7 hp8 h => ?_)
    refine mjq_vI (As := [.int v7]) (rest := [.int (0 : Int32), .int (10 : Int32), .ref v4]) D_8_32 mr_1_148 V_168 rfl rfl rfl hR (Nat.le_refl _) h1 h2 h (fun v9 hp10 h => ?_)
    refine mjq_vI (As := [.int (10 : Int32), .int (0 : Int32), .int v9]) (rest := []) D_8_35 mr_1_95 V_1 rfl rfl rfl hR (Nat.le_refl _) h1 h2 h (fun v11 hp12 h => ?_)
    refine mjr_pop D_8_38 rfl ?_
    exact (t_8_39 hR h1 h2) _ _ _ _ h
noncomputable def f_8 (R : mjR) (a0 : Nat) (hp : mjH) : mjU := b_8_0 R a0 hp
theorem c_8 {R : mjR} {d : Nat} (hR : mjC R d) {a0 : Nat} {hp : mjH} {q : Option Value × mjH} (h : f_8 R a0 hp = some q) : mjM (d + 1) 0 0 8 [.ref a0] hp (mjEq q) :=
  mjM_of Ja_8 (Nat.le_of_ble_eq_true rfl) (mjG.fg (lo' := [some (.ref a0), none, none, none, none]) (And.intro rfl True.intro) ((t_8_0 hR (Nat.le_refl 0) (Nat.le_refl 0)) a0 hp q h))
def J_9 : mjI := (⟨"OwnerHeap$Coder", "codeIf", "()V"⟩, 1, prog_3_method_14_code, 3, none, 0, false)
theorem Ja_9 : mjMt 9 = some J_9 := by rfl
theorem D_9_0 : decode J_9.2.2.1 0 = .ok (.aload_n 0, 1) := dzq_42 (by decide +kernel)
theorem D_9_1 : decode J_9.2.2.1 1 = .ok (.invokevirtual 216, 3) := dzq_182 (by decide +kernel)
theorem D_9_4 : decode J_9.2.2.1 4 = .ok (.istore_n 1, 1) := dzq_60 (by decide +kernel)
theorem D_9_5 : decode J_9.2.2.1 5 = .ok (.aload_n 0, 1) := dzq_42 (by decide +kernel)
theorem D_9_6 : decode J_9.2.2.1 6 = .ok (.invokevirtual 92, 3) := dzq_182 (by decide +kernel)
theorem D_9_9 : decode J_9.2.2.1 9 = .ok (.aload_n 0, 1) := dzq_42 (by decide +kernel)
theorem D_9_10 : decode J_9.2.2.1 10 = .ok (.getfield 9, 3) := dzq_180 (by decide +kernel)
theorem D_9_13 : decode J_9.2.2.1 13 = .ok (.bipush 16, 2) := dzq_16 (by decide +kernel)
theorem D_9_15 : decode J_9.2.2.1 15 = .ok (.invokevirtual 115, 3) := dzq_182 (by decide +kernel)
theorem D_9_18 : decode J_9.2.2.1 18 = .ok (.ifCond .ne 12, 3) := dzq_154 (by decide +kernel)
theorem D_9_21 : decode J_9.2.2.1 21 = .ok (.aload_n 0, 1) := dzq_42 (by decide +kernel)
theorem D_9_22 : decode J_9.2.2.1 22 = .ok (.getfield 38, 3) := dzq_180 (by decide +kernel)
theorem D_9_25 : decode J_9.2.2.1 25 = .ok (.iload_n 1, 1) := dzq_27 (by decide +kernel)
theorem D_9_26 : decode J_9.2.2.1 26 = .ok (.invokevirtual 219, 3) := dzq_182 (by decide +kernel)
theorem D_9_29 : decode J_9.2.2.1 29 = .ok (.return_, 1) := dzq_177 (by decide +kernel)
theorem D_9_30 : decode J_9.2.2.1 30 = .ok (.aload_n 0, 1) := dzq_42 (by decide +kernel)
theorem D_9_31 : decode J_9.2.2.1 31 = .ok (.getfield 9, 3) := dzq_180 (by decide +kernel)
theorem D_9_34 : decode J_9.2.2.1 34 = .ok (.invokevirtual 137, 3) := dzq_182 (by decide +kernel)
theorem D_9_37 : decode J_9.2.2.1 37 = .ok (.aload_n 0, 1) := dzq_42 (by decide +kernel)
theorem D_9_38 : decode J_9.2.2.1 38 = .ok (.getfield 38, 3) := dzq_180 (by decide +kernel)
theorem D_9_41 : decode J_9.2.2.1 41 = .ok (.bipush 6, 2) := dzq_16 (by decide +kernel)
theorem D_9_43 : decode J_9.2.2.1 43 = .ok (.iconst 0, 1) := dzq_3 (by decide +kernel)
theorem D_9_44 : decode J_9.2.2.1 44 = .ok (.iconst (-1), 1) := dzq_2 (by decide +kernel)
theorem D_9_45 : decode J_9.2.2.1 45 = .ok (.invokevirtual 95, 3) := dzq_182 (by decide +kernel)
theorem D_9_48 : decode J_9.2.2.1 48 = .ok (.istore_n 2, 1) := dzq_61 (by decide +kernel)
theorem D_9_49 : decode J_9.2.2.1 49 = .ok (.aload_n 0, 1) := dzq_42 (by decide +kernel)
theorem D_9_50 : decode J_9.2.2.1 50 = .ok (.getfield 38, 3) := dzq_180 (by decide +kernel)
theorem D_9_53 : decode J_9.2.2.1 53 = .ok (.iload_n 1, 1) := dzq_27 (by decide +kernel)
theorem D_9_54 : decode J_9.2.2.1 54 = .ok (.invokevirtual 219, 3) := dzq_182 (by decide +kernel)
theorem D_9_57 : decode J_9.2.2.1 57 = .ok (.aload_n 0, 1) := dzq_42 (by decide +kernel)
theorem D_9_58 : decode J_9.2.2.1 58 = .ok (.invokevirtual 92, 3) := dzq_182 (by decide +kernel)
theorem D_9_61 : decode J_9.2.2.1 61 = .ok (.aload_n 0, 1) := dzq_42 (by decide +kernel)
theorem D_9_62 : decode J_9.2.2.1 62 = .ok (.getfield 38, 3) := dzq_180 (by decide +kernel)
theorem D_9_65 : decode J_9.2.2.1 65 = .ok (.iload_n 2, 1) := dzq_28 (by decide +kernel)
theorem D_9_66 : decode J_9.2.2.1 66 = .ok (.invokevirtual 219, 3) := dzq_182 (by decide +kernel)
theorem D_9_69 : decode J_9.2.2.1 69 = .ok (.return_, 1) := dzq_177 (by decide +kernel)
def P_9_0 (X : mjX) (d C S kc ks : Nat) (k : Nat → mjH → mjU) : Prop := ∀ (l0 : Nat) (hp : mjH) (q : Option Value × mjH), k l0 hp = some q → mjG X d C S J_9 (mjEq q) 0 [some (.ref l0), none, none] [] hp kc ks
noncomputable def b_9_0 (R : mjR) (l0 : Nat) (hp : mjH) : mjU := rV hp l0 1 (bI (R 10 [.ref l0] hp) (fun v1 hp2 => rV hp2 l0 1 (bN (R 7 [.ref l0] hp2) (fun  hp3 => gR hp3 l0 1 0 (fun v4 => rV hp3 v4 9 (bI (R 164 [.ref v4, .int (16 : Int32)] hp3) (fun v5 hp6 => (if v5 = 0 then gR hp6 l0 1 5 (fun v17 => rV hp6 v17 0 (bN (R 2 [.ref v17, .int v1] hp6) (fun  hp18 => some (none, hp18)))) else gR hp6 l0 1 0 (fun v7 => rV hp6 v7 9 (bN (R 166 [.ref v7] hp6) (fun  hp8 => gR hp8 l0 1 5 (fun v9 => rV hp8 v9 0 (bI (R 1 [.ref v9, .int (6 : Int32), .int (0 : Int32), .int (-1 : Int32)] hp8) (fun v10 hp11 => gR hp11 l0 1 5 (fun v12 => rV hp11 v12 0 (bN (R 2 [.ref v12, .int v1] hp11) (fun  hp13 => rV hp13 l0 1 (bN (R 7 [.ref l0] hp13) (fun  hp14 => gR hp14 l0 1 5 (fun v15 => rV hp14 v15 0 (bN (R 2 [.ref v15, .int v10] hp14) (fun  hp16 => some (none, hp16)))))))))))))))))))))))
theorem t_9_0 {X : mjX} {d C S kc ks : Nat} {R : mjR} (hR : mjC R d) (h1 : kc ≤ C) (h2 : ks ≤ S) : P_9_0 X (d + 1) C S kc ks (b_9_0 R) := by
  intro l0 hp q h
  unfold b_9_0 at h
  refine mjr_aload_n (x := l0) D_9_0 rfl ?_
  refine mjq_vI (As := []) (rest := []) D_9_1 mr_1_216 V_10 rfl rfl rfl hR (Nat.le_refl _) h1 h2 h (fun v1 hp2 h => ?_)
  refine mjq_istore_n (lo' := [some (.ref l0), some (.int v1), none]) D_9_4 (Nat.le_of_ble_eq_true rfl) rfl ?_
  refine mjr_aload_n (x := l0) D_9_5 rfl ?_
  refine mjq_vN (As := []) (rest := []) D_9_6 mr_1_92 V_7 rfl rfl rfl hR (Nat.le_refl _) h1 h2 h (fun  hp3 h => ?_)
  refine mjr_aload_n (x := l0) D_9_9 rfl ?_
  refine mjq_gR D_9_10 fr_1_9 h (fun v4 h => ?_)
  refine mjq_bi (v := (16 : Int32)) D_9_13 rfl ?_
  refine mjq_vI (As := [.int (16 : Int32)]) (rest := []) D_9_15 mr_1_115 V_164 rfl rfl rfl hR (Nat.le_refl _) h1 h2 h (fun v5 hp6 h => ?_)
  refine mjq_if_ne (tgt := 30) D_9_18 rfl h (fun h => ?_) (fun h => ?_)
  · refine mjr_aload_n (x := l0) D_9_30 rfl ?_
    refine mjq_gR D_9_31 fr_1_9 h (fun v7 h => ?_)
    refine mjq_vN (As := []) (rest := []) D_9_34 mr_1_137 V_166 rfl rfl rfl hR (Nat.le_refl _) h1 h2 h (fun  hp8 h => ?_)
    refine mjr_aload_n (x := l0) D_9_37 rfl ?_
    refine mjq_gR D_9_38 fr_1_38 h (fun v9 h => ?_)
    refine mjq_bi (v := (6 : Int32)) D_9_41 rfl ?_
    refine mjq_ic (v := (0 : Int32)) D_9_43 rfl ?_
    refine mjq_ic (v := (-1 : Int32)) D_9_44 rfl ?_
    refine mjq_vI (As := [.int (6 : Int32), .int (0 : Int32), .int (-1 : Int32)]) (rest := []) D_9_45 mr_1_95 V_1 rfl rfl rfl hR (Nat.le_refl _) h1 h2 h (fun v10 hp11 h => ?_)
    refine mjq_istore_n (lo' := [some (.ref l0), some (.int v1), some (.int v10)]) D_9_48 (Nat.le_of_ble_eq_true rfl) rfl ?_
    refine mjr_aload_n (x := l0) D_9_49 rfl ?_
    refine mjq_gR D_9_50 fr_1_38 h (fun v12 h => ?_)
    refine mjr_iload_n (x := v1) D_9_53 rfl ?_
    refine mjq_vN (As := [.int v1]) (rest := []) D_9_54 mr_1_219 V_2 rfl rfl rfl hR (Nat.le_refl _) h1 h2 h (fun  hp13 h => ?_)
    refine mjr_aload_n (x := l0) D_9_57 rfl ?_
    refine mjq_vN (As := []) (rest := []) D_9_58 mr_1_92 V_7 rfl rfl rfl hR (Nat.le_refl _) h1 h2 h (fun  hp14 h => ?_)
    refine mjr_aload_n (x := l0) D_9_61 rfl ?_
    refine mjq_gR D_9_62 fr_1_38 h (fun v15 h => ?_)
    refine mjr_iload_n (x := v10) D_9_65 rfl ?_
    refine mjq_vN (As := [.int v10]) (rest := []) D_9_66 mr_1_219 V_2 rfl rfl rfl hR (Nat.le_refl _) h1 h2 h (fun  hp16 h => ?_)
    exact mjq_nret D_9_69 rfl h1 h2 h
  · refine mjr_aload_n (x := l0) D_9_21 rfl ?_
    refine mjq_gR D_9_22 fr_1_38 h (fun v17 h => ?_)
    refine mjr_iload_n (x := v1) D_9_25 rfl ?_
    refine mjq_vN (As := [.int v1]) (rest := []) D_9_26 mr_1_219 V_2 rfl rfl rfl hR (Nat.le_refl _) h1 h2 h (fun  hp18 h => ?_)
    exact mjq_nret D_9_29 rfl h1 h2 h
noncomputable def f_9 (R : mjR) (a0 : Nat) (hp : mjH) : mjU := b_9_0 R a0 hp
theorem c_9 {R : mjR} {d : Nat} (hR : mjC R d) {a0 : Nat} {hp : mjH} {q : Option Value × mjH} (h : f_9 R a0 hp = some q) : mjM (d + 1) 0 0 9 [.ref a0] hp (mjEq q) :=
  mjM_of Ja_9 (Nat.le_of_ble_eq_true rfl) (mjG.fg (lo' := [some (.ref a0), none, none]) (And.intro rfl True.intro) ((t_9_0 hR (Nat.le_refl 0) (Nat.le_refl 0)) a0 hp q h))
def J_10 : mjI := (⟨"OwnerHeap$Coder", "codeCondition", "()I"⟩, 1, prog_3_method_16_code, 2, (some .int), 0, false)
theorem Ja_10 : mjMt 10 = some J_10 := by rfl
theorem D_10_0 : decode J_10.2.2.1 0 = .ok (.aload_n 0, 1) := dzq_42 (by decide +kernel)
theorem D_10_1 : decode J_10.2.2.1 1 = .ok (.getfield 9, 3) := dzq_180 (by decide +kernel)
theorem D_10_4 : decode J_10.2.2.1 4 = .ok (.invokevirtual 111, 3) := dzq_182 (by decide +kernel)
theorem D_10_7 : decode J_10.2.2.1 7 = .ok (.istore_n 1, 1) := dzq_60 (by decide +kernel)
theorem D_10_8 : decode J_10.2.2.1 8 = .ok (.aload_n 0, 1) := dzq_42 (by decide +kernel)
theorem D_10_9 : decode J_10.2.2.1 9 = .ok (.getfield 9, 3) := dzq_180 (by decide +kernel)
theorem D_10_12 : decode J_10.2.2.1 12 = .ok (.invokevirtual 137, 3) := dzq_182 (by decide +kernel)
theorem D_10_15 : decode J_10.2.2.1 15 = .ok (.aload_n 0, 1) := dzq_42 (by decide +kernel)
theorem D_10_16 : decode J_10.2.2.1 16 = .ok (.getfield 9, 3) := dzq_180 (by decide +kernel)
theorem D_10_19 : decode J_10.2.2.1 19 = .ok (.invokevirtual 137, 3) := dzq_182 (by decide +kernel)
theorem D_10_22 : decode J_10.2.2.1 22 = .ok (.aload_n 0, 1) := dzq_42 (by decide +kernel)
theorem D_10_23 : decode J_10.2.2.1 23 = .ok (.aload_n 0, 1) := dzq_42 (by decide +kernel)
theorem D_10_24 : decode J_10.2.2.1 24 = .ok (.invokevirtual 189, 3) := dzq_182 (by decide +kernel)
theorem D_10_27 : decode J_10.2.2.1 27 = .ok (.iload_n 1, 1) := dzq_27 (by decide +kernel)
theorem D_10_28 : decode J_10.2.2.1 28 = .ok (.invokevirtual 222, 3) := dzq_182 (by decide +kernel)
theorem D_10_31 : decode J_10.2.2.1 31 = .ok (.aload_n 0, 1) := dzq_42 (by decide +kernel)
theorem D_10_32 : decode J_10.2.2.1 32 = .ok (.getfield 9, 3) := dzq_180 (by decide +kernel)
theorem D_10_35 : decode J_10.2.2.1 35 = .ok (.invokevirtual 137, 3) := dzq_182 (by decide +kernel)
theorem D_10_38 : decode J_10.2.2.1 38 = .ok (.aload_n 0, 1) := dzq_42 (by decide +kernel)
theorem D_10_39 : decode J_10.2.2.1 39 = .ok (.getfield 38, 3) := dzq_180 (by decide +kernel)
theorem D_10_42 : decode J_10.2.2.1 42 = .ok (.bipush 7, 2) := dzq_16 (by decide +kernel)
theorem D_10_44 : decode J_10.2.2.1 44 = .ok (.iconst 0, 1) := dzq_3 (by decide +kernel)
theorem D_10_45 : decode J_10.2.2.1 45 = .ok (.iconst (-1), 1) := dzq_2 (by decide +kernel)
theorem D_10_46 : decode J_10.2.2.1 46 = .ok (.invokevirtual 95, 3) := dzq_182 (by decide +kernel)
theorem D_10_49 : decode J_10.2.2.1 49 = .ok (.ireturn, 1) := dzq_172 (by decide +kernel)
def P_10_0 (X : mjX) (d C S kc ks : Nat) (k : Nat → mjH → mjU) : Prop := ∀ (l0 : Nat) (hp : mjH) (q : Option Value × mjH), k l0 hp = some q → mjG X d C S J_10 (mjEq q) 0 [some (.ref l0), none] [] hp kc ks
noncomputable def b_10_0 (R : mjR) (l0 : Nat) (hp : mjH) : mjU := gR hp l0 1 0 (fun v1 => rV hp v1 9 (bI (R 167 [.ref v1] hp) (fun v2 hp3 => gR hp3 l0 1 0 (fun v4 => rV hp3 v4 9 (bN (R 166 [.ref v4] hp3) (fun  hp5 => gR hp5 l0 1 0 (fun v6 => rV hp5 v6 9 (bN (R 166 [.ref v6] hp5) (fun  hp7 => rV hp7 l0 1 (bI (R 11 [.ref l0] hp7) (fun v8 hp9 => rV hp9 l0 1 (bN (R 27 [.ref l0, .int v8, .int v2] hp9) (fun  hp10 => gR hp10 l0 1 0 (fun v11 => rV hp10 v11 9 (bN (R 166 [.ref v11] hp10) (fun  hp12 => gR hp12 l0 1 5 (fun v13 => rV hp12 v13 0 (bI (R 1 [.ref v13, .int (7 : Int32), .int (0 : Int32), .int (-1 : Int32)] hp12) (fun v14 hp15 => some (some (.int v14), hp15))))))))))))))))))))
theorem t_10_0 {X : mjX} {d C S kc ks : Nat} {R : mjR} (hR : mjC R d) (h1 : kc ≤ C) (h2 : ks ≤ S) : P_10_0 X (d + 1) C S kc ks (b_10_0 R) := by
  intro l0 hp q h
  unfold b_10_0 at h
  refine mjr_aload_n (x := l0) D_10_0 rfl ?_
  refine mjq_gR D_10_1 fr_1_9 h (fun v1 h => ?_)
  refine mjq_vI (As := []) (rest := []) D_10_4 mr_1_111 V_167 rfl rfl rfl hR (Nat.le_refl _) h1 h2 h (fun v2 hp3 h => ?_)
  refine mjq_istore_n (lo' := [some (.ref l0), some (.int v2)]) D_10_7 (Nat.le_of_ble_eq_true rfl) rfl ?_
  refine mjr_aload_n (x := l0) D_10_8 rfl ?_
  refine mjq_gR D_10_9 fr_1_9 h (fun v4 h => ?_)
  refine mjq_vN (As := []) (rest := []) D_10_12 mr_1_137 V_166 rfl rfl rfl hR (Nat.le_refl _) h1 h2 h (fun  hp5 h => ?_)
  refine mjr_aload_n (x := l0) D_10_15 rfl ?_
  refine mjq_gR D_10_16 fr_1_9 h (fun v6 h => ?_)
  refine mjq_vN (As := []) (rest := []) D_10_19 mr_1_137 V_166 rfl rfl rfl hR (Nat.le_refl _) h1 h2 h (fun  hp7 h => ?_)
  refine mjr_aload_n (x := l0) D_10_22 rfl ?_
  refine mjr_aload_n (x := l0) D_10_23 rfl ?_
  refine mjq_vI (As := []) (rest := [.ref l0]) D_10_24 mr_1_189 V_11 rfl rfl rfl hR (Nat.le_refl _) h1 h2 h (fun v8 hp9 h => ?_)
  refine mjr_iload_n (x := v2) D_10_27 rfl ?_
  refine mjq_vN (As := [.int v8, .int v2]) (rest := []) D_10_28 mr_1_222 V_27 rfl rfl rfl hR (Nat.le_refl _) h1 h2 h (fun  hp10 h => ?_)
  refine mjr_aload_n (x := l0) D_10_31 rfl ?_
  refine mjq_gR D_10_32 fr_1_9 h (fun v11 h => ?_)
  refine mjq_vN (As := []) (rest := []) D_10_35 mr_1_137 V_166 rfl rfl rfl hR (Nat.le_refl _) h1 h2 h (fun  hp12 h => ?_)
  refine mjr_aload_n (x := l0) D_10_38 rfl ?_
  refine mjq_gR D_10_39 fr_1_38 h (fun v13 h => ?_)
  refine mjq_bi (v := (7 : Int32)) D_10_42 rfl ?_
  refine mjq_ic (v := (0 : Int32)) D_10_44 rfl ?_
  refine mjq_ic (v := (-1 : Int32)) D_10_45 rfl ?_
  refine mjq_vI (As := [.int (7 : Int32), .int (0 : Int32), .int (-1 : Int32)]) (rest := []) D_10_46 mr_1_95 V_1 rfl rfl rfl hR (Nat.le_refl _) h1 h2 h (fun v14 hp15 h => ?_)
  exact mjq_ret D_10_49 rfl h1 h2 h
noncomputable def f_10 (R : mjR) (a0 : Nat) (hp : mjH) : mjU := b_10_0 R a0 hp
theorem c_10 {R : mjR} {d : Nat} (hR : mjC R d) {a0 : Nat} {hp : mjH} {q : Option Value × mjH} (h : f_10 R a0 hp = some q) : mjM (d + 1) 0 0 10 [.ref a0] hp (mjEq q) :=
  mjM_of Ja_10 (Nat.le_of_ble_eq_true rfl) (mjG.fg (lo' := [some (.ref a0), none]) (And.intro rfl True.intro) ((t_10_0 hR (Nat.le_refl 0) (Nat.le_refl 0)) a0 hp q h))
def J_11 : mjI := (⟨"OwnerHeap$Coder", "codeValue", "()I"⟩, 1, prog_3_method_20_code, 4, (some .int), 0, false)
theorem Ja_11 : mjMt 11 = some J_11 := by rfl
theorem D_11_0 : decode J_11.2.2.1 0 = .ok (.aload_n 0, 1) := dzq_42 (by decide +kernel)
theorem D_11_1 : decode J_11.2.2.1 1 = .ok (.invokevirtual 225, 3) := dzq_182 (by decide +kernel)
theorem D_11_4 : decode J_11.2.2.1 4 = .ok (.istore_n 1, 1) := dzq_60 (by decide +kernel)
theorem D_11_5 : decode J_11.2.2.1 5 = .ok (.aload_n 0, 1) := dzq_42 (by decide +kernel)
theorem D_11_6 : decode J_11.2.2.1 6 = .ok (.getfield 9, 3) := dzq_180 (by decide +kernel)
theorem D_11_9 : decode J_11.2.2.1 9 = .ok (.invokevirtual 228, 3) := dzq_182 (by decide +kernel)
theorem D_11_12 : decode J_11.2.2.1 12 = .ok (.ifCond .ne 5, 3) := dzq_154 (by decide +kernel)
theorem D_11_15 : decode J_11.2.2.1 15 = .ok (.iload_n 1, 1) := dzq_27 (by decide +kernel)
theorem D_11_16 : decode J_11.2.2.1 16 = .ok (.ireturn, 1) := dzq_172 (by decide +kernel)
theorem D_11_17 : decode J_11.2.2.1 17 = .ok (.aload_n 0, 1) := dzq_42 (by decide +kernel)
theorem D_11_18 : decode J_11.2.2.1 18 = .ok (.getfield 9, 3) := dzq_180 (by decide +kernel)
theorem D_11_21 : decode J_11.2.2.1 21 = .ok (.invokevirtual 111, 3) := dzq_182 (by decide +kernel)
theorem D_11_24 : decode J_11.2.2.1 24 = .ok (.istore_n 2, 1) := dzq_61 (by decide +kernel)
theorem D_11_25 : decode J_11.2.2.1 25 = .ok (.aload_n 0, 1) := dzq_42 (by decide +kernel)
theorem D_11_26 : decode J_11.2.2.1 26 = .ok (.getfield 9, 3) := dzq_180 (by decide +kernel)
theorem D_11_29 : decode J_11.2.2.1 29 = .ok (.invokevirtual 137, 3) := dzq_182 (by decide +kernel)
theorem D_11_32 : decode J_11.2.2.1 32 = .ok (.aload_n 0, 1) := dzq_42 (by decide +kernel)
theorem D_11_33 : decode J_11.2.2.1 33 = .ok (.invokevirtual 225, 3) := dzq_182 (by decide +kernel)
theorem D_11_36 : decode J_11.2.2.1 36 = .ok (.istore_n 3, 1) := dzq_62 (by decide +kernel)
theorem D_11_37 : decode J_11.2.2.1 37 = .ok (.aload_n 0, 1) := dzq_42 (by decide +kernel)
theorem D_11_38 : decode J_11.2.2.1 38 = .ok (.getfield 9, 3) := dzq_180 (by decide +kernel)
theorem D_11_41 : decode J_11.2.2.1 41 = .ok (.iload_n 2, 1) := dzq_28 (by decide +kernel)
theorem D_11_42 : decode J_11.2.2.1 42 = .ok (.invokevirtual 200, 3) := dzq_182 (by decide +kernel)
theorem D_11_45 : decode J_11.2.2.1 45 = .ok (.bipush 60, 2) := dzq_16 (by decide +kernel)
theorem D_11_47 : decode J_11.2.2.1 47 = .ok (.if_icmp .ne 13, 3) := dzq_160 (by decide +kernel)
theorem D_11_50 : decode J_11.2.2.1 50 = .ok (.aload_n 0, 1) := dzq_42 (by decide +kernel)
theorem D_11_51 : decode J_11.2.2.1 51 = .ok (.iload_n 1, 1) := dzq_27 (by decide +kernel)
theorem D_11_52 : decode J_11.2.2.1 52 = .ok (.iload_n 3, 1) := dzq_29 (by decide +kernel)
theorem D_11_53 : decode J_11.2.2.1 53 = .ok (.iload_n 2, 1) := dzq_28 (by decide +kernel)
theorem D_11_54 : decode J_11.2.2.1 54 = .ok (.invokevirtual 231, 3) := dzq_182 (by decide +kernel)
theorem D_11_57 : decode J_11.2.2.1 57 = .ok (.goto 36, 3) := dzq_167 (by decide +kernel)
theorem D_11_60 : decode J_11.2.2.1 60 = .ok (.iload_n 1, 1) := dzq_27 (by decide +kernel)
theorem D_11_61 : decode J_11.2.2.1 61 = .ok (.iconst (-1), 1) := dzq_2 (by decide +kernel)
theorem D_11_62 : decode J_11.2.2.1 62 = .ok (.if_icmp .ne 7, 3) := dzq_160 (by decide +kernel)
theorem D_11_65 : decode J_11.2.2.1 65 = .ok (.iconst 1, 1) := dzq_4 (by decide +kernel)
theorem D_11_66 : decode J_11.2.2.1 66 = .ok (.goto 4, 3) := dzq_167 (by decide +kernel)
theorem D_11_69 : decode J_11.2.2.1 69 = .ok (.iconst 0, 1) := dzq_3 (by decide +kernel)
theorem D_11_70 : decode J_11.2.2.1 70 = .ok (.iload_n 3, 1) := dzq_29 (by decide +kernel)
theorem D_11_71 : decode J_11.2.2.1 71 = .ok (.iconst (-1), 1) := dzq_2 (by decide +kernel)
theorem D_11_72 : decode J_11.2.2.1 72 = .ok (.if_icmp .ne 7, 3) := dzq_160 (by decide +kernel)
theorem D_11_75 : decode J_11.2.2.1 75 = .ok (.iconst 1, 1) := dzq_4 (by decide +kernel)
theorem D_11_76 : decode J_11.2.2.1 76 = .ok (.goto 4, 3) := dzq_167 (by decide +kernel)
theorem D_11_79 : decode J_11.2.2.1 79 = .ok (.iconst 0, 1) := dzq_3 (by decide +kernel)
theorem D_11_80 : decode J_11.2.2.1 80 = .ok (.if_icmp .eq 13, 3) := dzq_159 (by decide +kernel)
theorem D_11_83 : decode J_11.2.2.1 83 = .ok (.aload_n 0, 1) := dzq_42 (by decide +kernel)
theorem D_11_84 : decode J_11.2.2.1 84 = .ok (.getfield 9, 3) := dzq_180 (by decide +kernel)
theorem D_11_87 : decode J_11.2.2.1 87 = .ok (.bipush 7, 2) := dzq_16 (by decide +kernel)
theorem D_11_89 : decode J_11.2.2.1 89 = .ok (.iload_n 2, 1) := dzq_28 (by decide +kernel)
theorem D_11_90 : decode J_11.2.2.1 90 = .ok (.invokevirtual 196, 3) := dzq_182 (by decide +kernel)
theorem D_11_93 : decode J_11.2.2.1 93 = .ok (.aload_n 0, 1) := dzq_42 (by decide +kernel)
theorem D_11_94 : decode J_11.2.2.1 94 = .ok (.iload_n 2, 1) := dzq_28 (by decide +kernel)
theorem D_11_95 : decode J_11.2.2.1 95 = .ok (.invokevirtual 234, 3) := dzq_182 (by decide +kernel)
theorem D_11_98 : decode J_11.2.2.1 98 = .ok (.ireturn, 1) := dzq_172 (by decide +kernel)
def P_11_93 (X : mjX) (d C S kc ks : Nat) (k : Nat → Int32 → mjH → mjU) : Prop := ∀ (l0 : Nat) (l2 : Int32) (hp : mjH) (q : Option Value × mjH), k l0 l2 hp = some q → mjG X d C S J_11 (mjEq q) 93 [some (.ref l0), none, some (.int l2), none] [] hp kc ks
def P_11_80 (X : mjX) (d C S kc ks : Nat) (k : Nat → Int32 → Int32 → Int32 → mjH → mjU) : Prop := ∀ (l0 : Nat) (l2 : Int32) (s0 : Int32) (s1 : Int32) (hp : mjH) (q : Option Value × mjH), k l0 l2 s0 s1 hp = some q → mjG X d C S J_11 (mjEq q) 80 [some (.ref l0), none, some (.int l2), none] [.int s1, .int s0] hp kc ks
def P_11_70 (X : mjX) (d C S kc ks : Nat) (k : Nat → Int32 → Int32 → Int32 → mjH → mjU) : Prop := ∀ (l0 : Nat) (l2 : Int32) (l3 : Int32) (s0 : Int32) (hp : mjH) (q : Option Value × mjH), k l0 l2 l3 s0 hp = some q → mjG X d C S J_11 (mjEq q) 70 [some (.ref l0), none, some (.int l2), some (.int l3)] [.int s0] hp kc ks
def P_11_0 (X : mjX) (d C S kc ks : Nat) (k : Nat → mjH → mjU) : Prop := ∀ (l0 : Nat) (hp : mjH) (q : Option Value × mjH), k l0 hp = some q → mjG X d C S J_11 (mjEq q) 0 [some (.ref l0), none, none, none] [] hp kc ks
noncomputable def b_11_93 (R : mjR) (l0 : Nat) (l2 : Int32) (hp : mjH) : mjU := rV hp l0 1 (bI (R 29 [.ref l0, .int l2] hp) (fun v1 hp2 => some (some (.int v1), hp2)))
theorem t_11_93 {X : mjX} {d C S kc ks : Nat} {R : mjR} (hR : mjC R d) (h1 : kc ≤ C) (h2 : ks ≤ S) : P_11_93 X (d + 1) C S kc ks (b_11_93 R) := by
  intro l0 l2 hp q h
  unfold b_11_93 at h
  refine mjr_aload_n (x := l0) D_11_93 rfl ?_
  refine mjr_iload_n (x := l2) D_11_94 rfl ?_
  refine mjq_vI (As := [.int l2]) (rest := []) D_11_95 mr_1_234 V_29 rfl rfl rfl hR (Nat.le_refl _) h1 h2 h (fun v1 hp2 h => ?_)
  exact mjq_ret D_11_98 rfl h1 h2 h
noncomputable def b_11_80 (R : mjR) (l0 : Nat) (l2 : Int32) (s0 : Int32) (s1 : Int32) (hp : mjH) : mjU := (if s0 = s1 then b_11_93 R l0 l2 hp else gR hp l0 1 0 (fun v1 => rV hp v1 9 (bN (R 178 [.ref v1, .int (7 : Int32), .int l2] hp) (fun  hp2 => b_11_93 R l0 l2 hp2))))
theorem t_11_80 {X : mjX} {d C S kc ks : Nat} {R : mjR} (hR : mjC R d) (h1 : kc ≤ C) (h2 : ks ≤ S) : P_11_80 X (d + 1) C S kc ks (b_11_80 R) := by
  intro l0 l2 s0 s1 hp q h
  unfold b_11_80 at h
  refine mjq_icmp_eq (tgt := 93) D_11_80 rfl h (fun h => ?_) (fun h => ?_)
  · exact (t_11_93 hR h1 h2) _ _ _ _ h
  · refine mjr_aload_n (x := l0) D_11_83 rfl ?_
    refine mjq_gR D_11_84 fr_1_9 h (fun v1 h => ?_)
    refine mjq_bi (v := (7 : Int32)) D_11_87 rfl ?_
    refine mjr_iload_n (x := l2) D_11_89 rfl ?_
    refine mjq_vN (As := [.int (7 : Int32), .int l2]) (rest := []) D_11_90 mr_1_196 V_178 rfl rfl rfl hR (Nat.le_refl _) h1 h2 h (fun  hp2 h => ?_)
    exact (t_11_93 hR h1 h2) _ _ _ _ h
noncomputable def b_11_70 (R : mjR) (l0 : Nat) (l2 : Int32) (l3 : Int32) (s0 : Int32) (hp : mjH) : mjU := (if l3 = (-1 : Int32) then b_11_80 R l0 l2 s0 (1 : Int32) hp else b_11_80 R l0 l2 s0 (0 : Int32) hp)
theorem t_11_70 {X : mjX} {d C S kc ks : Nat} {R : mjR} (hR : mjC R d) (h1 : kc ≤ C) (h2 : ks ≤ S) : P_11_70 X (d + 1) C S kc ks (b_11_70 R) := by
  intro l0 l2 l3 s0 hp q h
  unfold b_11_70 at h
  refine mjr_iload_n (x := l3) D_11_70 rfl ?_
  refine mjq_ic (v := (-1 : Int32)) D_11_71 rfl ?_
  refine mjq_icmp_ne (tgt := 79) D_11_72 rfl h (fun h => ?_) (fun h => ?_)
  · refine mjq_ic (v := (0 : Int32)) D_11_79 rfl ?_
    exact mjG.fg (lo' := [some (.ref l0), none, some (.int l2), none]) (And.intro rfl (And.intro rfl True.intro)) ((t_11_80 hR h1 h2) _ _ _ _ _ _ h)
  · refine mjq_ic (v := (1 : Int32)) D_11_75 rfl ?_
    refine mjr_goto (tgt := 80) D_11_76 rfl ?_
    exact mjG.fg (lo' := [some (.ref l0), none, some (.int l2), none]) (And.intro rfl (And.intro rfl True.intro)) ((t_11_80 hR h1 h2) _ _ _ _ _ _ h)
noncomputable def b_11_0 (R : mjR) (l0 : Nat) (hp : mjH) : mjU := rV hp l0 1 (bI (R 12 [.ref l0] hp) (fun v1 hp2 => gR hp2 l0 1 0 (fun v3 => rV hp2 v3 9 (bI (R 177 [.ref v3] hp2) (fun v4 hp5 => (if v4 = 0 then some (some (.int v1), hp5) else gR hp5 l0 1 0 (fun v6 => rV hp5 v6 9 (bI (R 167 [.ref v6] hp5) (fun v7 hp8 => gR hp8 l0 1 0 (fun v9 => rV hp8 v9 9 (bN (R 166 [.ref v9] hp8) (fun  hp10 => rV hp10 l0 1 (bI (R 12 [.ref l0] hp10) (fun v11 hp12 => gR hp12 l0 1 0 (fun v13 => rV hp12 v13 9 (bI (R 180 [.ref v13, .int v7] hp12) (fun v14 hp15 => (if v14 = (60 : Int32) then rV hp15 l0 1 (bN (R 28 [.ref l0, .int v1, .int v11, .int v7] hp15) (fun  hp16 => b_11_93 R l0 v7 hp16)) else (if v1 = (-1 : Int32) then b_11_70 R l0 v7 v11 (1 : Int32) hp15 else b_11_70 R l0 v7 v11 (0 : Int32) hp15)))))))))))))))))))
theorem t_11_0 {X : mjX} {d C S kc ks : Nat} {R : mjR} (hR : mjC R d) (h1 : kc ≤ C) (h2 : ks ≤ S) : P_11_0 X (d + 1) C S kc ks (b_11_0 R) := by
  intro l0 hp q h
  unfold b_11_0 at h
  refine mjr_aload_n (x := l0) D_11_0 rfl ?_
  refine mjq_vI (As := []) (rest := []) D_11_1 mr_1_225 V_12 rfl rfl rfl hR (Nat.le_refl _) h1 h2 h (fun v1 hp2 h => ?_)
  refine mjq_istore_n (lo' := [some (.ref l0), some (.int v1), none, none]) D_11_4 (Nat.le_of_ble_eq_true rfl) rfl ?_
  refine mjr_aload_n (x := l0) D_11_5 rfl ?_
  refine mjq_gR D_11_6 fr_1_9 h (fun v3 h => ?_)
  refine mjq_vI (As := []) (rest := []) D_11_9 mr_1_228 V_177 rfl rfl rfl hR (Nat.le_refl _) h1 h2 h (fun v4 hp5 h => ?_)
  refine mjq_if_ne (tgt := 17) D_11_12 rfl h (fun h => ?_) (fun h => ?_)
  · refine mjr_aload_n (x := l0) D_11_17 rfl ?_
    refine mjq_gR D_11_18 fr_1_9 h (fun v6 h => ?_)
    refine mjq_vI (As := []) (rest := []) D_11_21 mr_1_111 V_167 rfl rfl rfl hR (Nat.le_refl _) h1 h2 h (fun v7 hp8 h => ?_)
    refine mjq_istore_n (lo' := [some (.ref l0), some (.int v1), some (.int v7), none]) D_11_24 (Nat.le_of_ble_eq_true rfl) rfl ?_
    refine mjr_aload_n (x := l0) D_11_25 rfl ?_
    refine mjq_gR D_11_26 fr_1_9 h (fun v9 h => ?_)
    refine mjq_vN (As := []) (rest := []) D_11_29 mr_1_137 V_166 rfl rfl rfl hR (Nat.le_refl _) h1 h2 h (fun  hp10 h => ?_)
    refine mjr_aload_n (x := l0) D_11_32 rfl ?_
    refine mjq_vI (As := []) (rest := []) D_11_33 mr_1_225 V_12 rfl rfl rfl hR (Nat.le_refl _) h1 h2 h (fun v11 hp12 h => ?_)
    refine mjq_istore_n (lo' := [some (.ref l0), some (.int v1), some (.int v7), some (.int v11)]) D_11_36 (Nat.le_of_ble_eq_true rfl) rfl ?_
    refine mjr_aload_n (x := l0) D_11_37 rfl ?_
    refine mjq_gR D_11_38 fr_1_9 h (fun v13 h => ?_)
    refine mjr_iload_n (x := v7) D_11_41 rfl ?_
    refine mjq_vI (As := [.int v7]) (rest := []) D_11_42 mr_1_200 V_180 rfl rfl rfl hR (Nat.le_refl _) h1 h2 h (fun v14 hp15 h => ?_)
    refine mjq_bi (v := (60 : Int32)) D_11_45 rfl ?_
    refine mjq_icmp_ne (tgt := 60) D_11_47 rfl h (fun h => ?_) (fun h => ?_)
    · refine mjr_iload_n (x := v1) D_11_60 rfl ?_
      refine mjq_ic (v := (-1 : Int32)) D_11_61 rfl ?_
      refine mjq_icmp_ne (tgt := 69) D_11_62 rfl h (fun h => ?_) (fun h => ?_)
      · refine mjq_ic (v := (0 : Int32)) D_11_69 rfl ?_
        exact mjG.fg (lo' := [some (.ref l0), none, some (.int v7), some (.int v11)]) (And.intro rfl (And.intro rfl (And.intro rfl True.intro))) ((t_11_70 hR h1 h2) _ _ _ _ _ _ h)
      · refine mjq_ic (v := (1 : Int32)) D_11_65 rfl ?_
        refine mjr_goto (tgt := 70) D_11_66 rfl ?_
        exact mjG.fg (lo' := [some (.ref l0), none, some (.int v7), some (.int v11)]) (And.intro rfl (And.intro rfl (And.intro rfl True.intro))) ((t_11_70 hR h1 h2) _ _ _ _ _ _ h)
    · refine mjr_aload_n (x := l0) D_11_50 rfl ?_
      refine mjr_iload_n (x := v1) D_11_51 rfl ?_
      refine mjr_iload_n (x := v11) D_11_52 rfl ?_
      refine mjr_iload_n (x := v7) D_11_53 rfl ?_
      refine mjq_vN (As := [.int v1, .int v11, .int v7]) (rest := []) D_11_54 mr_1_231 V_28 rfl rfl rfl hR (Nat.le_refl _) h1 h2 h (fun  hp16 h => ?_)
      refine mjr_goto (tgt := 93) D_11_57 rfl ?_
      exact mjG.fg (lo' := [some (.ref l0), none, some (.int v7), none]) (And.intro rfl (And.intro rfl True.intro)) ((t_11_93 hR h1 h2) _ _ _ _ h)
  · refine mjr_iload_n (x := v1) D_11_15 rfl ?_
    exact mjq_ret D_11_16 rfl h1 h2 h
noncomputable def f_11 (R : mjR) (a0 : Nat) (hp : mjH) : mjU := b_11_0 R a0 hp
theorem c_11 {R : mjR} {d : Nat} (hR : mjC R d) {a0 : Nat} {hp : mjH} {q : Option Value × mjH} (h : f_11 R a0 hp = some q) : mjM (d + 1) 0 0 11 [.ref a0] hp (mjEq q) :=
  mjM_of Ja_11 (Nat.le_of_ble_eq_true rfl) (mjG.fg (lo' := [some (.ref a0), none, none, none]) (And.intro rfl True.intro) ((t_11_0 hR (Nat.le_refl 0) (Nat.le_refl 0)) a0 hp q h))
def J_12 : mjI := (⟨"OwnerHeap$Coder", "codeSum", "()I"⟩, 1, prog_3_method_22_code, 4, (some .int), 0, false)
theorem Ja_12 : mjMt 12 = some J_12 := by rfl
theorem D_12_0 : decode J_12.2.2.1 0 = .ok (.aload_n 0, 1) := dzq_42 (by decide +kernel)
theorem D_12_1 : decode J_12.2.2.1 1 = .ok (.invokevirtual 237, 3) := dzq_182 (by decide +kernel)
theorem D_12_4 : decode J_12.2.2.1 4 = .ok (.istore_n 1, 1) := dzq_60 (by decide +kernel)
theorem D_12_5 : decode J_12.2.2.1 5 = .ok (.iconst 0, 1) := dzq_3 (by decide +kernel)
theorem D_12_6 : decode J_12.2.2.1 6 = .ok (.istore_n 2, 1) := dzq_61 (by decide +kernel)
theorem D_12_7 : decode J_12.2.2.1 7 = .ok (.iload_n 2, 1) := dzq_28 (by decide +kernel)
theorem D_12_8 : decode J_12.2.2.1 8 = .ok (.aload_n 0, 1) := dzq_42 (by decide +kernel)
theorem D_12_9 : decode J_12.2.2.1 9 = .ok (.getfield 9, 3) := dzq_180 (by decide +kernel)
theorem D_12_12 : decode J_12.2.2.1 12 = .ok (.invokevirtual 140, 3) := dzq_182 (by decide +kernel)
theorem D_12_15 : decode J_12.2.2.1 15 = .ok (.if_icmp .ge 50, 3) := dzq_162 (by decide +kernel)
theorem D_12_18 : decode J_12.2.2.1 18 = .ok (.aload_n 0, 1) := dzq_42 (by decide +kernel)
theorem D_12_19 : decode J_12.2.2.1 19 = .ok (.getfield 9, 3) := dzq_180 (by decide +kernel)
theorem D_12_22 : decode J_12.2.2.1 22 = .ok (.invokevirtual 240, 3) := dzq_182 (by decide +kernel)
theorem D_12_25 : decode J_12.2.2.1 25 = .ok (.ifCond .eq 40, 3) := dzq_153 (by decide +kernel)
theorem D_12_28 : decode J_12.2.2.1 28 = .ok (.aload_n 0, 1) := dzq_42 (by decide +kernel)
theorem D_12_29 : decode J_12.2.2.1 29 = .ok (.getfield 9, 3) := dzq_180 (by decide +kernel)
theorem D_12_32 : decode J_12.2.2.1 32 = .ok (.invokevirtual 111, 3) := dzq_182 (by decide +kernel)
theorem D_12_35 : decode J_12.2.2.1 35 = .ok (.istore_n 3, 1) := dzq_62 (by decide +kernel)
theorem D_12_36 : decode J_12.2.2.1 36 = .ok (.aload_n 0, 1) := dzq_42 (by decide +kernel)
theorem D_12_37 : decode J_12.2.2.1 37 = .ok (.getfield 9, 3) := dzq_180 (by decide +kernel)
theorem D_12_40 : decode J_12.2.2.1 40 = .ok (.invokevirtual 137, 3) := dzq_182 (by decide +kernel)
theorem D_12_43 : decode J_12.2.2.1 43 = .ok (.aload_n 0, 1) := dzq_42 (by decide +kernel)
theorem D_12_44 : decode J_12.2.2.1 44 = .ok (.iload_n 1, 1) := dzq_27 (by decide +kernel)
theorem D_12_45 : decode J_12.2.2.1 45 = .ok (.aload_n 0, 1) := dzq_42 (by decide +kernel)
theorem D_12_46 : decode J_12.2.2.1 46 = .ok (.invokevirtual 237, 3) := dzq_182 (by decide +kernel)
theorem D_12_49 : decode J_12.2.2.1 49 = .ok (.iload_n 3, 1) := dzq_29 (by decide +kernel)
theorem D_12_50 : decode J_12.2.2.1 50 = .ok (.invokevirtual 231, 3) := dzq_182 (by decide +kernel)
theorem D_12_53 : decode J_12.2.2.1 53 = .ok (.aload_n 0, 1) := dzq_42 (by decide +kernel)
theorem D_12_54 : decode J_12.2.2.1 54 = .ok (.iload_n 3, 1) := dzq_29 (by decide +kernel)
theorem D_12_55 : decode J_12.2.2.1 55 = .ok (.invokevirtual 234, 3) := dzq_182 (by decide +kernel)
theorem D_12_58 : decode J_12.2.2.1 58 = .ok (.istore_n 1, 1) := dzq_60 (by decide +kernel)
theorem D_12_59 : decode J_12.2.2.1 59 = .ok (.iinc 2 1, 3) := dzq_132 (by decide +kernel)
theorem D_12_62 : decode J_12.2.2.1 62 = .ok (.goto (-55), 3) := dzq_167 (by decide +kernel)
theorem D_12_65 : decode J_12.2.2.1 65 = .ok (.iload_n 1, 1) := dzq_27 (by decide +kernel)
theorem D_12_66 : decode J_12.2.2.1 66 = .ok (.ireturn, 1) := dzq_172 (by decide +kernel)
def P_12_65 (X : mjX) (d C S kc ks : Nat) (k : Int32 → mjH → mjU) : Prop := ∀ (l1 : Int32) (hp : mjH) (q : Option Value × mjH), k l1 hp = some q → mjG X d C S J_12 (mjEq q) 65 [none, some (.int l1), none, none] [] hp kc ks
def P_12_7 (X : mjX) (d C S kc ks : Nat) (k : Nat → Int32 → Int32 → mjH → mjU) : Prop := ∀ (l0 : Nat) (l1 : Int32) (l2 : Int32) (hp : mjH) (q : Option Value × mjH), k l0 l1 l2 hp = some q → mjG X d C S J_12 (mjEq q) 7 [some (.ref l0), some (.int l1), some (.int l2), none] [] hp kc ks
def P_12_0 (X : mjX) (d C S kc ks : Nat) (k : Nat → mjH → mjU) : Prop := ∀ (l0 : Nat) (hp : mjH) (q : Option Value × mjH), k l0 hp = some q → mjG X d C S J_12 (mjEq q) 0 [some (.ref l0), none, none, none] [] hp kc ks
noncomputable def b_12_65 (R : mjR) (l1 : Int32) (hp : mjH) : mjU := some (some (.int l1), hp)
theorem t_12_65 {X : mjX} {d C S kc ks : Nat} {R : mjR} (hR : mjC R d) (h1 : kc ≤ C) (h2 : ks ≤ S) : P_12_65 X (d + 1) C S kc ks (b_12_65 R) := by
  intro l1 hp q h
  unfold b_12_65 at h
  refine mjr_iload_n (x := l1) D_12_65 rfl ?_
  exact mjq_ret D_12_66 rfl h1 h2 h
noncomputable def b_12_7 (R : mjR) (k7 : Nat → Int32 → Int32 → mjH → mjU) (l0 : Nat) (l1 : Int32) (l2 : Int32) (hp : mjH) : mjU := gR hp l0 1 0 (fun v1 => rV hp v1 9 (bI (R 171 [.ref v1] hp) (fun v2 hp3 => (if v2 ≤ l2 then b_12_65 R l1 hp3 else gR hp3 l0 1 0 (fun v4 => rV hp3 v4 9 (bI (R 176 [.ref v4] hp3) (fun v5 hp6 => (if v5 = 0 then b_12_65 R l1 hp6 else gR hp6 l0 1 0 (fun v7 => rV hp6 v7 9 (bI (R 167 [.ref v7] hp6) (fun v8 hp9 => gR hp9 l0 1 0 (fun v10 => rV hp9 v10 9 (bN (R 166 [.ref v10] hp9) (fun  hp11 => rV hp11 l0 1 (bI (R 13 [.ref l0] hp11) (fun v12 hp13 => rV hp13 l0 1 (bN (R 28 [.ref l0, .int l1, .int v12, .int v8] hp13) (fun  hp14 => rV hp14 l0 1 (bI (R 29 [.ref l0, .int v8] hp14) (fun v15 hp16 => k7 l0 v15 (l2 + (1 : Int32)) hp16))))))))))))))))))))
theorem t_12_7 {X : mjX} {d C S kc ks : Nat} {R : mjR} (hR : mjC R d) (h1 : kc ≤ C) (h2 : ks ≤ S) {k7 : Nat → Int32 → Int32 → mjH → mjU} (hk7 : P_12_7 X (d + 1) C S kc ks k7) : P_12_7 X (d + 1) C S kc ks (b_12_7 R k7) := by
  intro l0 l1 l2 hp q h
  unfold b_12_7 at h
  refine mjr_iload_n (x := l2) D_12_7 rfl ?_
  refine mjr_aload_n (x := l0) D_12_8 rfl ?_
  refine mjq_gR D_12_9 fr_1_9 h (fun v1 h => ?_)
  refine mjq_vI (As := []) (rest := [.int l2]) D_12_12 mr_1_140 V_171 rfl rfl rfl hR (Nat.le_refl _) h1 h2 h (fun v2 hp3 h => ?_)
  refine mjq_icmp_ge (tgt := 65) D_12_15 rfl h (fun h => ?_) (fun h => ?_)
  · exact mjG.fg (lo' := [none, some (.int l1), none, none]) (And.intro rfl True.intro) ((t_12_65 hR h1 h2) _ _ _ h)
  · refine mjr_aload_n (x := l0) D_12_18 rfl ?_
    refine mjq_gR D_12_19 fr_1_9 h (fun v4 h => ?_)
    refine mjq_vI (As := []) (rest := []) D_12_22 mr_1_240 V_176 rfl rfl rfl hR (Nat.le_refl _) h1 h2 h (fun v5 hp6 h => ?_)
    refine mjq_if_eq (tgt := 65) D_12_25 rfl h (fun h => ?_) (fun h => ?_)
    · exact mjG.fg (lo' := [none, some (.int l1), none, none]) (And.intro rfl True.intro) ((t_12_65 hR h1 h2) _ _ _ h)
    · refine mjr_aload_n (x := l0) D_12_28 rfl ?_
      refine mjq_gR D_12_29 fr_1_9 h (fun v7 h => ?_)
      refine mjq_vI (As := []) (rest := []) D_12_32 mr_1_111 V_167 rfl rfl rfl hR (Nat.le_refl _) h1 h2 h (fun v8 hp9 h => ?_)
      refine mjq_istore_n (lo' := [some (.ref l0), some (.int l1), some (.int l2), some (.int v8)]) D_12_35 (Nat.le_of_ble_eq_true rfl) rfl ?_
      refine mjr_aload_n (x := l0) D_12_36 rfl ?_
      refine mjq_gR D_12_37 fr_1_9 h (fun v10 h => ?_)
      refine mjq_vN (As := []) (rest := []) D_12_40 mr_1_137 V_166 rfl rfl rfl hR (Nat.le_refl _) h1 h2 h (fun  hp11 h => ?_)
      refine mjr_aload_n (x := l0) D_12_43 rfl ?_
      refine mjr_iload_n (x := l1) D_12_44 rfl ?_
      refine mjr_aload_n (x := l0) D_12_45 rfl ?_
      refine mjq_vI (As := []) (rest := [.int l1, .ref l0]) D_12_46 mr_1_237 V_13 rfl rfl rfl hR (Nat.le_refl _) h1 h2 h (fun v12 hp13 h => ?_)
      refine mjr_iload_n (x := v8) D_12_49 rfl ?_
      refine mjq_vN (As := [.int l1, .int v12, .int v8]) (rest := []) D_12_50 mr_1_231 V_28 rfl rfl rfl hR (Nat.le_refl _) h1 h2 h (fun  hp14 h => ?_)
      refine mjr_aload_n (x := l0) D_12_53 rfl ?_
      refine mjr_iload_n (x := v8) D_12_54 rfl ?_
      refine mjq_vI (As := [.int v8]) (rest := []) D_12_55 mr_1_234 V_29 rfl rfl rfl hR (Nat.le_refl _) h1 h2 h (fun v15 hp16 h => ?_)
      refine mjq_istore_n (lo' := [some (.ref l0), some (.int v15), some (.int l2), some (.int v8)]) D_12_58 (Nat.le_of_ble_eq_true rfl) rfl ?_
      refine mjq_iinc (x := l2) (c := (1 : Int32)) (lo' := [some (.ref l0), some (.int v15), some (.int (l2 + (1 : Int32))), some (.int v8)]) D_12_59 rfl (Nat.le_of_ble_eq_true rfl) rfl rfl ?_
      refine mjr_goto (tgt := 7) D_12_62 rfl ?_
      exact mjG.fg (lo' := [some (.ref l0), some (.int v15), some (.int (l2 + (1 : Int32))), none]) (And.intro rfl (And.intro rfl (And.intro rfl True.intro))) (hk7 _ _ _ _ _ h)
noncomputable def L_12_7 (R : mjR) (n : Nat) : Nat → Int32 → Int32 → mjH → mjU := Nat.rec (motive := fun _ => Nat → Int32 → Int32 → mjH → mjU) (fun _ _ _ _ => none) (fun _ self => b_12_7 R self) n
theorem T_12_7 {X : mjX} {d C S kc ks : Nat} {R : mjR} (hR : mjC R d) (h1 : kc ≤ C) (h2 : ks ≤ S) (n : Nat) : P_12_7 X (d + 1) C S kc ks (L_12_7 R n) := by
  induction n with
  | zero => intro _ _ _ _ _ h; exact mj_no h
  | succ n ih => exact t_12_7 hR h1 h2 ih
noncomputable def b_12_0 (R : mjR) (l0 : Nat) (hp : mjH) : mjU := rV hp l0 1 (bI (R 13 [.ref l0] hp) (fun v1 hp2 => L_12_7 R mjN l0 v1 (0 : Int32) hp2))
theorem t_12_0 {X : mjX} {d C S kc ks : Nat} {R : mjR} (hR : mjC R d) (h1 : kc ≤ C) (h2 : ks ≤ S) : P_12_0 X (d + 1) C S kc ks (b_12_0 R) := by
  intro l0 hp q h
  unfold b_12_0 at h
  refine mjr_aload_n (x := l0) D_12_0 rfl ?_
  refine mjq_vI (As := []) (rest := []) D_12_1 mr_1_237 V_13 rfl rfl rfl hR (Nat.le_refl _) h1 h2 h (fun v1 hp2 h => ?_)
  refine mjq_istore_n (lo' := [some (.ref l0), some (.int v1), none, none]) D_12_4 (Nat.le_of_ble_eq_true rfl) rfl ?_
  refine mjq_ic (v := (0 : Int32)) D_12_5 rfl ?_
  refine mjq_istore_n (lo' := [some (.ref l0), some (.int v1), some (.int (0 : Int32)), none]) D_12_6 (Nat.le_of_ble_eq_true rfl) rfl ?_
  exact (T_12_7 hR h1 h2 mjN) _ _ _ _ _ h
noncomputable def f_12 (R : mjR) (a0 : Nat) (hp : mjH) : mjU := b_12_0 R a0 hp
theorem c_12 {R : mjR} {d : Nat} (hR : mjC R d) {a0 : Nat} {hp : mjH} {q : Option Value × mjH} (h : f_12 R a0 hp = some q) : mjM (d + 1) 0 0 12 [.ref a0] hp (mjEq q) :=
  mjM_of Ja_12 (Nat.le_of_ble_eq_true rfl) (mjG.fg (lo' := [some (.ref a0), none, none, none]) (And.intro rfl True.intro) ((t_12_0 hR (Nat.le_refl 0) (Nat.le_refl 0)) a0 hp q h))
def J_13 : mjI := (⟨"OwnerHeap$Coder", "codeProduct", "()I"⟩, 1, prog_3_method_23_code, 4, (some .int), 0, false)
theorem Ja_13 : mjMt 13 = some J_13 := by rfl
theorem D_13_0 : decode J_13.2.2.1 0 = .ok (.aload_n 0, 1) := dzq_42 (by decide +kernel)
theorem D_13_1 : decode J_13.2.2.1 1 = .ok (.invokevirtual 243, 3) := dzq_182 (by decide +kernel)
theorem D_13_4 : decode J_13.2.2.1 4 = .ok (.istore_n 1, 1) := dzq_60 (by decide +kernel)
theorem D_13_5 : decode J_13.2.2.1 5 = .ok (.iconst 0, 1) := dzq_3 (by decide +kernel)
theorem D_13_6 : decode J_13.2.2.1 6 = .ok (.istore_n 2, 1) := dzq_61 (by decide +kernel)
theorem D_13_7 : decode J_13.2.2.1 7 = .ok (.iload_n 2, 1) := dzq_28 (by decide +kernel)
theorem D_13_8 : decode J_13.2.2.1 8 = .ok (.aload_n 0, 1) := dzq_42 (by decide +kernel)
theorem D_13_9 : decode J_13.2.2.1 9 = .ok (.getfield 9, 3) := dzq_180 (by decide +kernel)
theorem D_13_12 : decode J_13.2.2.1 12 = .ok (.invokevirtual 140, 3) := dzq_182 (by decide +kernel)
theorem D_13_15 : decode J_13.2.2.1 15 = .ok (.if_icmp .ge 50, 3) := dzq_162 (by decide +kernel)
theorem D_13_18 : decode J_13.2.2.1 18 = .ok (.aload_n 0, 1) := dzq_42 (by decide +kernel)
theorem D_13_19 : decode J_13.2.2.1 19 = .ok (.getfield 9, 3) := dzq_180 (by decide +kernel)
theorem D_13_22 : decode J_13.2.2.1 22 = .ok (.invokevirtual 246, 3) := dzq_182 (by decide +kernel)
theorem D_13_25 : decode J_13.2.2.1 25 = .ok (.ifCond .eq 40, 3) := dzq_153 (by decide +kernel)
theorem D_13_28 : decode J_13.2.2.1 28 = .ok (.aload_n 0, 1) := dzq_42 (by decide +kernel)
theorem D_13_29 : decode J_13.2.2.1 29 = .ok (.getfield 9, 3) := dzq_180 (by decide +kernel)
theorem D_13_32 : decode J_13.2.2.1 32 = .ok (.invokevirtual 111, 3) := dzq_182 (by decide +kernel)
theorem D_13_35 : decode J_13.2.2.1 35 = .ok (.istore_n 3, 1) := dzq_62 (by decide +kernel)
theorem D_13_36 : decode J_13.2.2.1 36 = .ok (.aload_n 0, 1) := dzq_42 (by decide +kernel)
theorem D_13_37 : decode J_13.2.2.1 37 = .ok (.getfield 9, 3) := dzq_180 (by decide +kernel)
theorem D_13_40 : decode J_13.2.2.1 40 = .ok (.invokevirtual 137, 3) := dzq_182 (by decide +kernel)
theorem D_13_43 : decode J_13.2.2.1 43 = .ok (.aload_n 0, 1) := dzq_42 (by decide +kernel)
theorem D_13_44 : decode J_13.2.2.1 44 = .ok (.iload_n 1, 1) := dzq_27 (by decide +kernel)
theorem D_13_45 : decode J_13.2.2.1 45 = .ok (.aload_n 0, 1) := dzq_42 (by decide +kernel)
theorem D_13_46 : decode J_13.2.2.1 46 = .ok (.invokevirtual 243, 3) := dzq_182 (by decide +kernel)
theorem D_13_49 : decode J_13.2.2.1 49 = .ok (.iload_n 3, 1) := dzq_29 (by decide +kernel)
theorem D_13_50 : decode J_13.2.2.1 50 = .ok (.invokevirtual 231, 3) := dzq_182 (by decide +kernel)
theorem D_13_53 : decode J_13.2.2.1 53 = .ok (.aload_n 0, 1) := dzq_42 (by decide +kernel)
theorem D_13_54 : decode J_13.2.2.1 54 = .ok (.iload_n 3, 1) := dzq_29 (by decide +kernel)
theorem D_13_55 : decode J_13.2.2.1 55 = .ok (.invokevirtual 234, 3) := dzq_182 (by decide +kernel)
theorem D_13_58 : decode J_13.2.2.1 58 = .ok (.istore_n 1, 1) := dzq_60 (by decide +kernel)
theorem D_13_59 : decode J_13.2.2.1 59 = .ok (.iinc 2 1, 3) := dzq_132 (by decide +kernel)
theorem D_13_62 : decode J_13.2.2.1 62 = .ok (.goto (-55), 3) := dzq_167 (by decide +kernel)
theorem D_13_65 : decode J_13.2.2.1 65 = .ok (.iload_n 1, 1) := dzq_27 (by decide +kernel)
theorem D_13_66 : decode J_13.2.2.1 66 = .ok (.ireturn, 1) := dzq_172 (by decide +kernel)
def P_13_65 (X : mjX) (d C S kc ks : Nat) (k : Int32 → mjH → mjU) : Prop := ∀ (l1 : Int32) (hp : mjH) (q : Option Value × mjH), k l1 hp = some q → mjG X d C S J_13 (mjEq q) 65 [none, some (.int l1), none, none] [] hp kc ks
def P_13_7 (X : mjX) (d C S kc ks : Nat) (k : Nat → Int32 → Int32 → mjH → mjU) : Prop := ∀ (l0 : Nat) (l1 : Int32) (l2 : Int32) (hp : mjH) (q : Option Value × mjH), k l0 l1 l2 hp = some q → mjG X d C S J_13 (mjEq q) 7 [some (.ref l0), some (.int l1), some (.int l2), none] [] hp kc ks
def P_13_0 (X : mjX) (d C S kc ks : Nat) (k : Nat → mjH → mjU) : Prop := ∀ (l0 : Nat) (hp : mjH) (q : Option Value × mjH), k l0 hp = some q → mjG X d C S J_13 (mjEq q) 0 [some (.ref l0), none, none, none] [] hp kc ks
noncomputable def b_13_65 (R : mjR) (l1 : Int32) (hp : mjH) : mjU := some (some (.int l1), hp)
theorem t_13_65 {X : mjX} {d C S kc ks : Nat} {R : mjR} (hR : mjC R d) (h1 : kc ≤ C) (h2 : ks ≤ S) : P_13_65 X (d + 1) C S kc ks (b_13_65 R) := by
  intro l1 hp q h
  unfold b_13_65 at h
  refine mjr_iload_n (x := l1) D_13_65 rfl ?_
  exact mjq_ret D_13_66 rfl h1 h2 h
noncomputable def b_13_7 (R : mjR) (k7 : Nat → Int32 → Int32 → mjH → mjU) (l0 : Nat) (l1 : Int32) (l2 : Int32) (hp : mjH) : mjU := gR hp l0 1 0 (fun v1 => rV hp v1 9 (bI (R 171 [.ref v1] hp) (fun v2 hp3 => (if v2 ≤ l2 then b_13_65 R l1 hp3 else gR hp3 l0 1 0 (fun v4 => rV hp3 v4 9 (bI (R 175 [.ref v4] hp3) (fun v5 hp6 => (if v5 = 0 then b_13_65 R l1 hp6 else gR hp6 l0 1 0 (fun v7 => rV hp6 v7 9 (bI (R 167 [.ref v7] hp6) (fun v8 hp9 => gR hp9 l0 1 0 (fun v10 => rV hp9 v10 9 (bN (R 166 [.ref v10] hp9) (fun  hp11 => rV hp11 l0 1 (bI (R 14 [.ref l0] hp11) (fun v12 hp13 => rV hp13 l0 1 (bN (R 28 [.ref l0, .int l1, .int v12, .int v8] hp13) (fun  hp14 => rV hp14 l0 1 (bI (R 29 [.ref l0, .int v8] hp14) (fun v15 hp16 => k7 l0 v15 (l2 + (1 : Int32)) hp16))))))))))))))))))))
theorem t_13_7 {X : mjX} {d C S kc ks : Nat} {R : mjR} (hR : mjC R d) (h1 : kc ≤ C) (h2 : ks ≤ S) {k7 : Nat → Int32 → Int32 → mjH → mjU} (hk7 : P_13_7 X (d + 1) C S kc ks k7) : P_13_7 X (d + 1) C S kc ks (b_13_7 R k7) := by
  intro l0 l1 l2 hp q h
  unfold b_13_7 at h
  refine mjr_iload_n (x := l2) D_13_7 rfl ?_
  refine mjr_aload_n (x := l0) D_13_8 rfl ?_
  refine mjq_gR D_13_9 fr_1_9 h (fun v1 h => ?_)
  refine mjq_vI (As := []) (rest := [.int l2]) D_13_12 mr_1_140 V_171 rfl rfl rfl hR (Nat.le_refl _) h1 h2 h (fun v2 hp3 h => ?_)
  refine mjq_icmp_ge (tgt := 65) D_13_15 rfl h (fun h => ?_) (fun h => ?_)
  · exact mjG.fg (lo' := [none, some (.int l1), none, none]) (And.intro rfl True.intro) ((t_13_65 hR h1 h2) _ _ _ h)
  · refine mjr_aload_n (x := l0) D_13_18 rfl ?_
    refine mjq_gR D_13_19 fr_1_9 h (fun v4 h => ?_)
    refine mjq_vI (As := []) (rest := []) D_13_22 mr_1_246 V_175 rfl rfl rfl hR (Nat.le_refl _) h1 h2 h (fun v5 hp6 h => ?_)
    refine mjq_if_eq (tgt := 65) D_13_25 rfl h (fun h => ?_) (fun h => ?_)
    · exact mjG.fg (lo' := [none, some (.int l1), none, none]) (And.intro rfl True.intro) ((t_13_65 hR h1 h2) _ _ _ h)
    · refine mjr_aload_n (x := l0) D_13_28 rfl ?_
      refine mjq_gR D_13_29 fr_1_9 h (fun v7 h => ?_)
      refine mjq_vI (As := []) (rest := []) D_13_32 mr_1_111 V_167 rfl rfl rfl hR (Nat.le_refl _) h1 h2 h (fun v8 hp9 h => ?_)
      refine mjq_istore_n (lo' := [some (.ref l0), some (.int l1), some (.int l2), some (.int v8)]) D_13_35 (Nat.le_of_ble_eq_true rfl) rfl ?_
      refine mjr_aload_n (x := l0) D_13_36 rfl ?_
      refine mjq_gR D_13_37 fr_1_9 h (fun v10 h => ?_)
      refine mjq_vN (As := []) (rest := []) D_13_40 mr_1_137 V_166 rfl rfl rfl hR (Nat.le_refl _) h1 h2 h (fun  hp11 h => ?_)
      refine mjr_aload_n (x := l0) D_13_43 rfl ?_
      refine mjr_iload_n (x := l1) D_13_44 rfl ?_
      refine mjr_aload_n (x := l0) D_13_45 rfl ?_
      refine mjq_vI (As := []) (rest := [.int l1, .ref l0]) D_13_46 mr_1_243 V_14 rfl rfl rfl hR (Nat.le_refl _) h1 h2 h (fun v12 hp13 h => ?_)
      refine mjr_iload_n (x := v8) D_13_49 rfl ?_
      refine mjq_vN (As := [.int l1, .int v12, .int v8]) (rest := []) D_13_50 mr_1_231 V_28 rfl rfl rfl hR (Nat.le_refl _) h1 h2 h (fun  hp14 h => ?_)
      refine mjr_aload_n (x := l0) D_13_53 rfl ?_
      refine mjr_iload_n (x := v8) D_13_54 rfl ?_
      refine mjq_vI (As := [.int v8]) (rest := []) D_13_55 mr_1_234 V_29 rfl rfl rfl hR (Nat.le_refl _) h1 h2 h (fun v15 hp16 h => ?_)
      refine mjq_istore_n (lo' := [some (.ref l0), some (.int v15), some (.int l2), some (.int v8)]) D_13_58 (Nat.le_of_ble_eq_true rfl) rfl ?_
      refine mjq_iinc (x := l2) (c := (1 : Int32)) (lo' := [some (.ref l0), some (.int v15), some (.int (l2 + (1 : Int32))), some (.int v8)]) D_13_59 rfl (Nat.le_of_ble_eq_true rfl) rfl rfl ?_
      refine mjr_goto (tgt := 7) D_13_62 rfl ?_
      exact mjG.fg (lo' := [some (.ref l0), some (.int v15), some (.int (l2 + (1 : Int32))), none]) (And.intro rfl (And.intro rfl (And.intro rfl True.intro))) (hk7 _ _ _ _ _ h)
noncomputable def L_13_7 (R : mjR) (n : Nat) : Nat → Int32 → Int32 → mjH → mjU := Nat.rec (motive := fun _ => Nat → Int32 → Int32 → mjH → mjU) (fun _ _ _ _ => none) (fun _ self => b_13_7 R self) n
theorem T_13_7 {X : mjX} {d C S kc ks : Nat} {R : mjR} (hR : mjC R d) (h1 : kc ≤ C) (h2 : ks ≤ S) (n : Nat) : P_13_7 X (d + 1) C S kc ks (L_13_7 R n) := by
  induction n with
  | zero => intro _ _ _ _ _ h; exact mj_no h
  | succ n ih => exact t_13_7 hR h1 h2 ih
noncomputable def b_13_0 (R : mjR) (l0 : Nat) (hp : mjH) : mjU := rV hp l0 1 (bI (R 14 [.ref l0] hp) (fun v1 hp2 => L_13_7 R mjN l0 v1 (0 : Int32) hp2))
theorem t_13_0 {X : mjX} {d C S kc ks : Nat} {R : mjR} (hR : mjC R d) (h1 : kc ≤ C) (h2 : ks ≤ S) : P_13_0 X (d + 1) C S kc ks (b_13_0 R) := by
  intro l0 hp q h
  unfold b_13_0 at h
  refine mjr_aload_n (x := l0) D_13_0 rfl ?_
  refine mjq_vI (As := []) (rest := []) D_13_1 mr_1_243 V_14 rfl rfl rfl hR (Nat.le_refl _) h1 h2 h (fun v1 hp2 h => ?_)
  refine mjq_istore_n (lo' := [some (.ref l0), some (.int v1), none, none]) D_13_4 (Nat.le_of_ble_eq_true rfl) rfl ?_
  refine mjq_ic (v := (0 : Int32)) D_13_5 rfl ?_
  refine mjq_istore_n (lo' := [some (.ref l0), some (.int v1), some (.int (0 : Int32)), none]) D_13_6 (Nat.le_of_ble_eq_true rfl) rfl ?_
  exact (T_13_7 hR h1 h2 mjN) _ _ _ _ _ h
noncomputable def f_13 (R : mjR) (a0 : Nat) (hp : mjH) : mjU := b_13_0 R a0 hp
theorem c_13 {R : mjR} {d : Nat} (hR : mjC R d) {a0 : Nat} {hp : mjH} {q : Option Value × mjH} (h : f_13 R a0 hp = some q) : mjM (d + 1) 0 0 13 [.ref a0] hp (mjEq q) :=
  mjM_of Ja_13 (Nat.le_of_ble_eq_true rfl) (mjG.fg (lo' := [some (.ref a0), none, none, none]) (And.intro rfl True.intro) ((t_13_0 hR (Nat.le_refl 0) (Nat.le_refl 0)) a0 hp q h))
def J_14 : mjI := (⟨"OwnerHeap$Coder", "codeUnit", "()I"⟩, 1, prog_3_method_26_code, 2, (some .int), 0, false)
theorem Ja_14 : mjMt 14 = some J_14 := by rfl
theorem D_14_0 : decode J_14.2.2.1 0 = .ok (.aload_n 0, 1) := dzq_42 (by decide +kernel)
theorem D_14_1 : decode J_14.2.2.1 1 = .ok (.getfield 9, 3) := dzq_180 (by decide +kernel)
theorem D_14_4 : decode J_14.2.2.1 4 = .ok (.bipush 45, 2) := dzq_16 (by decide +kernel)
theorem D_14_6 : decode J_14.2.2.1 6 = .ok (.invokevirtual 115, 3) := dzq_182 (by decide +kernel)
theorem D_14_9 : decode J_14.2.2.1 9 = .ok (.ifCond .ne 8, 3) := dzq_154 (by decide +kernel)
theorem D_14_12 : decode J_14.2.2.1 12 = .ok (.aload_n 0, 1) := dzq_42 (by decide +kernel)
theorem D_14_13 : decode J_14.2.2.1 13 = .ok (.invokevirtual 252, 3) := dzq_182 (by decide +kernel)
theorem D_14_16 : decode J_14.2.2.1 16 = .ok (.ireturn, 1) := dzq_172 (by decide +kernel)
theorem D_14_17 : decode J_14.2.2.1 17 = .ok (.aload_n 0, 1) := dzq_42 (by decide +kernel)
theorem D_14_18 : decode J_14.2.2.1 18 = .ok (.getfield 9, 3) := dzq_180 (by decide +kernel)
theorem D_14_21 : decode J_14.2.2.1 21 = .ok (.invokevirtual 111, 3) := dzq_182 (by decide +kernel)
theorem D_14_24 : decode J_14.2.2.1 24 = .ok (.istore_n 1, 1) := dzq_60 (by decide +kernel)
theorem D_14_25 : decode J_14.2.2.1 25 = .ok (.aload_n 0, 1) := dzq_42 (by decide +kernel)
theorem D_14_26 : decode J_14.2.2.1 26 = .ok (.getfield 9, 3) := dzq_180 (by decide +kernel)
theorem D_14_29 : decode J_14.2.2.1 29 = .ok (.invokevirtual 137, 3) := dzq_182 (by decide +kernel)
theorem D_14_32 : decode J_14.2.2.1 32 = .ok (.aload_n 0, 1) := dzq_42 (by decide +kernel)
theorem D_14_33 : decode J_14.2.2.1 33 = .ok (.aload_n 0, 1) := dzq_42 (by decide +kernel)
theorem D_14_34 : decode J_14.2.2.1 34 = .ok (.invokevirtual 243, 3) := dzq_182 (by decide +kernel)
theorem D_14_37 : decode J_14.2.2.1 37 = .ok (.iload_n 1, 1) := dzq_27 (by decide +kernel)
theorem D_14_38 : decode J_14.2.2.1 38 = .ok (.invokevirtual 222, 3) := dzq_182 (by decide +kernel)
theorem D_14_41 : decode J_14.2.2.1 41 = .ok (.aload_n 0, 1) := dzq_42 (by decide +kernel)
theorem D_14_42 : decode J_14.2.2.1 42 = .ok (.getfield 38, 3) := dzq_180 (by decide +kernel)
theorem D_14_45 : decode J_14.2.2.1 45 = .ok (.bipush 16, 2) := dzq_16 (by decide +kernel)
theorem D_14_47 : decode J_14.2.2.1 47 = .ok (.iconst 0, 1) := dzq_3 (by decide +kernel)
theorem D_14_48 : decode J_14.2.2.1 48 = .ok (.aload_n 0, 1) := dzq_42 (by decide +kernel)
theorem D_14_49 : decode J_14.2.2.1 49 = .ok (.getfield 9, 3) := dzq_180 (by decide +kernel)
theorem D_14_52 : decode J_14.2.2.1 52 = .ok (.iload_n 1, 1) := dzq_27 (by decide +kernel)
theorem D_14_53 : decode J_14.2.2.1 53 = .ok (.invokevirtual 148, 3) := dzq_182 (by decide +kernel)
theorem D_14_56 : decode J_14.2.2.1 56 = .ok (.invokevirtual 95, 3) := dzq_182 (by decide +kernel)
theorem D_14_59 : decode J_14.2.2.1 59 = .ok (.pop, 1) := dzq_87 (by decide +kernel)
theorem D_14_60 : decode J_14.2.2.1 60 = .ok (.iconst (-1), 1) := dzq_2 (by decide +kernel)
theorem D_14_61 : decode J_14.2.2.1 61 = .ok (.ireturn, 1) := dzq_172 (by decide +kernel)
def P_14_0 (X : mjX) (d C S kc ks : Nat) (k : Nat → mjH → mjU) : Prop := ∀ (l0 : Nat) (hp : mjH) (q : Option Value × mjH), k l0 hp = some q → mjG X d C S J_14 (mjEq q) 0 [some (.ref l0), none] [] hp kc ks
noncomputable def b_14_0 (R : mjR) (l0 : Nat) (hp : mjH) : mjU := gR hp l0 1 0 (fun v1 => rV hp v1 9 (bI (R 164 [.ref v1, .int (45 : Int32)] hp) (fun v2 hp3 => (if v2 = 0 then rV hp3 l0 1 (bI (R 15 [.ref l0] hp3) (fun v18 hp19 => some (some (.int v18), hp19))) else gR hp3 l0 1 0 (fun v4 => rV hp3 v4 9 (bI (R 167 [.ref v4] hp3) (fun v5 hp6 => gR hp6 l0 1 0 (fun v7 => rV hp6 v7 9 (bN (R 166 [.ref v7] hp6) (fun  hp8 => rV hp8 l0 1 (bI (R 14 [.ref l0] hp8) (fun v9 hp10 => rV hp10 l0 1 (bN (R 27 [.ref l0, .int v9, .int v5] hp10) (fun  hp11 => gR hp11 l0 1 5 (fun v12 => gR hp11 l0 1 0 (fun v13 => rV hp11 v13 9 (bI (R 168 [.ref v13, .int v5] hp11) (fun v14 hp15 => rV hp15 v12 0 (bI (R 1 [.ref v12, .int (16 : Int32), .int (0 : Int32), .int v14] hp15) (fun v16 hp17 => some (some (.int (-1 : Int32)), hp17)))))))))))))))))))))
theorem t_14_0 {X : mjX} {d C S kc ks : Nat} {R : mjR} (hR : mjC R d) (h1 : kc ≤ C) (h2 : ks ≤ S) : P_14_0 X (d + 1) C S kc ks (b_14_0 R) := by
  intro l0 hp q h
  unfold b_14_0 at h
  refine mjr_aload_n (x := l0) D_14_0 rfl ?_
  refine mjq_gR D_14_1 fr_1_9 h (fun v1 h => ?_)
  refine mjq_bi (v := (45 : Int32)) D_14_4 rfl ?_
  refine mjq_vI (As := [.int (45 : Int32)]) (rest := []) D_14_6 mr_1_115 V_164 rfl rfl rfl hR (Nat.le_refl _) h1 h2 h (fun v2 hp3 h => ?_)
  refine mjq_if_ne (tgt := 17) D_14_9 rfl h (fun h => ?_) (fun h => ?_)
  · refine mjr_aload_n (x := l0) D_14_17 rfl ?_
    refine mjq_gR D_14_18 fr_1_9 h (fun v4 h => ?_)
    refine mjq_vI (As := []) (rest := []) D_14_21 mr_1_111 V_167 rfl rfl rfl hR (Nat.le_refl _) h1 h2 h (fun v5 hp6 h => ?_)
    refine mjq_istore_n (lo' := [some (.ref l0), some (.int v5)]) D_14_24 (Nat.le_of_ble_eq_true rfl) rfl ?_
    refine mjr_aload_n (x := l0) D_14_25 rfl ?_
    refine mjq_gR D_14_26 fr_1_9 h (fun v7 h => ?_)
    refine mjq_vN (As := []) (rest := []) D_14_29 mr_1_137 V_166 rfl rfl rfl hR (Nat.le_refl _) h1 h2 h (fun  hp8 h => ?_)
    refine mjr_aload_n (x := l0) D_14_32 rfl ?_
    refine mjr_aload_n (x := l0) D_14_33 rfl ?_
    refine mjq_vI (As := []) (rest := [.ref l0]) D_14_34 mr_1_243 V_14 rfl rfl rfl hR (Nat.le_refl _) h1 h2 h (fun v9 hp10 h => ?_)
    refine mjr_iload_n (x := v5) D_14_37 rfl ?_
    refine mjq_vN (As := [.int v9, .int v5]) (rest := []) D_14_38 mr_1_222 V_27 rfl rfl rfl hR (Nat.le_refl _) h1 h2 h (fun  hp11 h => ?_)
    refine mjr_aload_n (x := l0) D_14_41 rfl ?_
    refine mjq_gR D_14_42 fr_1_38 h (fun v12 h => ?_)
    refine mjq_bi (v := (16 : Int32)) D_14_45 rfl ?_
    refine mjq_ic (v := (0 : Int32)) D_14_47 rfl ?_
    refine mjr_aload_n (x := l0) D_14_48 rfl ?_
    refine mjq_gR D_14_49 fr_1_9 h (fun v13 h => ?_)
    refine mjr_iload_n (x := v5) D_14_52 rfl ?_
    refine mjq_vI (As := [.int v5]) (rest := [.int (0 : Int32), .int (16 : Int32), .ref v12]) D_14_53 mr_1_148 V_168 rfl rfl rfl hR (Nat.le_refl _) h1 h2 h (fun v14 hp15 h => ?_)
    refine mjq_vI (As := [.int (16 : Int32), .int (0 : Int32), .int v14]) (rest := []) D_14_56 mr_1_95 V_1 rfl rfl rfl hR (Nat.le_refl _) h1 h2 h (fun v16 hp17 h => ?_)
    refine mjr_pop D_14_59 rfl ?_
    refine mjq_ic (v := (-1 : Int32)) D_14_60 rfl ?_
    exact mjq_ret D_14_61 rfl h1 h2 h
  · refine mjr_aload_n (x := l0) D_14_12 rfl ?_
    refine mjq_vI (As := []) (rest := []) D_14_13 mr_1_252 V_15 rfl rfl rfl hR (Nat.le_refl _) h1 h2 h (fun v18 hp19 h => ?_)
    exact mjq_ret D_14_16 rfl h1 h2 h
noncomputable def f_14 (R : mjR) (a0 : Nat) (hp : mjH) : mjU := b_14_0 R a0 hp
theorem c_14 {R : mjR} {d : Nat} (hR : mjC R d) {a0 : Nat} {hp : mjH} {q : Option Value × mjH} (h : f_14 R a0 hp = some q) : mjM (d + 1) 0 0 14 [.ref a0] hp (mjEq q) :=
  mjM_of Ja_14 (Nat.le_of_ble_eq_true rfl) (mjG.fg (lo' := [some (.ref a0), none]) (And.intro rfl True.intro) ((t_14_0 hR (Nat.le_refl 0) (Nat.le_refl 0)) a0 hp q h))
def J_15 : mjI := (⟨"OwnerHeap$Coder", "codePost", "()I"⟩, 1, prog_3_method_27_code, 6, (some .int), 0, false)
theorem Ja_15 : mjMt 15 = some J_15 := by rfl
theorem D_15_0 : decode J_15.2.2.1 0 = .ok (.aload_n 0, 1) := dzq_42 (by decide +kernel)
theorem D_15_1 : decode J_15.2.2.1 1 = .ok (.getfield 9, 3) := dzq_180 (by decide +kernel)
theorem D_15_4 : decode J_15.2.2.1 4 = .ok (.bipush 12, 2) := dzq_16 (by decide +kernel)
theorem D_15_6 : decode J_15.2.2.1 6 = .ok (.invokevirtual 115, 3) := dzq_182 (by decide +kernel)
theorem D_15_9 : decode J_15.2.2.1 9 = .ok (.istore_n 1, 1) := dzq_60 (by decide +kernel)
theorem D_15_10 : decode J_15.2.2.1 10 = .ok (.aload_n 0, 1) := dzq_42 (by decide +kernel)
theorem D_15_11 : decode J_15.2.2.1 11 = .ok (.invokevirtual 255, 3) := dzq_182 (by decide +kernel)
theorem D_15_14 : decode J_15.2.2.1 14 = .ok (.istore_n 2, 1) := dzq_61 (by decide +kernel)
theorem D_15_15 : decode J_15.2.2.1 15 = .ok (.iconst 0, 1) := dzq_3 (by decide +kernel)
theorem D_15_16 : decode J_15.2.2.1 16 = .ok (.istore_n 3, 1) := dzq_62 (by decide +kernel)
theorem D_15_17 : decode J_15.2.2.1 17 = .ok (.iload_n 3, 1) := dzq_29 (by decide +kernel)
theorem D_15_18 : decode J_15.2.2.1 18 = .ok (.aload_n 0, 1) := dzq_42 (by decide +kernel)
theorem D_15_19 : decode J_15.2.2.1 19 = .ok (.getfield 9, 3) := dzq_180 (by decide +kernel)
theorem D_15_22 : decode J_15.2.2.1 22 = .ok (.invokevirtual 140, 3) := dzq_182 (by decide +kernel)
theorem D_15_25 : decode J_15.2.2.1 25 = .ok (.if_icmp .ge 120, 3) := dzq_162 (by decide +kernel)
theorem D_15_28 : decode J_15.2.2.1 28 = .ok (.aload_n 0, 1) := dzq_42 (by decide +kernel)
theorem D_15_29 : decode J_15.2.2.1 29 = .ok (.getfield 9, 3) := dzq_180 (by decide +kernel)
theorem D_15_32 : decode J_15.2.2.1 32 = .ok (.bipush 46, 2) := dzq_16 (by decide +kernel)
theorem D_15_34 : decode J_15.2.2.1 34 = .ok (.invokevirtual 115, 3) := dzq_182 (by decide +kernel)
theorem D_15_37 : decode J_15.2.2.1 37 = .ok (.ifCond .ne 15, 3) := dzq_154 (by decide +kernel)
theorem D_15_40 : decode J_15.2.2.1 40 = .ok (.aload_n 0, 1) := dzq_42 (by decide +kernel)
theorem D_15_41 : decode J_15.2.2.1 41 = .ok (.getfield 9, 3) := dzq_180 (by decide +kernel)
theorem D_15_44 : decode J_15.2.2.1 44 = .ok (.bipush 20, 2) := dzq_16 (by decide +kernel)
theorem D_15_46 : decode J_15.2.2.1 46 = .ok (.invokevirtual 115, 3) := dzq_182 (by decide +kernel)
theorem D_15_49 : decode J_15.2.2.1 49 = .ok (.ifCond .eq 96, 3) := dzq_153 (by decide +kernel)
theorem D_15_52 : decode J_15.2.2.1 52 = .ok (.aload_n 0, 1) := dzq_42 (by decide +kernel)
theorem D_15_53 : decode J_15.2.2.1 53 = .ok (.getfield 9, 3) := dzq_180 (by decide +kernel)
theorem D_15_56 : decode J_15.2.2.1 56 = .ok (.invokevirtual 111, 3) := dzq_182 (by decide +kernel)
theorem D_15_59 : decode J_15.2.2.1 59 = .ok (.istore 4, 2) := dzq_54 (by decide +kernel)
theorem D_15_61 : decode J_15.2.2.1 61 = .ok (.aload_n 0, 1) := dzq_42 (by decide +kernel)
theorem D_15_62 : decode J_15.2.2.1 62 = .ok (.getfield 9, 3) := dzq_180 (by decide +kernel)
theorem D_15_65 : decode J_15.2.2.1 65 = .ok (.invokevirtual 137, 3) := dzq_182 (by decide +kernel)
theorem D_15_68 : decode J_15.2.2.1 68 = .ok (.aload_n 0, 1) := dzq_42 (by decide +kernel)
theorem D_15_69 : decode J_15.2.2.1 69 = .ok (.getfield 9, 3) := dzq_180 (by decide +kernel)
theorem D_15_72 : decode J_15.2.2.1 72 = .ok (.iload 4, 2) := dzq_21 (by decide +kernel)
theorem D_15_74 : decode J_15.2.2.1 74 = .ok (.invokevirtual 200, 3) := dzq_182 (by decide +kernel)
theorem D_15_77 : decode J_15.2.2.1 77 = .ok (.bipush 46, 2) := dzq_16 (by decide +kernel)
theorem D_15_79 : decode J_15.2.2.1 79 = .ok (.if_icmp .ne 13, 3) := dzq_160 (by decide +kernel)
theorem D_15_82 : decode J_15.2.2.1 82 = .ok (.aload_n 0, 1) := dzq_42 (by decide +kernel)
theorem D_15_83 : decode J_15.2.2.1 83 = .ok (.iload_n 2, 1) := dzq_28 (by decide +kernel)
theorem D_15_84 : decode J_15.2.2.1 84 = .ok (.iload_n 1, 1) := dzq_27 (by decide +kernel)
theorem D_15_85 : decode J_15.2.2.1 85 = .ok (.invokevirtual 258, 3) := dzq_182 (by decide +kernel)
theorem D_15_88 : decode J_15.2.2.1 88 = .ok (.istore_n 2, 1) := dzq_61 (by decide +kernel)
theorem D_15_89 : decode J_15.2.2.1 89 = .ok (.goto 48, 3) := dzq_167 (by decide +kernel)
theorem D_15_92 : decode J_15.2.2.1 92 = .ok (.aload_n 0, 1) := dzq_42 (by decide +kernel)
theorem D_15_93 : decode J_15.2.2.1 93 = .ok (.getfield 19, 3) := dzq_180 (by decide +kernel)
theorem D_15_96 : decode J_15.2.2.1 96 = .ok (.aload_n 0, 1) := dzq_42 (by decide +kernel)
theorem D_15_97 : decode J_15.2.2.1 97 = .ok (.getfield 71, 3) := dzq_180 (by decide +kernel)
theorem D_15_100 : decode J_15.2.2.1 100 = .ok (.iconst 0, 1) := dzq_3 (by decide +kernel)
theorem D_15_101 : decode J_15.2.2.1 101 = .ok (.invokevirtual 262, 3) := dzq_182 (by decide +kernel)
theorem D_15_104 : decode J_15.2.2.1 104 = .ok (.istore 5, 2) := dzq_54 (by decide +kernel)
theorem D_15_106 : decode J_15.2.2.1 106 = .ok (.aload_n 0, 1) := dzq_42 (by decide +kernel)
theorem D_15_107 : decode J_15.2.2.1 107 = .ok (.iload_n 2, 1) := dzq_28 (by decide +kernel)
theorem D_15_108 : decode J_15.2.2.1 108 = .ok (.iload 4, 2) := dzq_21 (by decide +kernel)
theorem D_15_110 : decode J_15.2.2.1 110 = .ok (.invokevirtual 265, 3) := dzq_182 (by decide +kernel)
theorem D_15_113 : decode J_15.2.2.1 113 = .ok (.aload_n 0, 1) := dzq_42 (by decide +kernel)
theorem D_15_114 : decode J_15.2.2.1 114 = .ok (.getfield 38, 3) := dzq_180 (by decide +kernel)
theorem D_15_117 : decode J_15.2.2.1 117 = .ok (.bipush 15, 2) := dzq_16 (by decide +kernel)
theorem D_15_119 : decode J_15.2.2.1 119 = .ok (.iload 5, 2) := dzq_21 (by decide +kernel)
theorem D_15_121 : decode J_15.2.2.1 121 = .ok (.aload_n 0, 1) := dzq_42 (by decide +kernel)
theorem D_15_122 : decode J_15.2.2.1 122 = .ok (.getfield 9, 3) := dzq_180 (by decide +kernel)
theorem D_15_125 : decode J_15.2.2.1 125 = .ok (.iload 4, 2) := dzq_21 (by decide +kernel)
theorem D_15_127 : decode J_15.2.2.1 127 = .ok (.invokevirtual 148, 3) := dzq_182 (by decide +kernel)
theorem D_15_130 : decode J_15.2.2.1 130 = .ok (.invokevirtual 95, 3) := dzq_182 (by decide +kernel)
theorem D_15_133 : decode J_15.2.2.1 133 = .ok (.pop, 1) := dzq_87 (by decide +kernel)
theorem D_15_134 : decode J_15.2.2.1 134 = .ok (.iload 5, 2) := dzq_21 (by decide +kernel)
theorem D_15_136 : decode J_15.2.2.1 136 = .ok (.istore_n 2, 1) := dzq_61 (by decide +kernel)
theorem D_15_137 : decode J_15.2.2.1 137 = .ok (.iconst 0, 1) := dzq_3 (by decide +kernel)
theorem D_15_138 : decode J_15.2.2.1 138 = .ok (.istore_n 1, 1) := dzq_60 (by decide +kernel)
theorem D_15_139 : decode J_15.2.2.1 139 = .ok (.iinc 3 1, 3) := dzq_132 (by decide +kernel)
theorem D_15_142 : decode J_15.2.2.1 142 = .ok (.goto (-125), 3) := dzq_167 (by decide +kernel)
theorem D_15_145 : decode J_15.2.2.1 145 = .ok (.iload_n 2, 1) := dzq_28 (by decide +kernel)
theorem D_15_146 : decode J_15.2.2.1 146 = .ok (.ireturn, 1) := dzq_172 (by decide +kernel)
def P_15_145 (X : mjX) (d C S kc ks : Nat) (k : Int32 → mjH → mjU) : Prop := ∀ (l2 : Int32) (hp : mjH) (q : Option Value × mjH), k l2 hp = some q → mjG X d C S J_15 (mjEq q) 145 [none, none, some (.int l2), none, none, none] [] hp kc ks
def P_15_137 (X : mjX) (d C S kc ks : Nat) (k : Nat → Int32 → Int32 → mjH → mjU) : Prop := ∀ (l0 : Nat) (l2 : Int32) (l3 : Int32) (hp : mjH) (q : Option Value × mjH), k l0 l2 l3 hp = some q → mjG X d C S J_15 (mjEq q) 137 [some (.ref l0), none, some (.int l2), some (.int l3), none, none] [] hp kc ks
def P_15_52 (X : mjX) (d C S kc ks : Nat) (k : Nat → Int32 → Int32 → Int32 → mjH → mjU) : Prop := ∀ (l0 : Nat) (l1 : Int32) (l2 : Int32) (l3 : Int32) (hp : mjH) (q : Option Value × mjH), k l0 l1 l2 l3 hp = some q → mjG X d C S J_15 (mjEq q) 52 [some (.ref l0), some (.int l1), some (.int l2), some (.int l3), none, none] [] hp kc ks
def P_15_17 (X : mjX) (d C S kc ks : Nat) (k : Nat → Int32 → Int32 → Int32 → mjH → mjU) : Prop := ∀ (l0 : Nat) (l1 : Int32) (l2 : Int32) (l3 : Int32) (hp : mjH) (q : Option Value × mjH), k l0 l1 l2 l3 hp = some q → mjG X d C S J_15 (mjEq q) 17 [some (.ref l0), some (.int l1), some (.int l2), some (.int l3), none, none] [] hp kc ks
def P_15_0 (X : mjX) (d C S kc ks : Nat) (k : Nat → mjH → mjU) : Prop := ∀ (l0 : Nat) (hp : mjH) (q : Option Value × mjH), k l0 hp = some q → mjG X d C S J_15 (mjEq q) 0 [some (.ref l0), none, none, none, none, none] [] hp kc ks
noncomputable def b_15_145 (R : mjR) (l2 : Int32) (hp : mjH) : mjU := some (some (.int l2), hp)
theorem t_15_145 {X : mjX} {d C S kc ks : Nat} {R : mjR} (hR : mjC R d) (h1 : kc ≤ C) (h2 : ks ≤ S) : P_15_145 X (d + 1) C S kc ks (b_15_145 R) := by
  intro l2 hp q h
  unfold b_15_145 at h
  refine mjr_iload_n (x := l2) D_15_145 rfl ?_
  exact mjq_ret D_15_146 rfl h1 h2 h
noncomputable def b_15_137 (R : mjR) (k17 : Nat → Int32 → Int32 → Int32 → mjH → mjU) (l0 : Nat) (l2 : Int32) (l3 : Int32) (hp : mjH) : mjU := k17 l0 (0 : Int32) l2 (l3 + (1 : Int32)) hp
theorem t_15_137 {X : mjX} {d C S kc ks : Nat} {R : mjR} (hR : mjC R d) (h1 : kc ≤ C) (h2 : ks ≤ S) {k17 : Nat → Int32 → Int32 → Int32 → mjH → mjU} (hk17 : P_15_17 X (d + 1) C S kc ks k17) : P_15_137 X (d + 1) C S kc ks (b_15_137 R k17) := by
  intro l0 l2 l3 hp q h
  unfold b_15_137 at h
  refine mjq_ic (v := (0 : Int32)) D_15_137 rfl ?_
  refine mjq_istore_n (lo' := [some (.ref l0), some (.int (0 : Int32)), some (.int l2), some (.int l3), none, none]) D_15_138 (Nat.le_of_ble_eq_true rfl) rfl ?_
  refine mjq_iinc (x := l3) (c := (1 : Int32)) (lo' := [some (.ref l0), some (.int (0 : Int32)), some (.int l2), some (.int (l3 + (1 : Int32))), none, none]) D_15_139 rfl (Nat.le_of_ble_eq_true rfl) rfl rfl ?_
  refine mjr_goto (tgt := 17) D_15_142 rfl ?_
  exact hk17 _ _ _ _ _ _ h
noncomputable def b_15_52 (R : mjR) (k17 : Nat → Int32 → Int32 → Int32 → mjH → mjU) (l0 : Nat) (l1 : Int32) (l2 : Int32) (l3 : Int32) (hp : mjH) : mjU := gR hp l0 1 0 (fun v1 => rV hp v1 9 (bI (R 167 [.ref v1] hp) (fun v2 hp3 => gR hp3 l0 1 0 (fun v4 => rV hp3 v4 9 (bN (R 166 [.ref v4] hp3) (fun  hp5 => gR hp5 l0 1 0 (fun v6 => rV hp5 v6 9 (bI (R 180 [.ref v6, .int v2] hp5) (fun v7 hp8 => (if v7 = (46 : Int32) then rV hp8 l0 1 (bI (R 22 [.ref l0, .int l2, .int l1] hp8) (fun v20 hp21 => b_15_137 R k17 l0 v20 l3 hp21)) else gR hp8 l0 1 2 (fun v9 => gI hp8 l0 1 6 (fun v10 => rV hp8 v9 4 (bI (R 60 [.ref v9, .int v10, .int (0 : Int32)] hp8) (fun v11 hp12 => rV hp12 l0 1 (bN (R 26 [.ref l0, .int l2, .int v2] hp12) (fun  hp13 => gR hp13 l0 1 5 (fun v14 => gR hp13 l0 1 0 (fun v15 => rV hp13 v15 9 (bI (R 168 [.ref v15, .int v2] hp13) (fun v16 hp17 => rV hp17 v14 0 (bI (R 1 [.ref v14, .int (15 : Int32), .int v11, .int v16] hp17) (fun v18 hp19 => b_15_137 R k17 l0 v11 l3 hp19))))))))))))))))))))))
theorem t_15_52 {X : mjX} {d C S kc ks : Nat} {R : mjR} (hR : mjC R d) (h1 : kc ≤ C) (h2 : ks ≤ S) {k17 : Nat → Int32 → Int32 → Int32 → mjH → mjU} (hk17 : P_15_17 X (d + 1) C S kc ks k17) : P_15_52 X (d + 1) C S kc ks (b_15_52 R k17) := by
  intro l0 l1 l2 l3 hp q h
  unfold b_15_52 at h
  refine mjr_aload_n (x := l0) D_15_52 rfl ?_
  refine mjq_gR D_15_53 fr_1_9 h (fun v1 h => ?_)
  refine mjq_vI (As := []) (rest := []) D_15_56 mr_1_111 V_167 rfl rfl rfl hR (Nat.le_refl _) h1 h2 h (fun v2 hp3 h => ?_)
  refine mjq_istore (lo' := [some (.ref l0), some (.int l1), some (.int l2), some (.int l3), some (.int v2), none]) D_15_59 (Nat.le_of_ble_eq_true rfl) rfl ?_
  refine mjr_aload_n (x := l0) D_15_61 rfl ?_
  refine mjq_gR D_15_62 fr_1_9 h (fun v4 h => ?_)
  refine mjq_vN (As := []) (rest := []) D_15_65 mr_1_137 V_166 rfl rfl rfl hR (Nat.le_refl _) h1 h2 h (fun  hp5 h => ?_)
  refine mjr_aload_n (x := l0) D_15_68 rfl ?_
  refine mjq_gR D_15_69 fr_1_9 h (fun v6 h => ?_)
  refine mjr_iload (x := v2) D_15_72 rfl ?_
  refine mjq_vI (As := [.int v2]) (rest := []) D_15_74 mr_1_200 V_180 rfl rfl rfl hR (Nat.le_refl _) h1 h2 h (fun v7 hp8 h => ?_)
  refine mjq_bi (v := (46 : Int32)) D_15_77 rfl ?_
  refine mjq_icmp_ne (tgt := 92) D_15_79 rfl h (fun h => ?_) (fun h => ?_)
  · refine mjr_aload_n (x := l0) D_15_92 rfl ?_
    refine mjq_gR D_15_93 fr_1_19 h (fun v9 h => ?_)
    refine mjr_aload_n (x := l0) D_15_96 rfl ?_
    refine mjq_gI D_15_97 fr_1_71 h (fun v10 h => ?_)
    refine mjq_ic (v := (0 : Int32)) D_15_100 rfl ?_
    refine mjq_vI (As := [.int v10, .int (0 : Int32)]) (rest := []) D_15_101 mr_1_262 V_60 rfl rfl rfl hR (Nat.le_refl _) h1 h2 h (fun v11 hp12 h => ?_)
    refine mjq_istore (lo' := [some (.ref l0), some (.int l1), some (.int l2), some (.int l3), some (.int v2), some (.int v11)]) D_15_104 (Nat.le_of_ble_eq_true rfl) rfl ?_
    refine mjr_aload_n (x := l0) D_15_106 rfl ?_
    refine mjr_iload_n (x := l2) D_15_107 rfl ?_
    refine mjr_iload (x := v2) D_15_108 rfl ?_
    refine mjq_vN (As := [.int l2, .int v2]) (rest := []) D_15_110 mr_1_265 V_26 rfl rfl rfl hR (Nat.le_refl _) h1 h2 h (fun  hp13 h => ?_)
    refine mjr_aload_n (x := l0) D_15_113 rfl ?_
    refine mjq_gR D_15_114 fr_1_38 h (fun v14 h => ?_)
    refine mjq_bi (v := (15 : Int32)) D_15_117 rfl ?_
    refine mjr_iload (x := v11) D_15_119 rfl ?_
    refine mjr_aload_n (x := l0) D_15_121 rfl ?_
    refine mjq_gR D_15_122 fr_1_9 h (fun v15 h => ?_)
    refine mjr_iload (x := v2) D_15_125 rfl ?_
    refine mjq_vI (As := [.int v2]) (rest := [.int v11, .int (15 : Int32), .ref v14]) D_15_127 mr_1_148 V_168 rfl rfl rfl hR (Nat.le_refl _) h1 h2 h (fun v16 hp17 h => ?_)
    refine mjq_vI (As := [.int (15 : Int32), .int v11, .int v16]) (rest := []) D_15_130 mr_1_95 V_1 rfl rfl rfl hR (Nat.le_refl _) h1 h2 h (fun v18 hp19 h => ?_)
    refine mjr_pop D_15_133 rfl ?_
    refine mjr_iload (x := v11) D_15_134 rfl ?_
    refine mjq_istore_n (lo' := [some (.ref l0), some (.int l1), some (.int v11), some (.int l3), some (.int v2), some (.int v11)]) D_15_136 (Nat.le_of_ble_eq_true rfl) rfl ?_
    exact mjG.fg (lo' := [some (.ref l0), none, some (.int v11), some (.int l3), none, none]) (And.intro rfl (And.intro rfl (And.intro rfl True.intro))) ((t_15_137 hR h1 h2 hk17) _ _ _ _ _ h)
  · refine mjr_aload_n (x := l0) D_15_82 rfl ?_
    refine mjr_iload_n (x := l2) D_15_83 rfl ?_
    refine mjr_iload_n (x := l1) D_15_84 rfl ?_
    refine mjq_vI (As := [.int l2, .int l1]) (rest := []) D_15_85 mr_1_258 V_22 rfl rfl rfl hR (Nat.le_refl _) h1 h2 h (fun v20 hp21 h => ?_)
    refine mjq_istore_n (lo' := [some (.ref l0), some (.int l1), some (.int v20), some (.int l3), some (.int v2), none]) D_15_88 (Nat.le_of_ble_eq_true rfl) rfl ?_
    refine mjr_goto (tgt := 137) D_15_89 rfl ?_
    exact mjG.fg (lo' := [some (.ref l0), none, some (.int v20), some (.int l3), none, none]) (And.intro rfl (And.intro rfl (And.intro rfl True.intro))) ((t_15_137 hR h1 h2 hk17) _ _ _ _ _ h)
noncomputable def b_15_17 (R : mjR) (k17 : Nat → Int32 → Int32 → Int32 → mjH → mjU) (l0 : Nat) (l1 : Int32) (l2 : Int32) (l3 : Int32) (hp : mjH) : mjU := gR hp l0 1 0 (fun v1 => rV hp v1 9 (bI (R 171 [.ref v1] hp) (fun v2 hp3 => (if v2 ≤ l3 then b_15_145 R l2 hp3 else gR hp3 l0 1 0 (fun v4 => rV hp3 v4 9 (bI (R 164 [.ref v4, .int (46 : Int32)] hp3) (fun v5 hp6 => (if v5 = 0 then gR hp6 l0 1 0 (fun v7 => rV hp6 v7 9 (bI (R 164 [.ref v7, .int (20 : Int32)] hp6) (fun v8 hp9 => (if v8 = 0 then b_15_145 R l2 hp9 else b_15_52 R k17 l0 l1 l2 l3 hp9)))) else b_15_52 R k17 l0 l1 l2 l3 hp6))))))))
theorem t_15_17 {X : mjX} {d C S kc ks : Nat} {R : mjR} (hR : mjC R d) (h1 : kc ≤ C) (h2 : ks ≤ S) {k17 : Nat → Int32 → Int32 → Int32 → mjH → mjU} (hk17 : P_15_17 X (d + 1) C S kc ks k17) : P_15_17 X (d + 1) C S kc ks (b_15_17 R k17) := by
  intro l0 l1 l2 l3 hp q h
  unfold b_15_17 at h
  refine mjr_iload_n (x := l3) D_15_17 rfl ?_
  refine mjr_aload_n (x := l0) D_15_18 rfl ?_
  refine mjq_gR D_15_19 fr_1_9 h (fun v1 h => ?_)
  refine mjq_vI (As := []) (rest := [.int l3]) D_15_22 mr_1_140 V_171 rfl rfl rfl hR (Nat.le_refl _) h1 h2 h (fun v2 hp3 h => ?_)
  refine mjq_icmp_ge (tgt := 145) D_15_25 rfl h (fun h => ?_) (fun h => ?_)
  · exact mjG.fg (lo' := [none, none, some (.int l2), none, none, none]) (And.intro rfl True.intro) ((t_15_145 hR h1 h2) _ _ _ h)
  · refine mjr_aload_n (x := l0) D_15_28 rfl ?_
    refine mjq_gR D_15_29 fr_1_9 h (fun v4 h => ?_)
    refine mjq_bi (v := (46 : Int32)) D_15_32 rfl ?_
    refine mjq_vI (As := [.int (46 : Int32)]) (rest := []) D_15_34 mr_1_115 V_164 rfl rfl rfl hR (Nat.le_refl _) h1 h2 h (fun v5 hp6 h => ?_)
    refine mjq_if_ne (tgt := 52) D_15_37 rfl h (fun h => ?_) (fun h => ?_)
    · exact (t_15_52 hR h1 h2 hk17) _ _ _ _ _ _ h
    · refine mjr_aload_n (x := l0) D_15_40 rfl ?_
      refine mjq_gR D_15_41 fr_1_9 h (fun v7 h => ?_)
      refine mjq_bi (v := (20 : Int32)) D_15_44 rfl ?_
      refine mjq_vI (As := [.int (20 : Int32)]) (rest := []) D_15_46 mr_1_115 V_164 rfl rfl rfl hR (Nat.le_refl _) h1 h2 h (fun v8 hp9 h => ?_)
      refine mjq_if_eq (tgt := 145) D_15_49 rfl h (fun h => ?_) (fun h => ?_)
      · exact mjG.fg (lo' := [none, none, some (.int l2), none, none, none]) (And.intro rfl True.intro) ((t_15_145 hR h1 h2) _ _ _ h)
      · exact (t_15_52 hR h1 h2 hk17) _ _ _ _ _ _ h
noncomputable def L_15_17 (R : mjR) (n : Nat) : Nat → Int32 → Int32 → Int32 → mjH → mjU := Nat.rec (motive := fun _ => Nat → Int32 → Int32 → Int32 → mjH → mjU) (fun _ _ _ _ _ => none) (fun _ self => b_15_17 R self) n
theorem T_15_17 {X : mjX} {d C S kc ks : Nat} {R : mjR} (hR : mjC R d) (h1 : kc ≤ C) (h2 : ks ≤ S) (n : Nat) : P_15_17 X (d + 1) C S kc ks (L_15_17 R n) := by
  induction n with
  | zero => intro _ _ _ _ _ _ h; exact mj_no h
  | succ n ih => exact t_15_17 hR h1 h2 ih
noncomputable def b_15_0 (R : mjR) (l0 : Nat) (hp : mjH) : mjU := gR hp l0 1 0 (fun v1 => rV hp v1 9 (bI (R 164 [.ref v1, .int (12 : Int32)] hp) (fun v2 hp3 => rV hp3 l0 1 (bI (R 16 [.ref l0] hp3) (fun v4 hp5 => L_15_17 R mjN l0 v2 v4 (0 : Int32) hp5)))))
theorem t_15_0 {X : mjX} {d C S kc ks : Nat} {R : mjR} (hR : mjC R d) (h1 : kc ≤ C) (h2 : ks ≤ S) : P_15_0 X (d + 1) C S kc ks (b_15_0 R) := by
  intro l0 hp q h
  unfold b_15_0 at h
  refine mjr_aload_n (x := l0) D_15_0 rfl ?_
  refine mjq_gR D_15_1 fr_1_9 h (fun v1 h => ?_)
  refine mjq_bi (v := (12 : Int32)) D_15_4 rfl ?_
  refine mjq_vI (As := [.int (12 : Int32)]) (rest := []) D_15_6 mr_1_115 V_164 rfl rfl rfl hR (Nat.le_refl _) h1 h2 h (fun v2 hp3 h => ?_)
  refine mjq_istore_n (lo' := [some (.ref l0), some (.int v2), none, none, none, none]) D_15_9 (Nat.le_of_ble_eq_true rfl) rfl ?_
  refine mjr_aload_n (x := l0) D_15_10 rfl ?_
  refine mjq_vI (As := []) (rest := []) D_15_11 mr_1_255 V_16 rfl rfl rfl hR (Nat.le_refl _) h1 h2 h (fun v4 hp5 h => ?_)
  refine mjq_istore_n (lo' := [some (.ref l0), some (.int v2), some (.int v4), none, none, none]) D_15_14 (Nat.le_of_ble_eq_true rfl) rfl ?_
  refine mjq_ic (v := (0 : Int32)) D_15_15 rfl ?_
  refine mjq_istore_n (lo' := [some (.ref l0), some (.int v2), some (.int v4), some (.int (0 : Int32)), none, none]) D_15_16 (Nat.le_of_ble_eq_true rfl) rfl ?_
  exact (T_15_17 hR h1 h2 mjN) _ _ _ _ _ _ h
noncomputable def f_15 (R : mjR) (a0 : Nat) (hp : mjH) : mjU := b_15_0 R a0 hp
theorem c_15 {R : mjR} {d : Nat} (hR : mjC R d) {a0 : Nat} {hp : mjH} {q : Option Value × mjH} (h : f_15 R a0 hp = some q) : mjM (d + 1) 0 0 15 [.ref a0] hp (mjEq q) :=
  mjM_of Ja_15 (Nat.le_of_ble_eq_true rfl) (mjG.fg (lo' := [some (.ref a0), none, none, none, none, none]) (And.intro rfl True.intro) ((t_15_0 hR (Nat.le_refl 0) (Nat.le_refl 0)) a0 hp q h))
def J_16 : mjI := (⟨"OwnerHeap$Coder", "codeAtom", "()I"⟩, 1, prog_3_method_28_code, 5, (some .int), 0, false)
theorem Ja_16 : mjMt 16 = some J_16 := by rfl
theorem D_16_0 : decode J_16.2.2.1 0 = .ok (.aload_n 0, 1) := dzq_42 (by decide +kernel)
theorem D_16_1 : decode J_16.2.2.1 1 = .ok (.getfield 9, 3) := dzq_180 (by decide +kernel)
theorem D_16_4 : decode J_16.2.2.1 4 = .ok (.invokevirtual 145, 3) := dzq_182 (by decide +kernel)
theorem D_16_7 : decode J_16.2.2.1 7 = .ok (.lookupswitch 173 #[(3, 49), (11, 129), (12, 75), (14, 80), (40, 150)], 49) := by decide +kernel
theorem D_16_56 : decode J_16.2.2.1 56 = .ok (.aload_n 0, 1) := dzq_42 (by decide +kernel)
theorem D_16_57 : decode J_16.2.2.1 57 = .ok (.invokevirtual 203, 3) := dzq_182 (by decide +kernel)
theorem D_16_60 : decode J_16.2.2.1 60 = .ok (.istore_n 1, 1) := dzq_60 (by decide +kernel)
theorem D_16_61 : decode J_16.2.2.1 61 = .ok (.aload_n 0, 1) := dzq_42 (by decide +kernel)
theorem D_16_62 : decode J_16.2.2.1 62 = .ok (.getfield 38, 3) := dzq_180 (by decide +kernel)
theorem D_16_65 : decode J_16.2.2.1 65 = .ok (.iconst 1, 1) := dzq_4 (by decide +kernel)
theorem D_16_66 : decode J_16.2.2.1 66 = .ok (.aload_n 0, 1) := dzq_42 (by decide +kernel)
theorem D_16_67 : decode J_16.2.2.1 67 = .ok (.iload_n 1, 1) := dzq_27 (by decide +kernel)
theorem D_16_68 : decode J_16.2.2.1 68 = .ok (.invokevirtual 206, 3) := dzq_182 (by decide +kernel)
theorem D_16_71 : decode J_16.2.2.1 71 = .ok (.iconst (-1), 1) := dzq_2 (by decide +kernel)
theorem D_16_72 : decode J_16.2.2.1 72 = .ok (.invokevirtual 95, 3) := dzq_182 (by decide +kernel)
theorem D_16_75 : decode J_16.2.2.1 75 = .ok (.pop, 1) := dzq_87 (by decide +kernel)
theorem D_16_76 : decode J_16.2.2.1 76 = .ok (.aload_n 0, 1) := dzq_42 (by decide +kernel)
theorem D_16_77 : decode J_16.2.2.1 77 = .ok (.iload_n 1, 1) := dzq_27 (by decide +kernel)
theorem D_16_78 : decode J_16.2.2.1 78 = .ok (.invokevirtual 213, 3) := dzq_182 (by decide +kernel)
theorem D_16_81 : decode J_16.2.2.1 81 = .ok (.ireturn, 1) := dzq_172 (by decide +kernel)
theorem D_16_82 : decode J_16.2.2.1 82 = .ok (.aload_n 0, 1) := dzq_42 (by decide +kernel)
theorem D_16_83 : decode J_16.2.2.1 83 = .ok (.invokevirtual 268, 3) := dzq_182 (by decide +kernel)
theorem D_16_86 : decode J_16.2.2.1 86 = .ok (.ireturn, 1) := dzq_172 (by decide +kernel)
theorem D_16_87 : decode J_16.2.2.1 87 = .ok (.aload_n 0, 1) := dzq_42 (by decide +kernel)
theorem D_16_88 : decode J_16.2.2.1 88 = .ok (.getfield 9, 3) := dzq_180 (by decide +kernel)
theorem D_16_91 : decode J_16.2.2.1 91 = .ok (.invokevirtual 111, 3) := dzq_182 (by decide +kernel)
theorem D_16_94 : decode J_16.2.2.1 94 = .ok (.istore_n 2, 1) := dzq_61 (by decide +kernel)
theorem D_16_95 : decode J_16.2.2.1 95 = .ok (.aload_n 0, 1) := dzq_42 (by decide +kernel)
theorem D_16_96 : decode J_16.2.2.1 96 = .ok (.getfield 9, 3) := dzq_180 (by decide +kernel)
theorem D_16_99 : decode J_16.2.2.1 99 = .ok (.invokevirtual 137, 3) := dzq_182 (by decide +kernel)
theorem D_16_102 : decode J_16.2.2.1 102 = .ok (.aload_n 0, 1) := dzq_42 (by decide +kernel)
theorem D_16_103 : decode J_16.2.2.1 103 = .ok (.getfield 19, 3) := dzq_180 (by decide +kernel)
theorem D_16_106 : decode J_16.2.2.1 106 = .ok (.aload_n 0, 1) := dzq_42 (by decide +kernel)
theorem D_16_107 : decode J_16.2.2.1 107 = .ok (.getfield 71, 3) := dzq_180 (by decide +kernel)
theorem D_16_110 : decode J_16.2.2.1 110 = .ok (.iconst 0, 1) := dzq_3 (by decide +kernel)
theorem D_16_111 : decode J_16.2.2.1 111 = .ok (.invokevirtual 262, 3) := dzq_182 (by decide +kernel)
theorem D_16_114 : decode J_16.2.2.1 114 = .ok (.istore_n 3, 1) := dzq_62 (by decide +kernel)
theorem D_16_115 : decode J_16.2.2.1 115 = .ok (.aload_n 0, 1) := dzq_42 (by decide +kernel)
theorem D_16_116 : decode J_16.2.2.1 116 = .ok (.getfield 38, 3) := dzq_180 (by decide +kernel)
theorem D_16_119 : decode J_16.2.2.1 119 = .ok (.bipush 14, 2) := dzq_16 (by decide +kernel)
theorem D_16_121 : decode J_16.2.2.1 121 = .ok (.iload_n 3, 1) := dzq_29 (by decide +kernel)
theorem D_16_122 : decode J_16.2.2.1 122 = .ok (.aload_n 0, 1) := dzq_42 (by decide +kernel)
theorem D_16_123 : decode J_16.2.2.1 123 = .ok (.getfield 9, 3) := dzq_180 (by decide +kernel)
theorem D_16_126 : decode J_16.2.2.1 126 = .ok (.iload_n 2, 1) := dzq_28 (by decide +kernel)
theorem D_16_127 : decode J_16.2.2.1 127 = .ok (.invokevirtual 148, 3) := dzq_182 (by decide +kernel)
theorem D_16_130 : decode J_16.2.2.1 130 = .ok (.invokevirtual 95, 3) := dzq_182 (by decide +kernel)
theorem D_16_133 : decode J_16.2.2.1 133 = .ok (.pop, 1) := dzq_87 (by decide +kernel)
theorem D_16_134 : decode J_16.2.2.1 134 = .ok (.iload_n 3, 1) := dzq_29 (by decide +kernel)
theorem D_16_135 : decode J_16.2.2.1 135 = .ok (.ireturn, 1) := dzq_172 (by decide +kernel)
theorem D_16_136 : decode J_16.2.2.1 136 = .ok (.aload_n 0, 1) := dzq_42 (by decide +kernel)
theorem D_16_137 : decode J_16.2.2.1 137 = .ok (.getfield 9, 3) := dzq_180 (by decide +kernel)
theorem D_16_140 : decode J_16.2.2.1 140 = .ok (.invokevirtual 137, 3) := dzq_182 (by decide +kernel)
theorem D_16_143 : decode J_16.2.2.1 143 = .ok (.aload_n 0, 1) := dzq_42 (by decide +kernel)
theorem D_16_144 : decode J_16.2.2.1 144 = .ok (.getfield 38, 3) := dzq_180 (by decide +kernel)
theorem D_16_147 : decode J_16.2.2.1 147 = .ok (.iconst 0, 1) := dzq_3 (by decide +kernel)
theorem D_16_148 : decode J_16.2.2.1 148 = .ok (.iconst 0, 1) := dzq_3 (by decide +kernel)
theorem D_16_149 : decode J_16.2.2.1 149 = .ok (.iconst (-1), 1) := dzq_2 (by decide +kernel)
theorem D_16_150 : decode J_16.2.2.1 150 = .ok (.invokevirtual 95, 3) := dzq_182 (by decide +kernel)
theorem D_16_153 : decode J_16.2.2.1 153 = .ok (.pop, 1) := dzq_87 (by decide +kernel)
theorem D_16_154 : decode J_16.2.2.1 154 = .ok (.bipush (-2), 2) := dzq_16 (by decide +kernel)
theorem D_16_156 : decode J_16.2.2.1 156 = .ok (.ireturn, 1) := dzq_172 (by decide +kernel)
theorem D_16_157 : decode J_16.2.2.1 157 = .ok (.aload_n 0, 1) := dzq_42 (by decide +kernel)
theorem D_16_158 : decode J_16.2.2.1 158 = .ok (.getfield 9, 3) := dzq_180 (by decide +kernel)
theorem D_16_161 : decode J_16.2.2.1 161 = .ok (.invokevirtual 137, 3) := dzq_182 (by decide +kernel)
theorem D_16_164 : decode J_16.2.2.1 164 = .ok (.aload_n 0, 1) := dzq_42 (by decide +kernel)
theorem D_16_165 : decode J_16.2.2.1 165 = .ok (.invokevirtual 189, 3) := dzq_182 (by decide +kernel)
theorem D_16_168 : decode J_16.2.2.1 168 = .ok (.istore 4, 2) := dzq_54 (by decide +kernel)
theorem D_16_170 : decode J_16.2.2.1 170 = .ok (.aload_n 0, 1) := dzq_42 (by decide +kernel)
theorem D_16_171 : decode J_16.2.2.1 171 = .ok (.getfield 9, 3) := dzq_180 (by decide +kernel)
theorem D_16_174 : decode J_16.2.2.1 174 = .ok (.invokevirtual 137, 3) := dzq_182 (by decide +kernel)
theorem D_16_177 : decode J_16.2.2.1 177 = .ok (.iload 4, 2) := dzq_21 (by decide +kernel)
theorem D_16_179 : decode J_16.2.2.1 179 = .ok (.ireturn, 1) := dzq_172 (by decide +kernel)
theorem D_16_180 : decode J_16.2.2.1 180 = .ok (.aload_n 0, 1) := dzq_42 (by decide +kernel)
theorem D_16_181 : decode J_16.2.2.1 181 = .ok (.getfield 38, 3) := dzq_180 (by decide +kernel)
theorem D_16_184 : decode J_16.2.2.1 184 = .ok (.iconst 0, 1) := dzq_3 (by decide +kernel)
theorem D_16_185 : decode J_16.2.2.1 185 = .ok (.aload_n 0, 1) := dzq_42 (by decide +kernel)
theorem D_16_186 : decode J_16.2.2.1 186 = .ok (.getfield 9, 3) := dzq_180 (by decide +kernel)
theorem D_16_189 : decode J_16.2.2.1 189 = .ok (.aload_n 0, 1) := dzq_42 (by decide +kernel)
theorem D_16_190 : decode J_16.2.2.1 190 = .ok (.getfield 9, 3) := dzq_180 (by decide +kernel)
theorem D_16_193 : decode J_16.2.2.1 193 = .ok (.invokevirtual 111, 3) := dzq_182 (by decide +kernel)
theorem D_16_196 : decode J_16.2.2.1 196 = .ok (.invokevirtual 125, 3) := dzq_182 (by decide +kernel)
theorem D_16_199 : decode J_16.2.2.1 199 = .ok (.l2i, 1) := by decide +kernel
theorem D_16_200 : decode J_16.2.2.1 200 = .ok (.iconst (-1), 1) := dzq_2 (by decide +kernel)
theorem D_16_201 : decode J_16.2.2.1 201 = .ok (.invokevirtual 95, 3) := dzq_182 (by decide +kernel)
theorem D_16_204 : decode J_16.2.2.1 204 = .ok (.pop, 1) := dzq_87 (by decide +kernel)
theorem D_16_205 : decode J_16.2.2.1 205 = .ok (.aload_n 0, 1) := dzq_42 (by decide +kernel)
theorem D_16_206 : decode J_16.2.2.1 206 = .ok (.getfield 9, 3) := dzq_180 (by decide +kernel)
theorem D_16_209 : decode J_16.2.2.1 209 = .ok (.invokevirtual 137, 3) := dzq_182 (by decide +kernel)
theorem D_16_212 : decode J_16.2.2.1 212 = .ok (.iconst (-1), 1) := dzq_2 (by decide +kernel)
theorem D_16_213 : decode J_16.2.2.1 213 = .ok (.ireturn, 1) := dzq_172 (by decide +kernel)
def P_16_0 (X : mjX) (d C S kc ks : Nat) (k : Nat → mjH → mjU) : Prop := ∀ (l0 : Nat) (hp : mjH) (q : Option Value × mjH), k l0 hp = some q → mjG X d C S J_16 (mjEq q) 0 [some (.ref l0), none, none, none, none] [] hp kc ks
noncomputable def b_16_0 (R : mjR) (l0 : Nat) (hp : mjH) : mjU := gR hp l0 1 0 (fun v1 => rV hp v1 9 (bI (R 173 [.ref v1] hp) (fun v2 hp3 => (if v2 = (3 : Int32) then rV hp3 l0 1 (bI (R 17 [.ref l0] hp3) (fun v5 hp6 => gR hp6 l0 1 5 (fun v7 => rV hp6 l0 1 (bI (R 19 [.ref l0, .int v5] hp6) (fun v8 hp9 => rV hp9 v7 0 (bI (R 1 [.ref v7, .int (1 : Int32), .int v8, .int (-1 : Int32)] hp9) (fun v10 hp11 => rV hp11 l0 1 (bI (R 20 [.ref l0, .int v5] hp11) (fun v12 hp13 => some (some (.int v12), hp13)))))))))) else if v2 = (11 : Int32) then gR hp3 l0 1 0 (fun v15 => rV hp3 v15 9 (bN (R 166 [.ref v15] hp3) (fun  hp16 => gR hp16 l0 1 5 (fun v17 => rV hp16 v17 0 (bI (R 1 [.ref v17, .int (0 : Int32), .int (0 : Int32), .int (-1 : Int32)] hp16) (fun v18 hp19 => some (some (.int (-2 : Int32)), hp19))))))) else if v2 = (12 : Int32) then rV hp3 l0 1 (bI (R 21 [.ref l0] hp3) (fun v21 hp22 => some (some (.int v21), hp22))) else if v2 = (14 : Int32) then gR hp3 l0 1 0 (fun v24 => rV hp3 v24 9 (bI (R 167 [.ref v24] hp3) (fun v25 hp26 => gR hp26 l0 1 0 (fun v27 => rV hp26 v27 9 (bN (R 166 [.ref v27] hp26) (fun  hp28 => gR hp28 l0 1 2 (fun v29 => gI hp28 l0 1 6 (fun v30 => rV hp28 v29 4 (bI (R 60 [.ref v29, .int v30, .int (0 : Int32)] hp28) (fun v31 hp32 => gR hp32 l0 1 5 (fun v33 => gR hp32 l0 1 0 (fun v34 => rV hp32 v34 9 (bI (R 168 [.ref v34, .int v25] hp32) (fun v35 hp36 => rV hp36 v33 0 (bI (R 1 [.ref v33, .int (14 : Int32), .int v31, .int v35] hp36) (fun v37 hp38 => some (some (.int v31), hp38))))))))))))))))) else if v2 = (40 : Int32) then gR hp3 l0 1 0 (fun v40 => rV hp3 v40 9 (bN (R 166 [.ref v40] hp3) (fun  hp41 => rV hp41 l0 1 (bI (R 11 [.ref l0] hp41) (fun v42 hp43 => gR hp43 l0 1 0 (fun v44 => rV hp43 v44 9 (bN (R 166 [.ref v44] hp43) (fun  hp45 => some (some (.int v42), hp45))))))))) else gR hp3 l0 1 5 (fun v46 => gR hp3 l0 1 0 (fun v47 => gR hp3 l0 1 0 (fun v48 => rV hp3 v48 9 (bI (R 167 [.ref v48] hp3) (fun v49 hp50 => rV hp50 v47 9 (bL (R 170 [.ref v47, .int v49] hp50) (fun v51 hp52 => rV hp52 v46 0 (bI (R 1 [.ref v46, .int (0 : Int32), .int (v51).toInt32, .int (-1 : Int32)] hp52) (fun v53 hp54 => gR hp54 l0 1 0 (fun v55 => rV hp54 v55 9 (bN (R 166 [.ref v55] hp54) (fun  hp56 => some (some (.int (-1 : Int32)), hp56)))))))))))))))))
theorem t_16_0 {X : mjX} {d C S kc ks : Nat} {R : mjR} (hR : mjC R d) (h1 : kc ≤ C) (h2 : ks ≤ S) : P_16_0 X (d + 1) C S kc ks (b_16_0 R) := by
  intro l0 hp q h
  unfold b_16_0 at h
  refine mjr_aload_n (x := l0) D_16_0 rfl ?_
  refine mjq_gR D_16_1 fr_1_9 h (fun v1 h => ?_)
  refine mjq_vI (As := []) (rest := []) D_16_4 mr_1_145 V_173 rfl rfl rfl hR (Nat.le_refl _) h1 h2 h (fun v2 hp3 h => ?_)
  refine mjq_lsw (c := (3 : Int32)) (tgt := 56) D_16_7 rfl (by decide) h (fun h => ?_) (fun n4 h => ?_)
  · refine mjr_aload_n (x := l0) D_16_56 rfl ?_
    refine mjq_vI (As := []) (rest := []) D_16_57 mr_1_203 V_17 rfl rfl rfl hR (Nat.le_refl _) h1 h2 h (fun v5 hp6 h => ?_)
    refine mjq_istore_n (lo' := [some (.ref l0), some (.int v5), none, none, none]) D_16_60 (Nat.le_of_ble_eq_true rfl) rfl ?_
    refine mjr_aload_n (x := l0) D_16_61 rfl ?_
    refine mjq_gR D_16_62 fr_1_38 h (fun v7 h => ?_)
    refine mjq_ic (v := (1 : Int32)) D_16_65 rfl ?_
    refine mjr_aload_n (x := l0) D_16_66 rfl ?_
    refine mjr_iload_n (x := v5) D_16_67 rfl ?_
    refine mjq_vI (As := [.int v5]) (rest := [.int (1 : Int32), .ref v7]) D_16_68 mr_1_206 V_19 rfl rfl rfl hR (Nat.le_refl _) h1 h2 h (fun v8 hp9 h => ?_)
    refine mjq_ic (v := (-1 : Int32)) D_16_71 rfl ?_
    refine mjq_vI (As := [.int (1 : Int32), .int v8, .int (-1 : Int32)]) (rest := []) D_16_72 mr_1_95 V_1 rfl rfl rfl hR (Nat.le_refl _) h1 h2 h (fun v10 hp11 h => ?_)
    refine mjr_pop D_16_75 rfl ?_
    refine mjr_aload_n (x := l0) D_16_76 rfl ?_
    refine mjr_iload_n (x := v5) D_16_77 rfl ?_
    refine mjq_vI (As := [.int v5]) (rest := []) D_16_78 mr_1_213 V_20 rfl rfl rfl hR (Nat.le_refl _) h1 h2 h (fun v12 hp13 h => ?_)
    exact mjq_ret D_16_81 rfl h1 h2 h
  refine mjq_lsw (c := (11 : Int32)) (tgt := 136) D_16_7 rfl (by decide) h (fun h => ?_) (fun n14 h => ?_)
  · refine mjr_aload_n (x := l0) D_16_136 rfl ?_
    refine mjq_gR D_16_137 fr_1_9 h (fun v15 h => ?_)
    refine mjq_vN (As := []) (rest := []) D_16_140 mr_1_137 V_166 rfl rfl rfl hR (Nat.le_refl _) h1 h2 h (fun  hp16 h => ?_)
    refine mjr_aload_n (x := l0) D_16_143 rfl ?_
    refine mjq_gR D_16_144 fr_1_38 h (fun v17 h => ?_)
    refine mjq_ic (v := (0 : Int32)) D_16_147 rfl ?_
    refine mjq_ic (v := (0 : Int32)) D_16_148 rfl ?_
    refine mjq_ic (v := (-1 : Int32)) D_16_149 rfl ?_
    refine mjq_vI (As := [.int (0 : Int32), .int (0 : Int32), .int (-1 : Int32)]) (rest := []) D_16_150 mr_1_95 V_1 rfl rfl rfl hR (Nat.le_refl _) h1 h2 h (fun v18 hp19 h => ?_)
    refine mjr_pop D_16_153 rfl ?_
    refine mjq_bi (v := (-2 : Int32)) D_16_154 rfl ?_
    exact mjq_ret D_16_156 rfl h1 h2 h
  refine mjq_lsw (c := (12 : Int32)) (tgt := 82) D_16_7 rfl (by decide) h (fun h => ?_) (fun n20 h => ?_)
  · refine mjr_aload_n (x := l0) D_16_82 rfl ?_
    refine mjq_vI (As := []) (rest := []) D_16_83 mr_1_268 V_21 rfl rfl rfl hR (Nat.le_refl _) h1 h2 h (fun v21 hp22 h => ?_)
    exact mjq_ret D_16_86 rfl h1 h2 h
  refine mjq_lsw (c := (14 : Int32)) (tgt := 87) D_16_7 rfl (by decide) h (fun h => ?_) (fun n23 h => ?_)
  · refine mjr_aload_n (x := l0) D_16_87 rfl ?_
    refine mjq_gR D_16_88 fr_1_9 h (fun v24 h => ?_)
    refine mjq_vI (As := []) (rest := []) D_16_91 mr_1_111 V_167 rfl rfl rfl hR (Nat.le_refl _) h1 h2 h (fun v25 hp26 h => ?_)
    refine mjq_istore_n (lo' := [some (.ref l0), none, some (.int v25), none, none]) D_16_94 (Nat.le_of_ble_eq_true rfl) rfl ?_
    refine mjr_aload_n (x := l0) D_16_95 rfl ?_
    refine mjq_gR D_16_96 fr_1_9 h (fun v27 h => ?_)
    refine mjq_vN (As := []) (rest := []) D_16_99 mr_1_137 V_166 rfl rfl rfl hR (Nat.le_refl _) h1 h2 h (fun  hp28 h => ?_)
    refine mjr_aload_n (x := l0) D_16_102 rfl ?_
    refine mjq_gR D_16_103 fr_1_19 h (fun v29 h => ?_)
    refine mjr_aload_n (x := l0) D_16_106 rfl ?_
    refine mjq_gI D_16_107 fr_1_71 h (fun v30 h => ?_)
    refine mjq_ic (v := (0 : Int32)) D_16_110 rfl ?_
    refine mjq_vI (As := [.int v30, .int (0 : Int32)]) (rest := []) D_16_111 mr_1_262 V_60 rfl rfl rfl hR (Nat.le_refl _) h1 h2 h (fun v31 hp32 h => ?_)
    refine mjq_istore_n (lo' := [some (.ref l0), none, some (.int v25), some (.int v31), none]) D_16_114 (Nat.le_of_ble_eq_true rfl) rfl ?_
    refine mjr_aload_n (x := l0) D_16_115 rfl ?_
    refine mjq_gR D_16_116 fr_1_38 h (fun v33 h => ?_)
    refine mjq_bi (v := (14 : Int32)) D_16_119 rfl ?_
    refine mjr_iload_n (x := v31) D_16_121 rfl ?_
    refine mjr_aload_n (x := l0) D_16_122 rfl ?_
    refine mjq_gR D_16_123 fr_1_9 h (fun v34 h => ?_)
    refine mjr_iload_n (x := v25) D_16_126 rfl ?_
    refine mjq_vI (As := [.int v25]) (rest := [.int v31, .int (14 : Int32), .ref v33]) D_16_127 mr_1_148 V_168 rfl rfl rfl hR (Nat.le_refl _) h1 h2 h (fun v35 hp36 h => ?_)
    refine mjq_vI (As := [.int (14 : Int32), .int v31, .int v35]) (rest := []) D_16_130 mr_1_95 V_1 rfl rfl rfl hR (Nat.le_refl _) h1 h2 h (fun v37 hp38 h => ?_)
    refine mjr_pop D_16_133 rfl ?_
    refine mjr_iload_n (x := v31) D_16_134 rfl ?_
    exact mjq_ret D_16_135 rfl h1 h2 h
  refine mjq_lsw (c := (40 : Int32)) (tgt := 157) D_16_7 rfl (by decide) h (fun h => ?_) (fun n39 h => ?_)
  · refine mjr_aload_n (x := l0) D_16_157 rfl ?_
    refine mjq_gR D_16_158 fr_1_9 h (fun v40 h => ?_)
    refine mjq_vN (As := []) (rest := []) D_16_161 mr_1_137 V_166 rfl rfl rfl hR (Nat.le_refl _) h1 h2 h (fun  hp41 h => ?_)
    refine mjr_aload_n (x := l0) D_16_164 rfl ?_
    refine mjq_vI (As := []) (rest := []) D_16_165 mr_1_189 V_11 rfl rfl rfl hR (Nat.le_refl _) h1 h2 h (fun v42 hp43 h => ?_)
    refine mjq_istore (lo' := [some (.ref l0), none, none, none, some (.int v42)]) D_16_168 (Nat.le_of_ble_eq_true rfl) rfl ?_
    refine mjr_aload_n (x := l0) D_16_170 rfl ?_
    refine mjq_gR D_16_171 fr_1_9 h (fun v44 h => ?_)
    refine mjq_vN (As := []) (rest := []) D_16_174 mr_1_137 V_166 rfl rfl rfl hR (Nat.le_refl _) h1 h2 h (fun  hp45 h => ?_)
    refine mjr_iload (x := v42) D_16_177 rfl ?_
    exact mjq_ret D_16_179 rfl h1 h2 h
  refine mjq_lswD (tgt := 180) [(3 : Int32), (11 : Int32), (12 : Int32), (14 : Int32), (40 : Int32)] D_16_7 rfl (by decide) (mj_all1 n4 (mj_all1 n14 (mj_all1 n20 (mj_all1 n23 (mj_all1 n39 mj_all0))))) rfl ?_
  refine mjr_aload_n (x := l0) D_16_180 rfl ?_
  refine mjq_gR D_16_181 fr_1_38 h (fun v46 h => ?_)
  refine mjq_ic (v := (0 : Int32)) D_16_184 rfl ?_
  refine mjr_aload_n (x := l0) D_16_185 rfl ?_
  refine mjq_gR D_16_186 fr_1_9 h (fun v47 h => ?_)
  refine mjr_aload_n (x := l0) D_16_189 rfl ?_
  refine mjq_gR D_16_190 fr_1_9 h (fun v48 h => ?_)
  refine mjq_vI (As := []) (rest := [.ref v47, .int (0 : Int32), .ref v46]) D_16_193 mr_1_111 V_167 rfl rfl rfl hR (Nat.le_refl _) h1 h2 h (fun v49 hp50 h => ?_)
  refine mjq_vL (As := [.int v49]) (rest := [.int (0 : Int32), .ref v46]) D_16_196 mr_1_125 V_170 rfl rfl rfl hR (Nat.le_refl _) h1 h2 h (fun v51 hp52 h => ?_)
  refine mjr_l2i D_16_199 ?_
  refine mjq_ic (v := (-1 : Int32)) D_16_200 rfl ?_
  refine mjq_vI (As := [.int (0 : Int32), .int (v51).toInt32, .int (-1 : Int32)]) (rest := []) D_16_201 mr_1_95 V_1 rfl rfl rfl hR (Nat.le_refl _) h1 h2 h (fun v53 hp54 h => ?_)
  refine mjr_pop D_16_204 rfl ?_
  refine mjr_aload_n (x := l0) D_16_205 rfl ?_
  refine mjq_gR D_16_206 fr_1_9 h (fun v55 h => ?_)
  refine mjq_vN (As := []) (rest := []) D_16_209 mr_1_137 V_166 rfl rfl rfl hR (Nat.le_refl _) h1 h2 h (fun  hp56 h => ?_)
  refine mjq_ic (v := (-1 : Int32)) D_16_212 rfl ?_
  exact mjq_ret D_16_213 rfl h1 h2 h
noncomputable def f_16 (R : mjR) (a0 : Nat) (hp : mjH) : mjU := b_16_0 R a0 hp
theorem c_16 {R : mjR} {d : Nat} (hR : mjC R d) {a0 : Nat} {hp : mjH} {q : Option Value × mjH} (h : f_16 R a0 hp = some q) : mjM (d + 1) 0 0 16 [.ref a0] hp (mjEq q) :=
  mjM_of Ja_16 (Nat.le_of_ble_eq_true rfl) (mjG.fg (lo' := [some (.ref a0), none, none, none, none]) (And.intro rfl True.intro) ((t_16_0 hR (Nat.le_refl 0) (Nat.le_refl 0)) a0 hp q h))
def J_17 : mjI := (⟨"OwnerHeap$Coder", "knownHere", "()I"⟩, 1, prog_3_method_17_code, 2, (some .int), 0, false)
theorem Ja_17 : mjMt 17 = some J_17 := by rfl
theorem D_17_0 : decode J_17.2.2.1 0 = .ok (.aload_n 0, 1) := dzq_42 (by decide +kernel)
theorem D_17_1 : decode J_17.2.2.1 1 = .ok (.aload_n 0, 1) := dzq_42 (by decide +kernel)
theorem D_17_2 : decode J_17.2.2.1 2 = .ok (.getfield 9, 3) := dzq_180 (by decide +kernel)
theorem D_17_5 : decode J_17.2.2.1 5 = .ok (.aload_n 0, 1) := dzq_42 (by decide +kernel)
theorem D_17_6 : decode J_17.2.2.1 6 = .ok (.getfield 9, 3) := dzq_180 (by decide +kernel)
theorem D_17_9 : decode J_17.2.2.1 9 = .ok (.invokevirtual 111, 3) := dzq_182 (by decide +kernel)
theorem D_17_12 : decode J_17.2.2.1 12 = .ok (.invokevirtual 125, 3) := dzq_182 (by decide +kernel)
theorem D_17_15 : decode J_17.2.2.1 15 = .ok (.invokevirtual 182, 3) := dzq_182 (by decide +kernel)
theorem D_17_18 : decode J_17.2.2.1 18 = .ok (.istore_n 1, 1) := dzq_60 (by decide +kernel)
theorem D_17_19 : decode J_17.2.2.1 19 = .ok (.iload_n 1, 1) := dzq_27 (by decide +kernel)
theorem D_17_20 : decode J_17.2.2.1 20 = .ok (.iconst (-1), 1) := dzq_2 (by decide +kernel)
theorem D_17_21 : decode J_17.2.2.1 21 = .ok (.if_icmp .ne 11, 3) := dzq_160 (by decide +kernel)
theorem D_17_24 : decode J_17.2.2.1 24 = .ok (.aload_n 0, 1) := dzq_42 (by decide +kernel)
theorem D_17_25 : decode J_17.2.2.1 25 = .ok (.getfield 9, 3) := dzq_180 (by decide +kernel)
theorem D_17_28 : decode J_17.2.2.1 28 = .ok (.iconst 5, 1) := dzq_8 (by decide +kernel)
theorem D_17_29 : decode J_17.2.2.1 29 = .ok (.invokevirtual 186, 3) := dzq_182 (by decide +kernel)
theorem D_17_32 : decode J_17.2.2.1 32 = .ok (.aload_n 0, 1) := dzq_42 (by decide +kernel)
theorem D_17_33 : decode J_17.2.2.1 33 = .ok (.getfield 9, 3) := dzq_180 (by decide +kernel)
theorem D_17_36 : decode J_17.2.2.1 36 = .ok (.invokevirtual 137, 3) := dzq_182 (by decide +kernel)
theorem D_17_39 : decode J_17.2.2.1 39 = .ok (.iload_n 1, 1) := dzq_27 (by decide +kernel)
theorem D_17_40 : decode J_17.2.2.1 40 = .ok (.ireturn, 1) := dzq_172 (by decide +kernel)
def P_17_32 (X : mjX) (d C S kc ks : Nat) (k : Nat → Int32 → mjH → mjU) : Prop := ∀ (l0 : Nat) (l1 : Int32) (hp : mjH) (q : Option Value × mjH), k l0 l1 hp = some q → mjG X d C S J_17 (mjEq q) 32 [some (.ref l0), some (.int l1)] [] hp kc ks
def P_17_0 (X : mjX) (d C S kc ks : Nat) (k : Nat → mjH → mjU) : Prop := ∀ (l0 : Nat) (hp : mjH) (q : Option Value × mjH), k l0 hp = some q → mjG X d C S J_17 (mjEq q) 0 [some (.ref l0), none] [] hp kc ks
noncomputable def b_17_32 (R : mjR) (l0 : Nat) (l1 : Int32) (hp : mjH) : mjU := gR hp l0 1 0 (fun v1 => rV hp v1 9 (bN (R 166 [.ref v1] hp) (fun  hp2 => some (some (.int l1), hp2))))
theorem t_17_32 {X : mjX} {d C S kc ks : Nat} {R : mjR} (hR : mjC R d) (h1 : kc ≤ C) (h2 : ks ≤ S) : P_17_32 X (d + 1) C S kc ks (b_17_32 R) := by
  intro l0 l1 hp q h
  unfold b_17_32 at h
  refine mjr_aload_n (x := l0) D_17_32 rfl ?_
  refine mjq_gR D_17_33 fr_1_9 h (fun v1 h => ?_)
  refine mjq_vN (As := []) (rest := []) D_17_36 mr_1_137 V_166 rfl rfl rfl hR (Nat.le_refl _) h1 h2 h (fun  hp2 h => ?_)
  refine mjr_iload_n (x := l1) D_17_39 rfl ?_
  exact mjq_ret D_17_40 rfl h1 h2 h
noncomputable def b_17_0 (R : mjR) (l0 : Nat) (hp : mjH) : mjU := gR hp l0 1 0 (fun v1 => gR hp l0 1 0 (fun v2 => rV hp v2 9 (bI (R 167 [.ref v2] hp) (fun v3 hp4 => rV hp4 v1 9 (bL (R 170 [.ref v1, .int v3] hp4) (fun v5 hp6 => rV hp6 l0 1 (bI (R 18 [.ref l0, .long v5] hp6) (fun v7 hp8 => (if v7 = (-1 : Int32) then gR hp8 l0 1 0 (fun v9 => rV hp8 v9 9 (bN (R 165 [.ref v9, .int (5 : Int32)] hp8) (fun  hp10 => b_17_32 R l0 v7 hp10))) else b_17_32 R l0 v7 hp8)))))))))
theorem t_17_0 {X : mjX} {d C S kc ks : Nat} {R : mjR} (hR : mjC R d) (h1 : kc ≤ C) (h2 : ks ≤ S) : P_17_0 X (d + 1) C S kc ks (b_17_0 R) := by
  intro l0 hp q h
  unfold b_17_0 at h
  refine mjr_aload_n (x := l0) D_17_0 rfl ?_
  refine mjr_aload_n (x := l0) D_17_1 rfl ?_
  refine mjq_gR D_17_2 fr_1_9 h (fun v1 h => ?_)
  refine mjr_aload_n (x := l0) D_17_5 rfl ?_
  refine mjq_gR D_17_6 fr_1_9 h (fun v2 h => ?_)
  refine mjq_vI (As := []) (rest := [.ref v1, .ref l0]) D_17_9 mr_1_111 V_167 rfl rfl rfl hR (Nat.le_refl _) h1 h2 h (fun v3 hp4 h => ?_)
  refine mjq_vL (As := [.int v3]) (rest := [.ref l0]) D_17_12 mr_1_125 V_170 rfl rfl rfl hR (Nat.le_refl _) h1 h2 h (fun v5 hp6 h => ?_)
  refine mjq_vI (As := [.long v5]) (rest := []) D_17_15 mr_1_182 V_18 rfl rfl rfl hR (Nat.le_refl _) h1 h2 h (fun v7 hp8 h => ?_)
  refine mjq_istore_n (lo' := [some (.ref l0), some (.int v7)]) D_17_18 (Nat.le_of_ble_eq_true rfl) rfl ?_
  refine mjr_iload_n (x := v7) D_17_19 rfl ?_
  refine mjq_ic (v := (-1 : Int32)) D_17_20 rfl ?_
  refine mjq_icmp_ne (tgt := 32) D_17_21 rfl h (fun h => ?_) (fun h => ?_)
  · exact (t_17_32 hR h1 h2) _ _ _ _ h
  · refine mjr_aload_n (x := l0) D_17_24 rfl ?_
    refine mjq_gR D_17_25 fr_1_9 h (fun v9 h => ?_)
    refine mjq_ic (v := (5 : Int32)) D_17_28 rfl ?_
    refine mjq_vN (As := [.int (5 : Int32)]) (rest := []) D_17_29 mr_1_186 V_165 rfl rfl rfl hR (Nat.le_refl _) h1 h2 h (fun  hp10 h => ?_)
    exact (t_17_32 hR h1 h2) _ _ _ _ h
noncomputable def f_17 (R : mjR) (a0 : Nat) (hp : mjH) : mjU := b_17_0 R a0 hp
theorem c_17 {R : mjR} {d : Nat} (hR : mjC R d) {a0 : Nat} {hp : mjH} {q : Option Value × mjH} (h : f_17 R a0 hp = some q) : mjM (d + 1) 0 0 17 [.ref a0] hp (mjEq q) :=
  mjM_of Ja_17 (Nat.le_of_ble_eq_true rfl) (mjG.fg (lo' := [some (.ref a0), none]) (And.intro rfl True.intro) ((t_17_0 hR (Nat.le_refl 0) (Nat.le_refl 0)) a0 hp q h))
def J_18 : mjI := (⟨"OwnerHeap$Coder", "knownNamed", "(J)I"⟩, 1, prog_3_method_5_code, 4, (some .int), 1, false)
theorem Ja_18 : mjMt 18 = some J_18 := by rfl
theorem D_18_0 : decode J_18.2.2.1 0 = .ok (.iconst 0, 1) := dzq_3 (by decide +kernel)
theorem D_18_1 : decode J_18.2.2.1 1 = .ok (.istore_n 3, 1) := dzq_62 (by decide +kernel)
theorem D_18_2 : decode J_18.2.2.1 2 = .ok (.iload_n 3, 1) := dzq_29 (by decide +kernel)
theorem D_18_3 : decode J_18.2.2.1 3 = .ok (.aload_n 0, 1) := dzq_42 (by decide +kernel)
theorem D_18_4 : decode J_18.2.2.1 4 = .ok (.getfield 99, 3) := dzq_180 (by decide +kernel)
theorem D_18_7 : decode J_18.2.2.1 7 = .ok (.if_icmp .ge 22, 3) := dzq_162 (by decide +kernel)
theorem D_18_10 : decode J_18.2.2.1 10 = .ok (.aload_n 0, 1) := dzq_42 (by decide +kernel)
theorem D_18_11 : decode J_18.2.2.1 11 = .ok (.getfield 41, 3) := dzq_180 (by decide +kernel)
theorem D_18_14 : decode J_18.2.2.1 14 = .ok (.iload_n 3, 1) := dzq_29 (by decide +kernel)
theorem D_18_15 : decode J_18.2.2.1 15 = .ok (.laload, 1) := dzq_47 (by decide +kernel)
theorem D_18_16 : decode J_18.2.2.1 16 = .ok (.lload_n 1, 1) := dzq_31 (by decide +kernel)
theorem D_18_17 : decode J_18.2.2.1 17 = .ok (.lcmp, 1) := by decide +kernel
theorem D_18_18 : decode J_18.2.2.1 18 = .ok (.ifCond .ne 5, 3) := dzq_154 (by decide +kernel)
theorem D_18_21 : decode J_18.2.2.1 21 = .ok (.iload_n 3, 1) := dzq_29 (by decide +kernel)
theorem D_18_22 : decode J_18.2.2.1 22 = .ok (.ireturn, 1) := dzq_172 (by decide +kernel)
theorem D_18_23 : decode J_18.2.2.1 23 = .ok (.iinc 3 1, 3) := dzq_132 (by decide +kernel)
theorem D_18_26 : decode J_18.2.2.1 26 = .ok (.goto (-24), 3) := dzq_167 (by decide +kernel)
theorem D_18_29 : decode J_18.2.2.1 29 = .ok (.iconst (-1), 1) := dzq_2 (by decide +kernel)
theorem D_18_30 : decode J_18.2.2.1 30 = .ok (.ireturn, 1) := dzq_172 (by decide +kernel)
def P_18_2 (X : mjX) (d C S kc ks : Nat) (k : Nat → Int64 → Int32 → mjH → mjU) : Prop := ∀ (l0 : Nat) (l1 : Int64) (l3 : Int32) (hp : mjH) (q : Option Value × mjH), k l0 l1 l3 hp = some q → mjG X d C S J_18 (mjEq q) 2 [some (.ref l0), some (.long l1), none, some (.int l3)] [] hp kc ks
def P_18_0 (X : mjX) (d C S kc ks : Nat) (k : Nat → Int64 → mjH → mjU) : Prop := ∀ (l0 : Nat) (l1 : Int64) (hp : mjH) (q : Option Value × mjH), k l0 l1 hp = some q → mjG X d C S J_18 (mjEq q) 0 [some (.ref l0), some (.long l1), none, none] [] hp kc ks
noncomputable def b_18_2 (R : mjR) (k2 : Nat → Int64 → Int32 → mjH → mjU) (l0 : Nat) (l1 : Int64) (l3 : Int32) (hp : mjH) : mjU := gI hp l0 1 11 (fun v1 => (if v1 ≤ l3 then some (some (.int (-1 : Int32)), hp) else gR hp l0 1 8 (fun v2 => aL hp v2 l3 (fun v3 => (if (lg_cmp v3 l1) = 0 then some (some (.int l3), hp) else k2 l0 l1 (l3 + (1 : Int32)) hp)))))
theorem t_18_2 {X : mjX} {d C S kc ks : Nat} {R : mjR} (hR : mjC R d) (h1 : kc ≤ C) (h2 : ks ≤ S) {k2 : Nat → Int64 → Int32 → mjH → mjU} (hk2 : P_18_2 X (d + 1) C S kc ks k2) : P_18_2 X (d + 1) C S kc ks (b_18_2 R k2) := by
  intro l0 l1 l3 hp q h
  unfold b_18_2 at h
  refine mjr_iload_n (x := l3) D_18_2 rfl ?_
  refine mjr_aload_n (x := l0) D_18_3 rfl ?_
  refine mjq_gI D_18_4 fr_1_99 h (fun v1 h => ?_)
  refine mjq_icmp_ge (tgt := 29) D_18_7 rfl h (fun h => ?_) (fun h => ?_)
  · refine mjq_ic (v := (-1 : Int32)) D_18_29 rfl ?_
    exact mjq_ret D_18_30 rfl h1 h2 h
  · refine mjr_aload_n (x := l0) D_18_10 rfl ?_
    refine mjq_gR D_18_11 fr_1_41 h (fun v2 h => ?_)
    refine mjr_iload_n (x := l3) D_18_14 rfl ?_
    refine mjq_aL D_18_15 h (fun v3 h => ?_)
    refine mjr_lload_n (x := l1) D_18_16 rfl ?_
    refine mjr_lcmp D_18_17 ?_
    refine mjq_if_ne (tgt := 23) D_18_18 rfl h (fun h => ?_) (fun h => ?_)
    · refine mjq_iinc (x := l3) (c := (1 : Int32)) (lo' := [some (.ref l0), some (.long l1), none, some (.int (l3 + (1 : Int32)))]) D_18_23 rfl (Nat.le_of_ble_eq_true rfl) rfl rfl ?_
      refine mjr_goto (tgt := 2) D_18_26 rfl ?_
      exact hk2 _ _ _ _ _ h
    · refine mjr_iload_n (x := l3) D_18_21 rfl ?_
      exact mjq_ret D_18_22 rfl h1 h2 h
noncomputable def L_18_2 (R : mjR) (n : Nat) : Nat → Int64 → Int32 → mjH → mjU := Nat.rec (motive := fun _ => Nat → Int64 → Int32 → mjH → mjU) (fun _ _ _ _ => none) (fun _ self => b_18_2 R self) n
theorem T_18_2 {X : mjX} {d C S kc ks : Nat} {R : mjR} (hR : mjC R d) (h1 : kc ≤ C) (h2 : ks ≤ S) (n : Nat) : P_18_2 X (d + 1) C S kc ks (L_18_2 R n) := by
  induction n with
  | zero => intro _ _ _ _ _ h; exact mj_no h
  | succ n ih => exact t_18_2 hR h1 h2 ih
noncomputable def b_18_0 (R : mjR) (l0 : Nat) (l1 : Int64) (hp : mjH) : mjU := L_18_2 R mjN l0 l1 (0 : Int32) hp
theorem t_18_0 {X : mjX} {d C S kc ks : Nat} {R : mjR} (hR : mjC R d) (h1 : kc ≤ C) (h2 : ks ≤ S) : P_18_0 X (d + 1) C S kc ks (b_18_0 R) := by
  intro l0 l1 hp q h
  unfold b_18_0 at h
  refine mjq_ic (v := (0 : Int32)) D_18_0 rfl ?_
  refine mjq_istore_n (lo' := [some (.ref l0), some (.long l1), none, some (.int (0 : Int32))]) D_18_1 (Nat.le_of_ble_eq_true rfl) rfl ?_
  exact (T_18_2 hR h1 h2 mjN) _ _ _ _ _ h
noncomputable def f_18 (R : mjR) (a0 : Nat) (a1 : Int64) (hp : mjH) : mjU := b_18_0 R a0 a1 hp
theorem c_18 {R : mjR} {d : Nat} (hR : mjC R d) {a0 : Nat} {a1 : Int64} {hp : mjH} {q : Option Value × mjH} (h : f_18 R a0 a1 hp = some q) : mjM (d + 1) 0 0 18 [.ref a0, .long a1] hp (mjEq q) :=
  mjM_of Ja_18 (Nat.le_of_ble_eq_true rfl) (mjG.fg (lo' := [some (.ref a0), some (.long a1), none, none]) (And.intro rfl (And.intro rfl True.intro)) ((t_18_0 hR (Nat.le_refl 0) (Nat.le_refl 0)) a0 a1 hp q h))
def J_19 : mjI := (⟨"OwnerHeap$Coder", "numberOfKnown", "(I)I"⟩, 1, prog_3_method_19_code, 2, (some .int), 1, false)
theorem Ja_19 : mjMt 19 = some J_19 := by rfl
theorem D_19_0 : decode J_19.2.2.1 0 = .ok (.iload_n 1, 1) := dzq_27 (by decide +kernel)
theorem D_19_1 : decode J_19.2.2.1 1 = .ok (.iconst (-1), 1) := dzq_2 (by decide +kernel)
theorem D_19_2 : decode J_19.2.2.1 2 = .ok (.if_icmp .ne 7, 3) := dzq_160 (by decide +kernel)
theorem D_19_5 : decode J_19.2.2.1 5 = .ok (.iconst 0, 1) := dzq_3 (by decide +kernel)
theorem D_19_6 : decode J_19.2.2.1 6 = .ok (.goto 9, 3) := dzq_167 (by decide +kernel)
theorem D_19_9 : decode J_19.2.2.1 9 = .ok (.aload_n 0, 1) := dzq_42 (by decide +kernel)
theorem D_19_10 : decode J_19.2.2.1 10 = .ok (.getfield 49, 3) := dzq_180 (by decide +kernel)
theorem D_19_13 : decode J_19.2.2.1 13 = .ok (.iload_n 1, 1) := dzq_27 (by decide +kernel)
theorem D_19_14 : decode J_19.2.2.1 14 = .ok (.iaload, 1) := dzq_46 (by decide +kernel)
theorem D_19_15 : decode J_19.2.2.1 15 = .ok (.ireturn, 1) := dzq_172 (by decide +kernel)
def P_19_0 (X : mjX) (d C S kc ks : Nat) (k : Nat → Int32 → mjH → mjU) : Prop := ∀ (l0 : Nat) (l1 : Int32) (hp : mjH) (q : Option Value × mjH), k l0 l1 hp = some q → mjG X d C S J_19 (mjEq q) 0 [some (.ref l0), some (.int l1)] [] hp kc ks
noncomputable def b_19_0 (R : mjR) (l0 : Nat) (l1 : Int32) (hp : mjH) : mjU := (if l1 = (-1 : Int32) then some (some (.int (0 : Int32)), hp) else gR hp l0 1 10 (fun v1 => aI hp v1 l1 (fun v2 => some (some (.int v2), hp))))
theorem t_19_0 {X : mjX} {d C S kc ks : Nat} {R : mjR} (hR : mjC R d) (h1 : kc ≤ C) (h2 : ks ≤ S) : P_19_0 X (d + 1) C S kc ks (b_19_0 R) := by
  intro l0 l1 hp q h
  unfold b_19_0 at h
  refine mjr_iload_n (x := l1) D_19_0 rfl ?_
  refine mjq_ic (v := (-1 : Int32)) D_19_1 rfl ?_
  refine mjq_icmp_ne (tgt := 9) D_19_2 rfl h (fun h => ?_) (fun h => ?_)
  · refine mjr_aload_n (x := l0) D_19_9 rfl ?_
    refine mjq_gR D_19_10 fr_1_49 h (fun v1 h => ?_)
    refine mjr_iload_n (x := l1) D_19_13 rfl ?_
    refine mjq_aI D_19_14 h (fun v2 h => ?_)
    exact mjq_ret D_19_15 rfl h1 h2 h
  · refine mjq_ic (v := (0 : Int32)) D_19_5 rfl ?_
    refine mjr_goto (tgt := 15) D_19_6 rfl ?_
    exact mjq_ret D_19_15 rfl h1 h2 h
noncomputable def f_19 (R : mjR) (a0 : Nat) (a1 : Int32) (hp : mjH) : mjU := b_19_0 R a0 a1 hp
theorem c_19 {R : mjR} {d : Nat} (hR : mjC R d) {a0 : Nat} {a1 : Int32} {hp : mjH} {q : Option Value × mjH} (h : f_19 R a0 a1 hp = some q) : mjM (d + 1) 0 0 19 [.ref a0, .int a1] hp (mjEq q) :=
  mjM_of Ja_19 (Nat.le_of_ble_eq_true rfl) (mjG.fg (lo' := [some (.ref a0), some (.int a1)]) (And.intro rfl (And.intro rfl True.intro)) ((t_19_0 hR (Nat.le_refl 0) (Nat.le_refl 0)) a0 a1 hp q h))
def J_20 : mjI := (⟨"OwnerHeap$Coder", "typeOfKnown", "(I)I"⟩, 1, prog_3_method_18_code, 2, (some .int), 1, false)
theorem Ja_20 : mjMt 20 = some J_20 := by rfl
theorem D_20_0 : decode J_20.2.2.1 0 = .ok (.iload_n 1, 1) := dzq_27 (by decide +kernel)
theorem D_20_1 : decode J_20.2.2.1 1 = .ok (.iconst (-1), 1) := dzq_2 (by decide +kernel)
theorem D_20_2 : decode J_20.2.2.1 2 = .ok (.if_icmp .ne 7, 3) := dzq_160 (by decide +kernel)
theorem D_20_5 : decode J_20.2.2.1 5 = .ok (.iconst (-1), 1) := dzq_2 (by decide +kernel)
theorem D_20_6 : decode J_20.2.2.1 6 = .ok (.goto 9, 3) := dzq_167 (by decide +kernel)
theorem D_20_9 : decode J_20.2.2.1 9 = .ok (.aload_n 0, 1) := dzq_42 (by decide +kernel)
theorem D_20_10 : decode J_20.2.2.1 10 = .ok (.getfield 45, 3) := dzq_180 (by decide +kernel)
theorem D_20_13 : decode J_20.2.2.1 13 = .ok (.iload_n 1, 1) := dzq_27 (by decide +kernel)
theorem D_20_14 : decode J_20.2.2.1 14 = .ok (.iaload, 1) := dzq_46 (by decide +kernel)
theorem D_20_15 : decode J_20.2.2.1 15 = .ok (.ireturn, 1) := dzq_172 (by decide +kernel)
def P_20_0 (X : mjX) (d C S kc ks : Nat) (k : Nat → Int32 → mjH → mjU) : Prop := ∀ (l0 : Nat) (l1 : Int32) (hp : mjH) (q : Option Value × mjH), k l0 l1 hp = some q → mjG X d C S J_20 (mjEq q) 0 [some (.ref l0), some (.int l1)] [] hp kc ks
noncomputable def b_20_0 (R : mjR) (l0 : Nat) (l1 : Int32) (hp : mjH) : mjU := (if l1 = (-1 : Int32) then some (some (.int (-1 : Int32)), hp) else gR hp l0 1 9 (fun v1 => aI hp v1 l1 (fun v2 => some (some (.int v2), hp))))
theorem t_20_0 {X : mjX} {d C S kc ks : Nat} {R : mjR} (hR : mjC R d) (h1 : kc ≤ C) (h2 : ks ≤ S) : P_20_0 X (d + 1) C S kc ks (b_20_0 R) := by
  intro l0 l1 hp q h
  unfold b_20_0 at h
  refine mjr_iload_n (x := l1) D_20_0 rfl ?_
  refine mjq_ic (v := (-1 : Int32)) D_20_1 rfl ?_
  refine mjq_icmp_ne (tgt := 9) D_20_2 rfl h (fun h => ?_) (fun h => ?_)
  · refine mjr_aload_n (x := l0) D_20_9 rfl ?_
    refine mjq_gR D_20_10 fr_1_45 h (fun v1 h => ?_)
    refine mjr_iload_n (x := l1) D_20_13 rfl ?_
    refine mjq_aI D_20_14 h (fun v2 h => ?_)
    exact mjq_ret D_20_15 rfl h1 h2 h
  · refine mjq_ic (v := (-1 : Int32)) D_20_5 rfl ?_
    refine mjr_goto (tgt := 15) D_20_6 rfl ?_
    exact mjq_ret D_20_15 rfl h1 h2 h
noncomputable def f_20 (R : mjR) (a0 : Nat) (a1 : Int32) (hp : mjH) : mjU := b_20_0 R a0 a1 hp
theorem c_20 {R : mjR} {d : Nat} (hR : mjC R d) {a0 : Nat} {a1 : Int32} {hp : mjH} {q : Option Value × mjH} (h : f_20 R a0 a1 hp = some q) : mjM (d + 1) 0 0 20 [.ref a0, .int a1] hp (mjEq q) :=
  mjM_of Ja_20 (Nat.le_of_ble_eq_true rfl) (mjG.fg (lo' := [some (.ref a0), some (.int a1)]) (And.intro rfl (And.intro rfl True.intro)) ((t_20_0 hR (Nat.le_refl 0) (Nat.le_refl 0)) a0 a1 hp q h))
def J_21 : mjI := (⟨"OwnerHeap$Coder", "codeThis", "()I"⟩, 1, prog_3_method_29_code, 1, (some .int), 0, false)
theorem Ja_21 : mjMt 21 = some J_21 := by rfl
theorem D_21_0 : decode J_21.2.2.1 0 = .ok (.aload_n 0, 1) := dzq_42 (by decide +kernel)
theorem D_21_1 : decode J_21.2.2.1 1 = .ok (.getfield 71, 3) := dzq_180 (by decide +kernel)
theorem D_21_4 : decode J_21.2.2.1 4 = .ok (.iconst (-1), 1) := dzq_2 (by decide +kernel)
theorem D_21_5 : decode J_21.2.2.1 5 = .ok (.if_icmp .ne 13, 3) := dzq_160 (by decide +kernel)
theorem D_21_8 : decode J_21.2.2.1 8 = .ok (.aload_n 0, 1) := dzq_42 (by decide +kernel)
theorem D_21_9 : decode J_21.2.2.1 9 = .ok (.getfield 9, 3) := dzq_180 (by decide +kernel)
theorem D_21_12 : decode J_21.2.2.1 12 = .ok (.iconst 5, 1) := dzq_8 (by decide +kernel)
theorem D_21_13 : decode J_21.2.2.1 13 = .ok (.invokevirtual 186, 3) := dzq_182 (by decide +kernel)
theorem D_21_16 : decode J_21.2.2.1 16 = .ok (.iconst (-1), 1) := dzq_2 (by decide +kernel)
theorem D_21_17 : decode J_21.2.2.1 17 = .ok (.ireturn, 1) := dzq_172 (by decide +kernel)
theorem D_21_18 : decode J_21.2.2.1 18 = .ok (.aload_n 0, 1) := dzq_42 (by decide +kernel)
theorem D_21_19 : decode J_21.2.2.1 19 = .ok (.getfield 9, 3) := dzq_180 (by decide +kernel)
theorem D_21_22 : decode J_21.2.2.1 22 = .ok (.invokevirtual 137, 3) := dzq_182 (by decide +kernel)
theorem D_21_25 : decode J_21.2.2.1 25 = .ok (.aload_n 0, 1) := dzq_42 (by decide +kernel)
theorem D_21_26 : decode J_21.2.2.1 26 = .ok (.getfield 38, 3) := dzq_180 (by decide +kernel)
theorem D_21_29 : decode J_21.2.2.1 29 = .ok (.iconst 3, 1) := dzq_6 (by decide +kernel)
theorem D_21_30 : decode J_21.2.2.1 30 = .ok (.iconst 0, 1) := dzq_3 (by decide +kernel)
theorem D_21_31 : decode J_21.2.2.1 31 = .ok (.iconst (-1), 1) := dzq_2 (by decide +kernel)
theorem D_21_32 : decode J_21.2.2.1 32 = .ok (.invokevirtual 95, 3) := dzq_182 (by decide +kernel)
theorem D_21_35 : decode J_21.2.2.1 35 = .ok (.pop, 1) := dzq_87 (by decide +kernel)
theorem D_21_36 : decode J_21.2.2.1 36 = .ok (.aload_n 0, 1) := dzq_42 (by decide +kernel)
theorem D_21_37 : decode J_21.2.2.1 37 = .ok (.getfield 23, 3) := dzq_180 (by decide +kernel)
theorem D_21_40 : decode J_21.2.2.1 40 = .ok (.aload_n 0, 1) := dzq_42 (by decide +kernel)
theorem D_21_41 : decode J_21.2.2.1 41 = .ok (.getfield 71, 3) := dzq_180 (by decide +kernel)
theorem D_21_44 : decode J_21.2.2.1 44 = .ok (.invokevirtual 271, 3) := dzq_182 (by decide +kernel)
theorem D_21_47 : decode J_21.2.2.1 47 = .ok (.ireturn, 1) := dzq_172 (by decide +kernel)
def P_21_0 (X : mjX) (d C S kc ks : Nat) (k : Nat → mjH → mjU) : Prop := ∀ (l0 : Nat) (hp : mjH) (q : Option Value × mjH), k l0 hp = some q → mjG X d C S J_21 (mjEq q) 0 [some (.ref l0)] [] hp kc ks
noncomputable def b_21_0 (R : mjR) (l0 : Nat) (hp : mjH) : mjU := gI hp l0 1 6 (fun v1 => (if v1 = (-1 : Int32) then gR hp l0 1 0 (fun v11 => rV hp v11 9 (bN (R 165 [.ref v11, .int (5 : Int32)] hp) (fun  hp12 => some (some (.int (-1 : Int32)), hp12)))) else gR hp l0 1 0 (fun v2 => rV hp v2 9 (bN (R 166 [.ref v2] hp) (fun  hp3 => gR hp3 l0 1 5 (fun v4 => rV hp3 v4 0 (bI (R 1 [.ref v4, .int (3 : Int32), .int (0 : Int32), .int (-1 : Int32)] hp3) (fun v5 hp6 => gR hp6 l0 1 3 (fun v7 => gI hp6 l0 1 6 (fun v8 => rV hp6 v7 7 (bI (R 111 [.ref v7, .int v8] hp6) (fun v9 hp10 => some (some (.int v9), hp10)))))))))))))
theorem t_21_0 {X : mjX} {d C S kc ks : Nat} {R : mjR} (hR : mjC R d) (h1 : kc ≤ C) (h2 : ks ≤ S) : P_21_0 X (d + 1) C S kc ks (b_21_0 R) := by
  intro l0 hp q h
  unfold b_21_0 at h
  refine mjr_aload_n (x := l0) D_21_0 rfl ?_
  refine mjq_gI D_21_1 fr_1_71 h (fun v1 h => ?_)
  refine mjq_ic (v := (-1 : Int32)) D_21_4 rfl ?_
  refine mjq_icmp_ne (tgt := 18) D_21_5 rfl h (fun h => ?_) (fun h => ?_)
  · refine mjr_aload_n (x := l0) D_21_18 rfl ?_
    refine mjq_gR D_21_19 fr_1_9 h (fun v2 h => ?_)
    refine mjq_vN (As := []) (rest := []) D_21_22 mr_1_137 V_166 rfl rfl rfl hR (Nat.le_refl _) h1 h2 h (fun  hp3 h => ?_)
    refine mjr_aload_n (x := l0) D_21_25 rfl ?_
    refine mjq_gR D_21_26 fr_1_38 h (fun v4 h => ?_)
    refine mjq_ic (v := (3 : Int32)) D_21_29 rfl ?_
    refine mjq_ic (v := (0 : Int32)) D_21_30 rfl ?_
    refine mjq_ic (v := (-1 : Int32)) D_21_31 rfl ?_
    refine mjq_vI (As := [.int (3 : Int32), .int (0 : Int32), .int (-1 : Int32)]) (rest := []) D_21_32 mr_1_95 V_1 rfl rfl rfl hR (Nat.le_refl _) h1 h2 h (fun v5 hp6 h => ?_)
    refine mjr_pop D_21_35 rfl ?_
    refine mjr_aload_n (x := l0) D_21_36 rfl ?_
    refine mjq_gR D_21_37 fr_1_23 h (fun v7 h => ?_)
    refine mjr_aload_n (x := l0) D_21_40 rfl ?_
    refine mjq_gI D_21_41 fr_1_71 h (fun v8 h => ?_)
    refine mjq_vI (As := [.int v8]) (rest := []) D_21_44 mr_1_271 V_111 rfl rfl rfl hR (Nat.le_refl _) h1 h2 h (fun v9 hp10 h => ?_)
    exact mjq_ret D_21_47 rfl h1 h2 h
  · refine mjr_aload_n (x := l0) D_21_8 rfl ?_
    refine mjq_gR D_21_9 fr_1_9 h (fun v11 h => ?_)
    refine mjq_ic (v := (5 : Int32)) D_21_12 rfl ?_
    refine mjq_vN (As := [.int (5 : Int32)]) (rest := []) D_21_13 mr_1_186 V_165 rfl rfl rfl hR (Nat.le_refl _) h1 h2 h (fun  hp12 h => ?_)
    refine mjq_ic (v := (-1 : Int32)) D_21_16 rfl ?_
    exact mjq_ret D_21_17 rfl h1 h2 h
noncomputable def f_21 (R : mjR) (a0 : Nat) (hp : mjH) : mjU := b_21_0 R a0 hp
theorem c_21 {R : mjR} {d : Nat} (hR : mjC R d) {a0 : Nat} {hp : mjH} {q : Option Value × mjH} (h : f_21 R a0 hp = some q) : mjM (d + 1) 0 0 21 [.ref a0] hp (mjEq q) :=
  mjM_of Ja_21 (Nat.le_of_ble_eq_true rfl) (mjG.fg (lo' := [some (.ref a0)]) (And.intro rfl True.intro) ((t_21_0 hR (Nat.le_refl 0) (Nat.le_refl 0)) a0 hp q h))
def J_22 : mjI := (⟨"OwnerHeap$Coder", "codeMember", "(IZ)I"⟩, 1, prog_3_method_30_code, 8, (some .int), 2, false)
theorem Ja_22 : mjMt 22 = some J_22 := by rfl
theorem D_22_0 : decode J_22.2.2.1 0 = .ok (.aload_n 0, 1) := dzq_42 (by decide +kernel)
theorem D_22_1 : decode J_22.2.2.1 1 = .ok (.getfield 9, 3) := dzq_180 (by decide +kernel)
theorem D_22_4 : decode J_22.2.2.1 4 = .ok (.invokevirtual 111, 3) := dzq_182 (by decide +kernel)
theorem D_22_7 : decode J_22.2.2.1 7 = .ok (.istore_n 3, 1) := dzq_62 (by decide +kernel)
theorem D_22_8 : decode J_22.2.2.1 8 = .ok (.iload_n 1, 1) := dzq_27 (by decide +kernel)
theorem D_22_9 : decode J_22.2.2.1 9 = .ok (.ifCond .ge 15, 3) := dzq_156 (by decide +kernel)
theorem D_22_12 : decode J_22.2.2.1 12 = .ok (.aload_n 0, 1) := dzq_42 (by decide +kernel)
theorem D_22_13 : decode J_22.2.2.1 13 = .ok (.getfield 9, 3) := dzq_180 (by decide +kernel)
theorem D_22_16 : decode J_22.2.2.1 16 = .ok (.bipush 7, 2) := dzq_16 (by decide +kernel)
theorem D_22_18 : decode J_22.2.2.1 18 = .ok (.iload_n 3, 1) := dzq_29 (by decide +kernel)
theorem D_22_19 : decode J_22.2.2.1 19 = .ok (.invokevirtual 196, 3) := dzq_182 (by decide +kernel)
theorem D_22_22 : decode J_22.2.2.1 22 = .ok (.iconst (-1), 1) := dzq_2 (by decide +kernel)
theorem D_22_23 : decode J_22.2.2.1 23 = .ok (.ireturn, 1) := dzq_172 (by decide +kernel)
theorem D_22_24 : decode J_22.2.2.1 24 = .ok (.aload_n 0, 1) := dzq_42 (by decide +kernel)
theorem D_22_25 : decode J_22.2.2.1 25 = .ok (.getfield 9, 3) := dzq_180 (by decide +kernel)
theorem D_22_28 : decode J_22.2.2.1 28 = .ok (.iload_n 3, 1) := dzq_29 (by decide +kernel)
theorem D_22_29 : decode J_22.2.2.1 29 = .ok (.iconst 1, 1) := dzq_4 (by decide +kernel)
theorem D_22_30 : decode J_22.2.2.1 30 = .ok (.iadd, 1) := dzq_96 (by decide +kernel)
theorem D_22_31 : decode J_22.2.2.1 31 = .ok (.invokevirtual 200, 3) := dzq_182 (by decide +kernel)
theorem D_22_34 : decode J_22.2.2.1 34 = .ok (.bipush 40, 2) := dzq_16 (by decide +kernel)
theorem D_22_36 : decode J_22.2.2.1 36 = .ok (.if_icmp .ne 7, 3) := dzq_160 (by decide +kernel)
theorem D_22_39 : decode J_22.2.2.1 39 = .ok (.iconst 1, 1) := dzq_4 (by decide +kernel)
theorem D_22_40 : decode J_22.2.2.1 40 = .ok (.goto 4, 3) := dzq_167 (by decide +kernel)
theorem D_22_43 : decode J_22.2.2.1 43 = .ok (.iconst 0, 1) := dzq_3 (by decide +kernel)
theorem D_22_44 : decode J_22.2.2.1 44 = .ok (.istore 4, 2) := dzq_54 (by decide +kernel)
theorem D_22_46 : decode J_22.2.2.1 46 = .ok (.iload_n 1, 1) := dzq_27 (by decide +kernel)
theorem D_22_47 : decode J_22.2.2.1 47 = .ok (.invokestatic 274, 3) := dzq_184 (by decide +kernel)
theorem D_22_50 : decode J_22.2.2.1 50 = .ok (.istore 5, 2) := dzq_54 (by decide +kernel)
theorem D_22_52 : decode J_22.2.2.1 52 = .ok (.aload_n 0, 1) := dzq_42 (by decide +kernel)
theorem D_22_53 : decode J_22.2.2.1 53 = .ok (.getfield 23, 3) := dzq_180 (by decide +kernel)
theorem D_22_56 : decode J_22.2.2.1 56 = .ok (.iload 5, 2) := dzq_21 (by decide +kernel)
theorem D_22_58 : decode J_22.2.2.1 58 = .ok (.aload_n 0, 1) := dzq_42 (by decide +kernel)
theorem D_22_59 : decode J_22.2.2.1 59 = .ok (.getfield 9, 3) := dzq_180 (by decide +kernel)
theorem D_22_62 : decode J_22.2.2.1 62 = .ok (.iload_n 3, 1) := dzq_29 (by decide +kernel)
theorem D_22_63 : decode J_22.2.2.1 63 = .ok (.invokevirtual 125, 3) := dzq_182 (by decide +kernel)
theorem D_22_66 : decode J_22.2.2.1 66 = .ok (.iload 4, 2) := dzq_21 (by decide +kernel)
theorem D_22_68 : decode J_22.2.2.1 68 = .ok (.invokevirtual 277, 3) := dzq_182 (by decide +kernel)
theorem D_22_71 : decode J_22.2.2.1 71 = .ok (.istore 6, 2) := dzq_54 (by decide +kernel)
theorem D_22_73 : decode J_22.2.2.1 73 = .ok (.iload 6, 2) := dzq_21 (by decide +kernel)
theorem D_22_75 : decode J_22.2.2.1 75 = .ok (.iconst (-1), 1) := dzq_2 (by decide +kernel)
theorem D_22_76 : decode J_22.2.2.1 76 = .ok (.if_icmp .ne 14, 3) := dzq_160 (by decide +kernel)
theorem D_22_79 : decode J_22.2.2.1 79 = .ok (.aload_n 0, 1) := dzq_42 (by decide +kernel)
theorem D_22_80 : decode J_22.2.2.1 80 = .ok (.getfield 9, 3) := dzq_180 (by decide +kernel)
theorem D_22_83 : decode J_22.2.2.1 83 = .ok (.iconst 5, 1) := dzq_8 (by decide +kernel)
theorem D_22_84 : decode J_22.2.2.1 84 = .ok (.iload_n 3, 1) := dzq_29 (by decide +kernel)
theorem D_22_85 : decode J_22.2.2.1 85 = .ok (.invokevirtual 196, 3) := dzq_182 (by decide +kernel)
theorem D_22_88 : decode J_22.2.2.1 88 = .ok (.iconst (-1), 1) := dzq_2 (by decide +kernel)
theorem D_22_89 : decode J_22.2.2.1 89 = .ok (.ireturn, 1) := dzq_172 (by decide +kernel)
theorem D_22_90 : decode J_22.2.2.1 90 = .ok (.iload_n 2, 1) := dzq_28 (by decide +kernel)
theorem D_22_91 : decode J_22.2.2.1 91 = .ok (.ifCond .ne 25, 3) := dzq_154 (by decide +kernel)
theorem D_22_94 : decode J_22.2.2.1 94 = .ok (.aload_n 0, 1) := dzq_42 (by decide +kernel)
theorem D_22_95 : decode J_22.2.2.1 95 = .ok (.getfield 33, 3) := dzq_180 (by decide +kernel)
theorem D_22_98 : decode J_22.2.2.1 98 = .ok (.iload 6, 2) := dzq_21 (by decide +kernel)
theorem D_22_100 : decode J_22.2.2.1 100 = .ok (.invokevirtual 281, 3) := dzq_182 (by decide +kernel)
theorem D_22_103 : decode J_22.2.2.1 103 = .ok (.ifCond .eq 13, 3) := dzq_153 (by decide +kernel)
theorem D_22_106 : decode J_22.2.2.1 106 = .ok (.aload_n 0, 1) := dzq_42 (by decide +kernel)
theorem D_22_107 : decode J_22.2.2.1 107 = .ok (.getfield 9, 3) := dzq_180 (by decide +kernel)
theorem D_22_110 : decode J_22.2.2.1 110 = .ok (.bipush 10, 2) := dzq_16 (by decide +kernel)
theorem D_22_112 : decode J_22.2.2.1 112 = .ok (.iload_n 3, 1) := dzq_29 (by decide +kernel)
theorem D_22_113 : decode J_22.2.2.1 113 = .ok (.invokevirtual 196, 3) := dzq_182 (by decide +kernel)
theorem D_22_116 : decode J_22.2.2.1 116 = .ok (.aload_n 0, 1) := dzq_42 (by decide +kernel)
theorem D_22_117 : decode J_22.2.2.1 117 = .ok (.getfield 9, 3) := dzq_180 (by decide +kernel)
theorem D_22_120 : decode J_22.2.2.1 120 = .ok (.invokevirtual 137, 3) := dzq_182 (by decide +kernel)
theorem D_22_123 : decode J_22.2.2.1 123 = .ok (.aload_n 0, 1) := dzq_42 (by decide +kernel)
theorem D_22_124 : decode J_22.2.2.1 124 = .ok (.getfield 23, 3) := dzq_180 (by decide +kernel)
theorem D_22_127 : decode J_22.2.2.1 127 = .ok (.aload_n 0, 1) := dzq_42 (by decide +kernel)
theorem D_22_128 : decode J_22.2.2.1 128 = .ok (.getfield 23, 3) := dzq_180 (by decide +kernel)
theorem D_22_131 : decode J_22.2.2.1 131 = .ok (.iload 5, 2) := dzq_21 (by decide +kernel)
theorem D_22_133 : decode J_22.2.2.1 133 = .ok (.aload_n 0, 1) := dzq_42 (by decide +kernel)
theorem D_22_134 : decode J_22.2.2.1 134 = .ok (.getfield 33, 3) := dzq_180 (by decide +kernel)
theorem D_22_137 : decode J_22.2.2.1 137 = .ok (.getfield 68, 3) := dzq_180 (by decide +kernel)
theorem D_22_140 : decode J_22.2.2.1 140 = .ok (.iload 6, 2) := dzq_21 (by decide +kernel)
theorem D_22_142 : decode J_22.2.2.1 142 = .ok (.iaload, 1) := dzq_46 (by decide +kernel)
theorem D_22_143 : decode J_22.2.2.1 143 = .ok (.invokevirtual 284, 3) := dzq_182 (by decide +kernel)
theorem D_22_146 : decode J_22.2.2.1 146 = .ok (.iload_n 1, 1) := dzq_27 (by decide +kernel)
theorem D_22_147 : decode J_22.2.2.1 147 = .ok (.invokevirtual 287, 3) := dzq_182 (by decide +kernel)
theorem D_22_150 : decode J_22.2.2.1 150 = .ok (.istore 7, 2) := dzq_54 (by decide +kernel)
theorem D_22_152 : decode J_22.2.2.1 152 = .ok (.iload 4, 2) := dzq_21 (by decide +kernel)
theorem D_22_154 : decode J_22.2.2.1 154 = .ok (.ifCond .eq 15, 3) := dzq_153 (by decide +kernel)
theorem D_22_157 : decode J_22.2.2.1 157 = .ok (.aload_n 0, 1) := dzq_42 (by decide +kernel)
theorem D_22_158 : decode J_22.2.2.1 158 = .ok (.iload 6, 2) := dzq_21 (by decide +kernel)
theorem D_22_160 : decode J_22.2.2.1 160 = .ok (.iload_n 3, 1) := dzq_29 (by decide +kernel)
theorem D_22_161 : decode J_22.2.2.1 161 = .ok (.iload 7, 2) := dzq_21 (by decide +kernel)
theorem D_22_163 : decode J_22.2.2.1 163 = .ok (.invokevirtual 290, 3) := dzq_182 (by decide +kernel)
theorem D_22_166 : decode J_22.2.2.1 166 = .ok (.goto 10, 3) := dzq_167 (by decide +kernel)
theorem D_22_169 : decode J_22.2.2.1 169 = .ok (.aload_n 0, 1) := dzq_42 (by decide +kernel)
theorem D_22_170 : decode J_22.2.2.1 170 = .ok (.iload 6, 2) := dzq_21 (by decide +kernel)
theorem D_22_172 : decode J_22.2.2.1 172 = .ok (.iload_n 3, 1) := dzq_29 (by decide +kernel)
theorem D_22_173 : decode J_22.2.2.1 173 = .ok (.invokevirtual 293, 3) := dzq_182 (by decide +kernel)
theorem D_22_176 : decode J_22.2.2.1 176 = .ok (.aload_n 0, 1) := dzq_42 (by decide +kernel)
theorem D_22_177 : decode J_22.2.2.1 177 = .ok (.getfield 23, 3) := dzq_180 (by decide +kernel)
theorem D_22_180 : decode J_22.2.2.1 180 = .ok (.aload_n 0, 1) := dzq_42 (by decide +kernel)
theorem D_22_181 : decode J_22.2.2.1 181 = .ok (.getfield 33, 3) := dzq_180 (by decide +kernel)
theorem D_22_184 : decode J_22.2.2.1 184 = .ok (.getfield 74, 3) := dzq_180 (by decide +kernel)
theorem D_22_187 : decode J_22.2.2.1 187 = .ok (.iload 6, 2) := dzq_21 (by decide +kernel)
theorem D_22_189 : decode J_22.2.2.1 189 = .ok (.iaload, 1) := dzq_46 (by decide +kernel)
theorem D_22_190 : decode J_22.2.2.1 190 = .ok (.iload 7, 2) := dzq_21 (by decide +kernel)
theorem D_22_192 : decode J_22.2.2.1 192 = .ok (.invokevirtual 287, 3) := dzq_182 (by decide +kernel)
theorem D_22_195 : decode J_22.2.2.1 195 = .ok (.ireturn, 1) := dzq_172 (by decide +kernel)
def P_22_176 (X : mjX) (d C S kc ks : Nat) (k : Nat → Int32 → Int32 → mjH → mjU) : Prop := ∀ (l0 : Nat) (l6 : Int32) (l7 : Int32) (hp : mjH) (q : Option Value × mjH), k l0 l6 l7 hp = some q → mjG X d C S J_22 (mjEq q) 176 [some (.ref l0), none, none, none, none, none, some (.int l6), some (.int l7)] [] hp kc ks
def P_22_116 (X : mjX) (d C S kc ks : Nat) (k : Nat → Int32 → Int32 → Int32 → Int32 → Int32 → mjH → mjU) : Prop := ∀ (l0 : Nat) (l1 : Int32) (l3 : Int32) (l4 : Int32) (l5 : Int32) (l6 : Int32) (hp : mjH) (q : Option Value × mjH), k l0 l1 l3 l4 l5 l6 hp = some q → mjG X d C S J_22 (mjEq q) 116 [some (.ref l0), some (.int l1), none, some (.int l3), some (.int l4), some (.int l5), some (.int l6), none] [] hp kc ks
def P_22_44 (X : mjX) (d C S kc ks : Nat) (k : Nat → Int32 → Int32 → Int32 → Int32 → mjH → mjU) : Prop := ∀ (l0 : Nat) (l1 : Int32) (l2 : Int32) (l3 : Int32) (s0 : Int32) (hp : mjH) (q : Option Value × mjH), k l0 l1 l2 l3 s0 hp = some q → mjG X d C S J_22 (mjEq q) 44 [some (.ref l0), some (.int l1), some (.int l2), some (.int l3), none, none, none, none] [.int s0] hp kc ks
def P_22_0 (X : mjX) (d C S kc ks : Nat) (k : Nat → Int32 → Int32 → mjH → mjU) : Prop := ∀ (l0 : Nat) (l1 : Int32) (l2 : Int32) (hp : mjH) (q : Option Value × mjH), k l0 l1 l2 hp = some q → mjG X d C S J_22 (mjEq q) 0 [some (.ref l0), some (.int l1), some (.int l2), none, none, none, none, none] [] hp kc ks
noncomputable def b_22_176 (R : mjR) (l0 : Nat) (l6 : Int32) (l7 : Int32) (hp : mjH) : mjU := gR hp l0 1 3 (fun v1 => gR hp l0 1 4 (fun v2 => gR hp v2 6 3 (fun v3 => aI hp v3 l6 (fun v4 => rV hp v1 7 (bI (R 112 [.ref v1, .int v4, .int l7] hp) (fun v5 hp6 => some (some (.int v5), hp6)))))))
theorem t_22_176 {X : mjX} {d C S kc ks : Nat} {R : mjR} (hR : mjC R d) (h1 : kc ≤ C) (h2 : ks ≤ S) : P_22_176 X (d + 1) C S kc ks (b_22_176 R) := by
  intro l0 l6 l7 hp q h
  unfold b_22_176 at h
  refine mjr_aload_n (x := l0) D_22_176 rfl ?_
  refine mjq_gR D_22_177 fr_1_23 h (fun v1 h => ?_)
  refine mjr_aload_n (x := l0) D_22_180 rfl ?_
  refine mjq_gR D_22_181 fr_1_33 h (fun v2 h => ?_)
  refine mjq_gR D_22_184 fr_1_74 h (fun v3 h => ?_)
  refine mjr_iload (x := l6) D_22_187 rfl ?_
  refine mjq_aI D_22_189 h (fun v4 h => ?_)
  refine mjr_iload (x := l7) D_22_190 rfl ?_
  refine mjq_vI (As := [.int v4, .int l7]) (rest := []) D_22_192 mr_1_287 V_112 rfl rfl rfl hR (Nat.le_refl _) h1 h2 h (fun v5 hp6 h => ?_)
  exact mjq_ret D_22_195 rfl h1 h2 h
noncomputable def b_22_116 (R : mjR) (l0 : Nat) (l1 : Int32) (l3 : Int32) (l4 : Int32) (l5 : Int32) (l6 : Int32) (hp : mjH) : mjU := gR hp l0 1 0 (fun v1 => rV hp v1 9 (bN (R 166 [.ref v1] hp) (fun  hp2 => gR hp2 l0 1 3 (fun v3 => gR hp2 l0 1 3 (fun v4 => gR hp2 l0 1 4 (fun v5 => gR hp2 v5 6 2 (fun v6 => aI hp2 v6 l6 (fun v7 => rV hp2 v4 7 (bI (R 114 [.ref v4, .int l5, .int v7] hp2) (fun v8 hp9 => rV hp9 v3 7 (bI (R 112 [.ref v3, .int v8, .int l1] hp9) (fun v10 hp11 => (if l4 = 0 then rV hp11 l0 1 (bN (R 24 [.ref l0, .int l6, .int l3] hp11) (fun  hp12 => b_22_176 R l0 l6 v10 hp12)) else rV hp11 l0 1 (bN (R 23 [.ref l0, .int l6, .int l3, .int v10] hp11) (fun  hp13 => b_22_176 R l0 l6 v10 hp13)))))))))))))))
theorem t_22_116 {X : mjX} {d C S kc ks : Nat} {R : mjR} (hR : mjC R d) (h1 : kc ≤ C) (h2 : ks ≤ S) : P_22_116 X (d + 1) C S kc ks (b_22_116 R) := by
  intro l0 l1 l3 l4 l5 l6 hp q h
  unfold b_22_116 at h
  refine mjr_aload_n (x := l0) D_22_116 rfl ?_
  refine mjq_gR D_22_117 fr_1_9 h (fun v1 h => ?_)
  refine mjq_vN (As := []) (rest := []) D_22_120 mr_1_137 V_166 rfl rfl rfl hR (Nat.le_refl _) h1 h2 h (fun  hp2 h => ?_)
  refine mjr_aload_n (x := l0) D_22_123 rfl ?_
  refine mjq_gR D_22_124 fr_1_23 h (fun v3 h => ?_)
  refine mjr_aload_n (x := l0) D_22_127 rfl ?_
  refine mjq_gR D_22_128 fr_1_23 h (fun v4 h => ?_)
  refine mjr_iload (x := l5) D_22_131 rfl ?_
  refine mjr_aload_n (x := l0) D_22_133 rfl ?_
  refine mjq_gR D_22_134 fr_1_33 h (fun v5 h => ?_)
  refine mjq_gR D_22_137 fr_1_68 h (fun v6 h => ?_)
  refine mjr_iload (x := l6) D_22_140 rfl ?_
  refine mjq_aI D_22_142 h (fun v7 h => ?_)
  refine mjq_vI (As := [.int l5, .int v7]) (rest := [.ref v3]) D_22_143 mr_1_284 V_114 rfl rfl rfl hR (Nat.le_refl _) h1 h2 h (fun v8 hp9 h => ?_)
  refine mjr_iload_n (x := l1) D_22_146 rfl ?_
  refine mjq_vI (As := [.int v8, .int l1]) (rest := []) D_22_147 mr_1_287 V_112 rfl rfl rfl hR (Nat.le_refl _) h1 h2 h (fun v10 hp11 h => ?_)
  refine mjq_istore (lo' := [some (.ref l0), some (.int l1), none, some (.int l3), some (.int l4), some (.int l5), some (.int l6), some (.int v10)]) D_22_150 (Nat.le_of_ble_eq_true rfl) rfl ?_
  refine mjr_iload (x := l4) D_22_152 rfl ?_
  refine mjq_if_eq (tgt := 169) D_22_154 rfl h (fun h => ?_) (fun h => ?_)
  · refine mjr_aload_n (x := l0) D_22_169 rfl ?_
    refine mjr_iload (x := l6) D_22_170 rfl ?_
    refine mjr_iload_n (x := l3) D_22_172 rfl ?_
    refine mjq_vN (As := [.int l6, .int l3]) (rest := []) D_22_173 mr_1_293 V_24 rfl rfl rfl hR (Nat.le_refl _) h1 h2 h (fun  hp12 h => ?_)
    exact mjG.fg (lo' := [some (.ref l0), none, none, none, none, none, some (.int l6), some (.int v10)]) (And.intro rfl (And.intro rfl (And.intro rfl True.intro))) ((t_22_176 hR h1 h2) _ _ _ _ _ h)
  · refine mjr_aload_n (x := l0) D_22_157 rfl ?_
    refine mjr_iload (x := l6) D_22_158 rfl ?_
    refine mjr_iload_n (x := l3) D_22_160 rfl ?_
    refine mjr_iload (x := v10) D_22_161 rfl ?_
    refine mjq_vN (As := [.int l6, .int l3, .int v10]) (rest := []) D_22_163 mr_1_290 V_23 rfl rfl rfl hR (Nat.le_refl _) h1 h2 h (fun  hp13 h => ?_)
    refine mjr_goto (tgt := 176) D_22_166 rfl ?_
    exact mjG.fg (lo' := [some (.ref l0), none, none, none, none, none, some (.int l6), some (.int v10)]) (And.intro rfl (And.intro rfl (And.intro rfl True.intro))) ((t_22_176 hR h1 h2) _ _ _ _ _ h)
noncomputable def b_22_44 (R : mjR) (l0 : Nat) (l1 : Int32) (l2 : Int32) (l3 : Int32) (s0 : Int32) (hp : mjH) : mjU := bI (R 105 [.int l1] hp) (fun v1 hp2 => gR hp2 l0 1 3 (fun v3 => gR hp2 l0 1 0 (fun v4 => rV hp2 v4 9 (bL (R 170 [.ref v4, .int l3] hp2) (fun v5 hp6 => rV hp6 v3 7 (bI (R 121 [.ref v3, .int v1, .long v5, .int s0] hp6) (fun v7 hp8 => (if v7 = (-1 : Int32) then gR hp8 l0 1 0 (fun v14 => rV hp8 v14 9 (bN (R 178 [.ref v14, .int (5 : Int32), .int l3] hp8) (fun  hp15 => some (some (.int (-1 : Int32)), hp15)))) else (if l2 = 0 then gR hp8 l0 1 4 (fun v9 => rV hp8 v9 6 (bI (R 99 [.ref v9, .int v7] hp8) (fun v10 hp11 => (if v10 = 0 then b_22_116 R l0 l1 l3 s0 v1 v7 hp11 else gR hp11 l0 1 0 (fun v12 => rV hp11 v12 9 (bN (R 178 [.ref v12, .int (10 : Int32), .int l3] hp11) (fun  hp13 => b_22_116 R l0 l1 l3 s0 v1 v7 hp13))))))) else b_22_116 R l0 l1 l3 s0 v1 v7 hp8)))))))))
theorem t_22_44 {X : mjX} {d C S kc ks : Nat} {R : mjR} (hR : mjC R d) (h1 : kc ≤ C) (h2 : ks ≤ S) : P_22_44 X (d + 1) C S kc ks (b_22_44 R) := by
  intro l0 l1 l2 l3 s0 hp q h
  unfold b_22_44 at h
  refine mjq_istore (lo' := [some (.ref l0), some (.int l1), some (.int l2), some (.int l3), some (.int s0), none, none, none]) D_22_44 (Nat.le_of_ble_eq_true rfl) rfl ?_
  refine mjr_iload_n (x := l1) D_22_46 rfl ?_
  refine mjq_scI (As := [.int l1]) (rest := []) D_22_47 mr_1_274 V_105 rfl rfl rfl hR (Nat.le_refl _) h1 h2 h (fun v1 hp2 h => ?_)
  refine mjq_istore (lo' := [some (.ref l0), some (.int l1), some (.int l2), some (.int l3), some (.int s0), some (.int v1), none, none]) D_22_50 (Nat.le_of_ble_eq_true rfl) rfl ?_
  refine mjr_aload_n (x := l0) D_22_52 rfl ?_
  refine mjq_gR D_22_53 fr_1_23 h (fun v3 h => ?_)
  refine mjr_iload (x := v1) D_22_56 rfl ?_
  refine mjr_aload_n (x := l0) D_22_58 rfl ?_
  refine mjq_gR D_22_59 fr_1_9 h (fun v4 h => ?_)
  refine mjr_iload_n (x := l3) D_22_62 rfl ?_
  refine mjq_vL (As := [.int l3]) (rest := [.int v1, .ref v3]) D_22_63 mr_1_125 V_170 rfl rfl rfl hR (Nat.le_refl _) h1 h2 h (fun v5 hp6 h => ?_)
  refine mjr_iload (x := s0) D_22_66 rfl ?_
  refine mjq_vI (As := [.int v1, .long v5, .int s0]) (rest := []) D_22_68 mr_1_277 V_121 rfl rfl rfl hR (Nat.le_refl _) h1 h2 h (fun v7 hp8 h => ?_)
  refine mjq_istore (lo' := [some (.ref l0), some (.int l1), some (.int l2), some (.int l3), some (.int s0), some (.int v1), some (.int v7), none]) D_22_71 (Nat.le_of_ble_eq_true rfl) rfl ?_
  refine mjr_iload (x := v7) D_22_73 rfl ?_
  refine mjq_ic (v := (-1 : Int32)) D_22_75 rfl ?_
  refine mjq_icmp_ne (tgt := 90) D_22_76 rfl h (fun h => ?_) (fun h => ?_)
  · refine mjr_iload_n (x := l2) D_22_90 rfl ?_
    refine mjq_if_ne (tgt := 116) D_22_91 rfl h (fun h => ?_) (fun h => ?_)
    · exact mjG.fg (lo' := [some (.ref l0), some (.int l1), none, some (.int l3), some (.int s0), some (.int v1), some (.int v7), none]) (And.intro rfl (And.intro rfl (And.intro rfl (And.intro rfl (And.intro rfl (And.intro rfl True.intro)))))) ((t_22_116 hR h1 h2) _ _ _ _ _ _ _ _ h)
    · refine mjr_aload_n (x := l0) D_22_94 rfl ?_
      refine mjq_gR D_22_95 fr_1_33 h (fun v9 h => ?_)
      refine mjr_iload (x := v7) D_22_98 rfl ?_
      refine mjq_vI (As := [.int v7]) (rest := []) D_22_100 mr_1_281 V_99 rfl rfl rfl hR (Nat.le_refl _) h1 h2 h (fun v10 hp11 h => ?_)
      refine mjq_if_eq (tgt := 116) D_22_103 rfl h (fun h => ?_) (fun h => ?_)
      · exact mjG.fg (lo' := [some (.ref l0), some (.int l1), none, some (.int l3), some (.int s0), some (.int v1), some (.int v7), none]) (And.intro rfl (And.intro rfl (And.intro rfl (And.intro rfl (And.intro rfl (And.intro rfl True.intro)))))) ((t_22_116 hR h1 h2) _ _ _ _ _ _ _ _ h)
      · refine mjr_aload_n (x := l0) D_22_106 rfl ?_
        refine mjq_gR D_22_107 fr_1_9 h (fun v12 h => ?_)
        refine mjq_bi (v := (10 : Int32)) D_22_110 rfl ?_
        refine mjr_iload_n (x := l3) D_22_112 rfl ?_
        refine mjq_vN (As := [.int (10 : Int32), .int l3]) (rest := []) D_22_113 mr_1_196 V_178 rfl rfl rfl hR (Nat.le_refl _) h1 h2 h (fun  hp13 h => ?_)
        exact mjG.fg (lo' := [some (.ref l0), some (.int l1), none, some (.int l3), some (.int s0), some (.int v1), some (.int v7), none]) (And.intro rfl (And.intro rfl (And.intro rfl (And.intro rfl (And.intro rfl (And.intro rfl True.intro)))))) ((t_22_116 hR h1 h2) _ _ _ _ _ _ _ _ h)
  · refine mjr_aload_n (x := l0) D_22_79 rfl ?_
    refine mjq_gR D_22_80 fr_1_9 h (fun v14 h => ?_)
    refine mjq_ic (v := (5 : Int32)) D_22_83 rfl ?_
    refine mjr_iload_n (x := l3) D_22_84 rfl ?_
    refine mjq_vN (As := [.int (5 : Int32), .int l3]) (rest := []) D_22_85 mr_1_196 V_178 rfl rfl rfl hR (Nat.le_refl _) h1 h2 h (fun  hp15 h => ?_)
    refine mjq_ic (v := (-1 : Int32)) D_22_88 rfl ?_
    exact mjq_ret D_22_89 rfl h1 h2 h
noncomputable def b_22_0 (R : mjR) (l0 : Nat) (l1 : Int32) (l2 : Int32) (hp : mjH) : mjU := gR hp l0 1 0 (fun v1 => rV hp v1 9 (bI (R 167 [.ref v1] hp) (fun v2 hp3 => (if 0 ≤ l1 then gR hp3 l0 1 0 (fun v4 => rV hp3 v4 9 (bI (R 180 [.ref v4, .int (v2 + (1 : Int32))] hp3) (fun v5 hp6 => (if v5 = (40 : Int32) then b_22_44 R l0 l1 l2 v2 (1 : Int32) hp6 else b_22_44 R l0 l1 l2 v2 (0 : Int32) hp6)))) else gR hp3 l0 1 0 (fun v7 => rV hp3 v7 9 (bN (R 178 [.ref v7, .int (7 : Int32), .int v2] hp3) (fun  hp8 => some (some (.int (-1 : Int32)), hp8))))))))
theorem t_22_0 {X : mjX} {d C S kc ks : Nat} {R : mjR} (hR : mjC R d) (h1 : kc ≤ C) (h2 : ks ≤ S) : P_22_0 X (d + 1) C S kc ks (b_22_0 R) := by
  intro l0 l1 l2 hp q h
  unfold b_22_0 at h
  refine mjr_aload_n (x := l0) D_22_0 rfl ?_
  refine mjq_gR D_22_1 fr_1_9 h (fun v1 h => ?_)
  refine mjq_vI (As := []) (rest := []) D_22_4 mr_1_111 V_167 rfl rfl rfl hR (Nat.le_refl _) h1 h2 h (fun v2 hp3 h => ?_)
  refine mjq_istore_n (lo' := [some (.ref l0), some (.int l1), some (.int l2), some (.int v2), none, none, none, none]) D_22_7 (Nat.le_of_ble_eq_true rfl) rfl ?_
  refine mjr_iload_n (x := l1) D_22_8 rfl ?_
  refine mjq_if_ge (tgt := 24) D_22_9 rfl h (fun h => ?_) (fun h => ?_)
  · refine mjr_aload_n (x := l0) D_22_24 rfl ?_
    refine mjq_gR D_22_25 fr_1_9 h (fun v4 h => ?_)
    refine mjr_iload_n (x := v2) D_22_28 rfl ?_
    refine mjq_ic (v := (1 : Int32)) D_22_29 rfl ?_
    refine mjr_iadd D_22_30 ?_
    refine mjq_vI (As := [.int (v2 + (1 : Int32))]) (rest := []) D_22_31 mr_1_200 V_180 rfl rfl rfl hR (Nat.le_refl _) h1 h2 h (fun v5 hp6 h => ?_)
    refine mjq_bi (v := (40 : Int32)) D_22_34 rfl ?_
    refine mjq_icmp_ne (tgt := 43) D_22_36 rfl h (fun h => ?_) (fun h => ?_)
    · refine mjq_ic (v := (0 : Int32)) D_22_43 rfl ?_
      exact (t_22_44 hR h1 h2) _ _ _ _ _ _ _ h
    · refine mjq_ic (v := (1 : Int32)) D_22_39 rfl ?_
      refine mjr_goto (tgt := 44) D_22_40 rfl ?_
      exact (t_22_44 hR h1 h2) _ _ _ _ _ _ _ h
  · refine mjr_aload_n (x := l0) D_22_12 rfl ?_
    refine mjq_gR D_22_13 fr_1_9 h (fun v7 h => ?_)
    refine mjq_bi (v := (7 : Int32)) D_22_16 rfl ?_
    refine mjr_iload_n (x := v2) D_22_18 rfl ?_
    refine mjq_vN (As := [.int (7 : Int32), .int v2]) (rest := []) D_22_19 mr_1_196 V_178 rfl rfl rfl hR (Nat.le_refl _) h1 h2 h (fun  hp8 h => ?_)
    refine mjq_ic (v := (-1 : Int32)) D_22_22 rfl ?_
    exact mjq_ret D_22_23 rfl h1 h2 h
noncomputable def f_22 (R : mjR) (a0 : Nat) (a1 : Int32) (a2 : Int32) (hp : mjH) : mjU := b_22_0 R a0 a1 a2 hp
theorem c_22 {R : mjR} {d : Nat} (hR : mjC R d) {a0 : Nat} {a1 : Int32} {a2 : Int32} {hp : mjH} {q : Option Value × mjH} (h : f_22 R a0 a1 a2 hp = some q) : mjM (d + 1) 0 0 22 [.ref a0, .int a1, .int a2] hp (mjEq q) :=
  mjM_of Ja_22 (Nat.le_of_ble_eq_true rfl) (mjG.fg (lo' := [some (.ref a0), some (.int a1), some (.int a2), none, none, none, none, none]) (And.intro rfl (And.intro rfl (And.intro rfl True.intro))) ((t_22_0 hR (Nat.le_refl 0) (Nat.le_refl 0)) a0 a1 a2 hp q h))
def J_23 : mjI := (⟨"OwnerHeap$Coder", "codeCall", "(III)V"⟩, 1, prog_3_method_32_code, 7, none, 3, false)
theorem Ja_23 : mjMt 23 = some J_23 := by rfl
theorem D_23_0 : decode J_23.2.2.1 0 = .ok (.aload_n 0, 1) := dzq_42 (by decide +kernel)
theorem D_23_1 : decode J_23.2.2.1 1 = .ok (.getfield 9, 3) := dzq_180 (by decide +kernel)
theorem D_23_4 : decode J_23.2.2.1 4 = .ok (.iload_n 2, 1) := dzq_28 (by decide +kernel)
theorem D_23_5 : decode J_23.2.2.1 5 = .ok (.iconst 1, 1) := dzq_4 (by decide +kernel)
theorem D_23_6 : decode J_23.2.2.1 6 = .ok (.iadd, 1) := dzq_96 (by decide +kernel)
theorem D_23_7 : decode J_23.2.2.1 7 = .ok (.invokevirtual 299, 3) := dzq_182 (by decide +kernel)
theorem D_23_10 : decode J_23.2.2.1 10 = .ok (.aload_n 0, 1) := dzq_42 (by decide +kernel)
theorem D_23_11 : decode J_23.2.2.1 11 = .ok (.getfield 33, 3) := dzq_180 (by decide +kernel)
theorem D_23_14 : decode J_23.2.2.1 14 = .ok (.getfield 108, 3) := dzq_180 (by decide +kernel)
theorem D_23_17 : decode J_23.2.2.1 17 = .ok (.iload_n 1, 1) := dzq_27 (by decide +kernel)
theorem D_23_18 : decode J_23.2.2.1 18 = .ok (.iaload, 1) := dzq_46 (by decide +kernel)
theorem D_23_19 : decode J_23.2.2.1 19 = .ok (.if_icmp .eq 14, 3) := dzq_159 (by decide +kernel)
theorem D_23_22 : decode J_23.2.2.1 22 = .ok (.aload_n 0, 1) := dzq_42 (by decide +kernel)
theorem D_23_23 : decode J_23.2.2.1 23 = .ok (.getfield 9, 3) := dzq_180 (by decide +kernel)
theorem D_23_26 : decode J_23.2.2.1 26 = .ok (.bipush 6, 2) := dzq_16 (by decide +kernel)
theorem D_23_28 : decode J_23.2.2.1 28 = .ok (.iload_n 2, 1) := dzq_28 (by decide +kernel)
theorem D_23_29 : decode J_23.2.2.1 29 = .ok (.invokevirtual 196, 3) := dzq_182 (by decide +kernel)
theorem D_23_32 : decode J_23.2.2.1 32 = .ok (.return_, 1) := dzq_177 (by decide +kernel)
theorem D_23_33 : decode J_23.2.2.1 33 = .ok (.aload_n 0, 1) := dzq_42 (by decide +kernel)
theorem D_23_34 : decode J_23.2.2.1 34 = .ok (.getfield 9, 3) := dzq_180 (by decide +kernel)
theorem D_23_37 : decode J_23.2.2.1 37 = .ok (.invokevirtual 137, 3) := dzq_182 (by decide +kernel)
theorem D_23_40 : decode J_23.2.2.1 40 = .ok (.iconst 0, 1) := dzq_3 (by decide +kernel)
theorem D_23_41 : decode J_23.2.2.1 41 = .ok (.istore 4, 2) := dzq_54 (by decide +kernel)
theorem D_23_43 : decode J_23.2.2.1 43 = .ok (.iload 4, 2) := dzq_21 (by decide +kernel)
theorem D_23_45 : decode J_23.2.2.1 45 = .ok (.aload_n 0, 1) := dzq_42 (by decide +kernel)
theorem D_23_46 : decode J_23.2.2.1 46 = .ok (.getfield 33, 3) := dzq_180 (by decide +kernel)
theorem D_23_49 : decode J_23.2.2.1 49 = .ok (.getfield 108, 3) := dzq_180 (by decide +kernel)
theorem D_23_52 : decode J_23.2.2.1 52 = .ok (.iload_n 1, 1) := dzq_27 (by decide +kernel)
theorem D_23_53 : decode J_23.2.2.1 53 = .ok (.iaload, 1) := dzq_46 (by decide +kernel)
theorem D_23_54 : decode J_23.2.2.1 54 = .ok (.if_icmp .ge 87, 3) := dzq_162 (by decide +kernel)
theorem D_23_57 : decode J_23.2.2.1 57 = .ok (.aload_n 0, 1) := dzq_42 (by decide +kernel)
theorem D_23_58 : decode J_23.2.2.1 58 = .ok (.getfield 9, 3) := dzq_180 (by decide +kernel)
theorem D_23_61 : decode J_23.2.2.1 61 = .ok (.invokevirtual 54, 3) := dzq_182 (by decide +kernel)
theorem D_23_64 : decode J_23.2.2.1 64 = .ok (.ifCond .eq 77, 3) := dzq_153 (by decide +kernel)
theorem D_23_67 : decode J_23.2.2.1 67 = .ok (.iload 4, 2) := dzq_21 (by decide +kernel)
theorem D_23_69 : decode J_23.2.2.1 69 = .ok (.ifCond .le 10, 3) := dzq_158 (by decide +kernel)
theorem D_23_72 : decode J_23.2.2.1 72 = .ok (.aload_n 0, 1) := dzq_42 (by decide +kernel)
theorem D_23_73 : decode J_23.2.2.1 73 = .ok (.getfield 9, 3) := dzq_180 (by decide +kernel)
theorem D_23_76 : decode J_23.2.2.1 76 = .ok (.invokevirtual 137, 3) := dzq_182 (by decide +kernel)
theorem D_23_79 : decode J_23.2.2.1 79 = .ok (.aload_n 0, 1) := dzq_42 (by decide +kernel)
theorem D_23_80 : decode J_23.2.2.1 80 = .ok (.getfield 9, 3) := dzq_180 (by decide +kernel)
theorem D_23_83 : decode J_23.2.2.1 83 = .ok (.invokevirtual 111, 3) := dzq_182 (by decide +kernel)
theorem D_23_86 : decode J_23.2.2.1 86 = .ok (.istore 5, 2) := dzq_54 (by decide +kernel)
theorem D_23_88 : decode J_23.2.2.1 88 = .ok (.aload_n 0, 1) := dzq_42 (by decide +kernel)
theorem D_23_89 : decode J_23.2.2.1 89 = .ok (.getfield 23, 3) := dzq_180 (by decide +kernel)
theorem D_23_92 : decode J_23.2.2.1 92 = .ok (.aload_n 0, 1) := dzq_42 (by decide +kernel)
theorem D_23_93 : decode J_23.2.2.1 93 = .ok (.getfield 33, 3) := dzq_180 (by decide +kernel)
theorem D_23_96 : decode J_23.2.2.1 96 = .ok (.iload_n 1, 1) := dzq_27 (by decide +kernel)
theorem D_23_97 : decode J_23.2.2.1 97 = .ok (.iload 4, 2) := dzq_21 (by decide +kernel)
theorem D_23_99 : decode J_23.2.2.1 99 = .ok (.invokevirtual 129, 3) := dzq_182 (by decide +kernel)
theorem D_23_102 : decode J_23.2.2.1 102 = .ok (.iload_n 3, 1) := dzq_29 (by decide +kernel)
theorem D_23_103 : decode J_23.2.2.1 103 = .ok (.invokevirtual 287, 3) := dzq_182 (by decide +kernel)
theorem D_23_106 : decode J_23.2.2.1 106 = .ok (.istore 6, 2) := dzq_54 (by decide +kernel)
theorem D_23_108 : decode J_23.2.2.1 108 = .ok (.aload_n 0, 1) := dzq_42 (by decide +kernel)
theorem D_23_109 : decode J_23.2.2.1 109 = .ok (.getfield 23, 3) := dzq_180 (by decide +kernel)
theorem D_23_112 : decode J_23.2.2.1 112 = .ok (.aload_n 0, 1) := dzq_42 (by decide +kernel)
theorem D_23_113 : decode J_23.2.2.1 113 = .ok (.invokevirtual 189, 3) := dzq_182 (by decide +kernel)
theorem D_23_116 : decode J_23.2.2.1 116 = .ok (.iload 6, 2) := dzq_21 (by decide +kernel)
theorem D_23_118 : decode J_23.2.2.1 118 = .ok (.invokevirtual 192, 3) := dzq_182 (by decide +kernel)
theorem D_23_121 : decode J_23.2.2.1 121 = .ok (.ifCond .ne 14, 3) := dzq_154 (by decide +kernel)
theorem D_23_124 : decode J_23.2.2.1 124 = .ok (.aload_n 0, 1) := dzq_42 (by decide +kernel)
theorem D_23_125 : decode J_23.2.2.1 125 = .ok (.getfield 9, 3) := dzq_180 (by decide +kernel)
theorem D_23_128 : decode J_23.2.2.1 128 = .ok (.bipush 7, 2) := dzq_16 (by decide +kernel)
theorem D_23_130 : decode J_23.2.2.1 130 = .ok (.iload 5, 2) := dzq_21 (by decide +kernel)
theorem D_23_132 : decode J_23.2.2.1 132 = .ok (.invokevirtual 196, 3) := dzq_182 (by decide +kernel)
theorem D_23_135 : decode J_23.2.2.1 135 = .ok (.iinc 4 1, 3) := dzq_132 (by decide +kernel)
theorem D_23_138 : decode J_23.2.2.1 138 = .ok (.goto (-95), 3) := dzq_167 (by decide +kernel)
theorem D_23_141 : decode J_23.2.2.1 141 = .ok (.aload_n 0, 1) := dzq_42 (by decide +kernel)
theorem D_23_142 : decode J_23.2.2.1 142 = .ok (.getfield 9, 3) := dzq_180 (by decide +kernel)
theorem D_23_145 : decode J_23.2.2.1 145 = .ok (.invokevirtual 137, 3) := dzq_182 (by decide +kernel)
theorem D_23_148 : decode J_23.2.2.1 148 = .ok (.aload_n 0, 1) := dzq_42 (by decide +kernel)
theorem D_23_149 : decode J_23.2.2.1 149 = .ok (.getfield 38, 3) := dzq_180 (by decide +kernel)
theorem D_23_152 : decode J_23.2.2.1 152 = .ok (.bipush 13, 2) := dzq_16 (by decide +kernel)
theorem D_23_154 : decode J_23.2.2.1 154 = .ok (.iload_n 1, 1) := dzq_27 (by decide +kernel)
theorem D_23_155 : decode J_23.2.2.1 155 = .ok (.aload_n 0, 1) := dzq_42 (by decide +kernel)
theorem D_23_156 : decode J_23.2.2.1 156 = .ok (.getfield 9, 3) := dzq_180 (by decide +kernel)
theorem D_23_159 : decode J_23.2.2.1 159 = .ok (.iload_n 2, 1) := dzq_28 (by decide +kernel)
theorem D_23_160 : decode J_23.2.2.1 160 = .ok (.invokevirtual 148, 3) := dzq_182 (by decide +kernel)
theorem D_23_163 : decode J_23.2.2.1 163 = .ok (.invokevirtual 95, 3) := dzq_182 (by decide +kernel)
theorem D_23_166 : decode J_23.2.2.1 166 = .ok (.pop, 1) := dzq_87 (by decide +kernel)
theorem D_23_167 : decode J_23.2.2.1 167 = .ok (.return_, 1) := dzq_177 (by decide +kernel)
def P_23_141 (X : mjX) (d C S kc ks : Nat) (k : Nat → Int32 → Int32 → mjH → mjU) : Prop := ∀ (l0 : Nat) (l1 : Int32) (l2 : Int32) (hp : mjH) (q : Option Value × mjH), k l0 l1 l2 hp = some q → mjG X d C S J_23 (mjEq q) 141 [some (.ref l0), some (.int l1), some (.int l2), none, none, none, none] [] hp kc ks
def P_23_135 (X : mjX) (d C S kc ks : Nat) (k : Nat → Int32 → Int32 → Int32 → Int32 → mjH → mjU) : Prop := ∀ (l0 : Nat) (l1 : Int32) (l2 : Int32) (l3 : Int32) (l4 : Int32) (hp : mjH) (q : Option Value × mjH), k l0 l1 l2 l3 l4 hp = some q → mjG X d C S J_23 (mjEq q) 135 [some (.ref l0), some (.int l1), some (.int l2), some (.int l3), some (.int l4), none, none] [] hp kc ks
def P_23_79 (X : mjX) (d C S kc ks : Nat) (k : Nat → Int32 → Int32 → Int32 → Int32 → mjH → mjU) : Prop := ∀ (l0 : Nat) (l1 : Int32) (l2 : Int32) (l3 : Int32) (l4 : Int32) (hp : mjH) (q : Option Value × mjH), k l0 l1 l2 l3 l4 hp = some q → mjG X d C S J_23 (mjEq q) 79 [some (.ref l0), some (.int l1), some (.int l2), some (.int l3), some (.int l4), none, none] [] hp kc ks
def P_23_43 (X : mjX) (d C S kc ks : Nat) (k : Nat → Int32 → Int32 → Int32 → Int32 → mjH → mjU) : Prop := ∀ (l0 : Nat) (l1 : Int32) (l2 : Int32) (l3 : Int32) (l4 : Int32) (hp : mjH) (q : Option Value × mjH), k l0 l1 l2 l3 l4 hp = some q → mjG X d C S J_23 (mjEq q) 43 [some (.ref l0), some (.int l1), some (.int l2), some (.int l3), some (.int l4), none, none] [] hp kc ks
def P_23_0 (X : mjX) (d C S kc ks : Nat) (k : Nat → Int32 → Int32 → Int32 → mjH → mjU) : Prop := ∀ (l0 : Nat) (l1 : Int32) (l2 : Int32) (l3 : Int32) (hp : mjH) (q : Option Value × mjH), k l0 l1 l2 l3 hp = some q → mjG X d C S J_23 (mjEq q) 0 [some (.ref l0), some (.int l1), some (.int l2), some (.int l3), none, none, none] [] hp kc ks
noncomputable def b_23_141 (R : mjR) (l0 : Nat) (l1 : Int32) (l2 : Int32) (hp : mjH) : mjU := gR hp l0 1 0 (fun v1 => rV hp v1 9 (bN (R 166 [.ref v1] hp) (fun  hp2 => gR hp2 l0 1 5 (fun v3 => gR hp2 l0 1 0 (fun v4 => rV hp2 v4 9 (bI (R 168 [.ref v4, .int l2] hp2) (fun v5 hp6 => rV hp6 v3 0 (bI (R 1 [.ref v3, .int (13 : Int32), .int l1, .int v5] hp6) (fun v7 hp8 => some (none, hp8))))))))))
theorem t_23_141 {X : mjX} {d C S kc ks : Nat} {R : mjR} (hR : mjC R d) (h1 : kc ≤ C) (h2 : ks ≤ S) : P_23_141 X (d + 1) C S kc ks (b_23_141 R) := by
  intro l0 l1 l2 hp q h
  unfold b_23_141 at h
  refine mjr_aload_n (x := l0) D_23_141 rfl ?_
  refine mjq_gR D_23_142 fr_1_9 h (fun v1 h => ?_)
  refine mjq_vN (As := []) (rest := []) D_23_145 mr_1_137 V_166 rfl rfl rfl hR (Nat.le_refl _) h1 h2 h (fun  hp2 h => ?_)
  refine mjr_aload_n (x := l0) D_23_148 rfl ?_
  refine mjq_gR D_23_149 fr_1_38 h (fun v3 h => ?_)
  refine mjq_bi (v := (13 : Int32)) D_23_152 rfl ?_
  refine mjr_iload_n (x := l1) D_23_154 rfl ?_
  refine mjr_aload_n (x := l0) D_23_155 rfl ?_
  refine mjq_gR D_23_156 fr_1_9 h (fun v4 h => ?_)
  refine mjr_iload_n (x := l2) D_23_159 rfl ?_
  refine mjq_vI (As := [.int l2]) (rest := [.int l1, .int (13 : Int32), .ref v3]) D_23_160 mr_1_148 V_168 rfl rfl rfl hR (Nat.le_refl _) h1 h2 h (fun v5 hp6 h => ?_)
  refine mjq_vI (As := [.int (13 : Int32), .int l1, .int v5]) (rest := []) D_23_163 mr_1_95 V_1 rfl rfl rfl hR (Nat.le_refl _) h1 h2 h (fun v7 hp8 h => ?_)
  refine mjr_pop D_23_166 rfl ?_
  exact mjq_nret D_23_167 rfl h1 h2 h
noncomputable def b_23_135 (R : mjR) (k43 : Nat → Int32 → Int32 → Int32 → Int32 → mjH → mjU) (l0 : Nat) (l1 : Int32) (l2 : Int32) (l3 : Int32) (l4 : Int32) (hp : mjH) : mjU := k43 l0 l1 l2 l3 (l4 + (1 : Int32)) hp
theorem t_23_135 {X : mjX} {d C S kc ks : Nat} {R : mjR} (hR : mjC R d) (h1 : kc ≤ C) (h2 : ks ≤ S) {k43 : Nat → Int32 → Int32 → Int32 → Int32 → mjH → mjU} (hk43 : P_23_43 X (d + 1) C S kc ks k43) : P_23_135 X (d + 1) C S kc ks (b_23_135 R k43) := by
  intro l0 l1 l2 l3 l4 hp q h
  unfold b_23_135 at h
  refine mjq_iinc (x := l4) (c := (1 : Int32)) (lo' := [some (.ref l0), some (.int l1), some (.int l2), some (.int l3), some (.int (l4 + (1 : Int32))), none, none]) D_23_135 rfl (Nat.le_of_ble_eq_true rfl) rfl rfl ?_
  refine mjr_goto (tgt := 43) D_23_138 rfl ?_
  exact hk43 _ _ _ _ _ _ _ h
noncomputable def b_23_79 (R : mjR) (k43 : Nat → Int32 → Int32 → Int32 → Int32 → mjH → mjU) (l0 : Nat) (l1 : Int32) (l2 : Int32) (l3 : Int32) (l4 : Int32) (hp : mjH) : mjU := gR hp l0 1 0 (fun v1 => rV hp v1 9 (bI (R 167 [.ref v1] hp) (fun v2 hp3 => gR hp3 l0 1 3 (fun v4 => gR hp3 l0 1 4 (fun v5 => rV hp3 v5 6 (bI (R 98 [.ref v5, .int l1, .int l4] hp3) (fun v6 hp7 => rV hp7 v4 7 (bI (R 112 [.ref v4, .int v6, .int l3] hp7) (fun v8 hp9 => gR hp9 l0 1 3 (fun v10 => rV hp9 l0 1 (bI (R 11 [.ref l0] hp9) (fun v11 hp12 => rV hp12 v10 7 (bI (R 123 [.ref v10, .int v11, .int v8] hp12) (fun v13 hp14 => (if v13 = 0 then gR hp14 l0 1 0 (fun v15 => rV hp14 v15 9 (bN (R 178 [.ref v15, .int (7 : Int32), .int v2] hp14) (fun  hp16 => b_23_135 R k43 l0 l1 l2 l3 l4 hp16))) else b_23_135 R k43 l0 l1 l2 l3 l4 hp14)))))))))))))))
theorem t_23_79 {X : mjX} {d C S kc ks : Nat} {R : mjR} (hR : mjC R d) (h1 : kc ≤ C) (h2 : ks ≤ S) {k43 : Nat → Int32 → Int32 → Int32 → Int32 → mjH → mjU} (hk43 : P_23_43 X (d + 1) C S kc ks k43) : P_23_79 X (d + 1) C S kc ks (b_23_79 R k43) := by
  intro l0 l1 l2 l3 l4 hp q h
  unfold b_23_79 at h
  refine mjr_aload_n (x := l0) D_23_79 rfl ?_
  refine mjq_gR D_23_80 fr_1_9 h (fun v1 h => ?_)
  refine mjq_vI (As := []) (rest := []) D_23_83 mr_1_111 V_167 rfl rfl rfl hR (Nat.le_refl _) h1 h2 h (fun v2 hp3 h => ?_)
  refine mjq_istore (lo' := [some (.ref l0), some (.int l1), some (.int l2), some (.int l3), some (.int l4), some (.int v2), none]) D_23_86 (Nat.le_of_ble_eq_true rfl) rfl ?_
  refine mjr_aload_n (x := l0) D_23_88 rfl ?_
  refine mjq_gR D_23_89 fr_1_23 h (fun v4 h => ?_)
  refine mjr_aload_n (x := l0) D_23_92 rfl ?_
  refine mjq_gR D_23_93 fr_1_33 h (fun v5 h => ?_)
  refine mjr_iload_n (x := l1) D_23_96 rfl ?_
  refine mjr_iload (x := l4) D_23_97 rfl ?_
  refine mjq_vI (As := [.int l1, .int l4]) (rest := [.ref v4]) D_23_99 mr_1_129 V_98 rfl rfl rfl hR (Nat.le_refl _) h1 h2 h (fun v6 hp7 h => ?_)
  refine mjr_iload_n (x := l3) D_23_102 rfl ?_
  refine mjq_vI (As := [.int v6, .int l3]) (rest := []) D_23_103 mr_1_287 V_112 rfl rfl rfl hR (Nat.le_refl _) h1 h2 h (fun v8 hp9 h => ?_)
  refine mjq_istore (lo' := [some (.ref l0), some (.int l1), some (.int l2), some (.int l3), some (.int l4), some (.int v2), some (.int v8)]) D_23_106 (Nat.le_of_ble_eq_true rfl) rfl ?_
  refine mjr_aload_n (x := l0) D_23_108 rfl ?_
  refine mjq_gR D_23_109 fr_1_23 h (fun v10 h => ?_)
  refine mjr_aload_n (x := l0) D_23_112 rfl ?_
  refine mjq_vI (As := []) (rest := [.ref v10]) D_23_113 mr_1_189 V_11 rfl rfl rfl hR (Nat.le_refl _) h1 h2 h (fun v11 hp12 h => ?_)
  refine mjr_iload (x := v8) D_23_116 rfl ?_
  refine mjq_vI (As := [.int v11, .int v8]) (rest := []) D_23_118 mr_1_192 V_123 rfl rfl rfl hR (Nat.le_refl _) h1 h2 h (fun v13 hp14 h => ?_)
  refine mjq_if_ne (tgt := 135) D_23_121 rfl h (fun h => ?_) (fun h => ?_)
  · exact mjG.fg (lo' := [some (.ref l0), some (.int l1), some (.int l2), some (.int l3), some (.int l4), none, none]) (And.intro rfl (And.intro rfl (And.intro rfl (And.intro rfl (And.intro rfl True.intro))))) ((t_23_135 hR h1 h2 hk43) _ _ _ _ _ _ _ h)
  · refine mjr_aload_n (x := l0) D_23_124 rfl ?_
    refine mjq_gR D_23_125 fr_1_9 h (fun v15 h => ?_)
    refine mjq_bi (v := (7 : Int32)) D_23_128 rfl ?_
    refine mjr_iload (x := v2) D_23_130 rfl ?_
    refine mjq_vN (As := [.int (7 : Int32), .int v2]) (rest := []) D_23_132 mr_1_196 V_178 rfl rfl rfl hR (Nat.le_refl _) h1 h2 h (fun  hp16 h => ?_)
    exact mjG.fg (lo' := [some (.ref l0), some (.int l1), some (.int l2), some (.int l3), some (.int l4), none, none]) (And.intro rfl (And.intro rfl (And.intro rfl (And.intro rfl (And.intro rfl True.intro))))) ((t_23_135 hR h1 h2 hk43) _ _ _ _ _ _ _ h)
noncomputable def b_23_43 (R : mjR) (k43 : Nat → Int32 → Int32 → Int32 → Int32 → mjH → mjU) (l0 : Nat) (l1 : Int32) (l2 : Int32) (l3 : Int32) (l4 : Int32) (hp : mjH) : mjU := gR hp l0 1 4 (fun v1 => gR hp v1 6 6 (fun v2 => aI hp v2 l1 (fun v3 => (if v3 ≤ l4 then b_23_141 R l0 l1 l2 hp else gR hp l0 1 0 (fun v4 => rV hp v4 9 (bI (R 172 [.ref v4] hp) (fun v5 hp6 => (if v5 = 0 then b_23_141 R l0 l1 l2 hp6 else (if l4 ≤ 0 then b_23_79 R k43 l0 l1 l2 l3 l4 hp6 else gR hp6 l0 1 0 (fun v7 => rV hp6 v7 9 (bN (R 166 [.ref v7] hp6) (fun  hp8 => b_23_79 R k43 l0 l1 l2 l3 l4 hp8))))))))))))
theorem t_23_43 {X : mjX} {d C S kc ks : Nat} {R : mjR} (hR : mjC R d) (h1 : kc ≤ C) (h2 : ks ≤ S) {k43 : Nat → Int32 → Int32 → Int32 → Int32 → mjH → mjU} (hk43 : P_23_43 X (d + 1) C S kc ks k43) : P_23_43 X (d + 1) C S kc ks (b_23_43 R k43) := by
  intro l0 l1 l2 l3 l4 hp q h
  unfold b_23_43 at h
  refine mjr_iload (x := l4) D_23_43 rfl ?_
  refine mjr_aload_n (x := l0) D_23_45 rfl ?_
  refine mjq_gR D_23_46 fr_1_33 h (fun v1 h => ?_)
  refine mjq_gR D_23_49 fr_1_108 h (fun v2 h => ?_)
  refine mjr_iload_n (x := l1) D_23_52 rfl ?_
  refine mjq_aI D_23_53 h (fun v3 h => ?_)
  refine mjq_icmp_ge (tgt := 141) D_23_54 rfl h (fun h => ?_) (fun h => ?_)
  · exact mjG.fg (lo' := [some (.ref l0), some (.int l1), some (.int l2), none, none, none, none]) (And.intro rfl (And.intro rfl (And.intro rfl True.intro))) ((t_23_141 hR h1 h2) _ _ _ _ _ h)
  · refine mjr_aload_n (x := l0) D_23_57 rfl ?_
    refine mjq_gR D_23_58 fr_1_9 h (fun v4 h => ?_)
    refine mjq_vI (As := []) (rest := []) D_23_61 mr_1_54 V_172 rfl rfl rfl hR (Nat.le_refl _) h1 h2 h (fun v5 hp6 h => ?_)
    refine mjq_if_eq (tgt := 141) D_23_64 rfl h (fun h => ?_) (fun h => ?_)
    · exact mjG.fg (lo' := [some (.ref l0), some (.int l1), some (.int l2), none, none, none, none]) (And.intro rfl (And.intro rfl (And.intro rfl True.intro))) ((t_23_141 hR h1 h2) _ _ _ _ _ h)
    · refine mjr_iload (x := l4) D_23_67 rfl ?_
      refine mjq_if_le (tgt := 79) D_23_69 rfl h (fun h => ?_) (fun h => ?_)
      · exact (t_23_79 hR h1 h2 hk43) _ _ _ _ _ _ _ h
      · refine mjr_aload_n (x := l0) D_23_72 rfl ?_
        refine mjq_gR D_23_73 fr_1_9 h (fun v7 h => ?_)
        refine mjq_vN (As := []) (rest := []) D_23_76 mr_1_137 V_166 rfl rfl rfl hR (Nat.le_refl _) h1 h2 h (fun  hp8 h => ?_)
        exact (t_23_79 hR h1 h2 hk43) _ _ _ _ _ _ _ h
noncomputable def L_23_43 (R : mjR) (n : Nat) : Nat → Int32 → Int32 → Int32 → Int32 → mjH → mjU := Nat.rec (motive := fun _ => Nat → Int32 → Int32 → Int32 → Int32 → mjH → mjU) (fun _ _ _ _ _ _ => none) (fun _ self => b_23_43 R self) n
theorem T_23_43 {X : mjX} {d C S kc ks : Nat} {R : mjR} (hR : mjC R d) (h1 : kc ≤ C) (h2 : ks ≤ S) (n : Nat) : P_23_43 X (d + 1) C S kc ks (L_23_43 R n) := by
  induction n with
  | zero => intro _ _ _ _ _ _ _ h; exact mj_no h
  | succ n ih => exact t_23_43 hR h1 h2 ih
noncomputable def b_23_0 (R : mjR) (l0 : Nat) (l1 : Int32) (l2 : Int32) (l3 : Int32) (hp : mjH) : mjU := gR hp l0 1 0 (fun v1 => rV hp v1 9 (bI (R 181 [.ref v1, .int (l2 + (1 : Int32))] hp) (fun v2 hp3 => gR hp3 l0 1 4 (fun v4 => gR hp3 v4 6 6 (fun v5 => aI hp3 v5 l1 (fun v6 => (if v2 = v6 then gR hp3 l0 1 0 (fun v7 => rV hp3 v7 9 (bN (R 166 [.ref v7] hp3) (fun  hp8 => L_23_43 R mjN l0 l1 l2 l3 (0 : Int32) hp8))) else gR hp3 l0 1 0 (fun v9 => rV hp3 v9 9 (bN (R 178 [.ref v9, .int (6 : Int32), .int l2] hp3) (fun  hp10 => some (none, hp10)))))))))))
theorem t_23_0 {X : mjX} {d C S kc ks : Nat} {R : mjR} (hR : mjC R d) (h1 : kc ≤ C) (h2 : ks ≤ S) : P_23_0 X (d + 1) C S kc ks (b_23_0 R) := by
  intro l0 l1 l2 l3 hp q h
  unfold b_23_0 at h
  refine mjr_aload_n (x := l0) D_23_0 rfl ?_
  refine mjq_gR D_23_1 fr_1_9 h (fun v1 h => ?_)
  refine mjr_iload_n (x := l2) D_23_4 rfl ?_
  refine mjq_ic (v := (1 : Int32)) D_23_5 rfl ?_
  refine mjr_iadd D_23_6 ?_
  refine mjq_vI (As := [.int (l2 + (1 : Int32))]) (rest := []) D_23_7 mr_1_299 V_181 rfl rfl rfl hR (Nat.le_refl _) h1 h2 h (fun v2 hp3 h => ?_)
  refine mjr_aload_n (x := l0) D_23_10 rfl ?_
  refine mjq_gR D_23_11 fr_1_33 h (fun v4 h => ?_)
  refine mjq_gR D_23_14 fr_1_108 h (fun v5 h => ?_)
  refine mjr_iload_n (x := l1) D_23_17 rfl ?_
  refine mjq_aI D_23_18 h (fun v6 h => ?_)
  refine mjq_icmp_eq (tgt := 33) D_23_19 rfl h (fun h => ?_) (fun h => ?_)
  · refine mjr_aload_n (x := l0) D_23_33 rfl ?_
    refine mjq_gR D_23_34 fr_1_9 h (fun v7 h => ?_)
    refine mjq_vN (As := []) (rest := []) D_23_37 mr_1_137 V_166 rfl rfl rfl hR (Nat.le_refl _) h1 h2 h (fun  hp8 h => ?_)
    refine mjq_ic (v := (0 : Int32)) D_23_40 rfl ?_
    refine mjq_istore (lo' := [some (.ref l0), some (.int l1), some (.int l2), some (.int l3), some (.int (0 : Int32)), none, none]) D_23_41 (Nat.le_of_ble_eq_true rfl) rfl ?_
    exact (T_23_43 hR h1 h2 mjN) _ _ _ _ _ _ _ h
  · refine mjr_aload_n (x := l0) D_23_22 rfl ?_
    refine mjq_gR D_23_23 fr_1_9 h (fun v9 h => ?_)
    refine mjq_bi (v := (6 : Int32)) D_23_26 rfl ?_
    refine mjr_iload_n (x := l2) D_23_28 rfl ?_
    refine mjq_vN (As := [.int (6 : Int32), .int l2]) (rest := []) D_23_29 mr_1_196 V_178 rfl rfl rfl hR (Nat.le_refl _) h1 h2 h (fun  hp10 h => ?_)
    exact mjq_nret D_23_32 rfl h1 h2 h
noncomputable def f_23 (R : mjR) (a0 : Nat) (a1 : Int32) (a2 : Int32) (a3 : Int32) (hp : mjH) : mjU := b_23_0 R a0 a1 a2 a3 hp
theorem c_23 {R : mjR} {d : Nat} (hR : mjC R d) {a0 : Nat} {a1 : Int32} {a2 : Int32} {a3 : Int32} {hp : mjH} {q : Option Value × mjH} (h : f_23 R a0 a1 a2 a3 hp = some q) : mjM (d + 1) 0 0 23 [.ref a0, .int a1, .int a2, .int a3] hp (mjEq q) :=
  mjM_of Ja_23 (Nat.le_of_ble_eq_true rfl) (mjG.fg (lo' := [some (.ref a0), some (.int a1), some (.int a2), some (.int a3), none, none, none]) (And.intro rfl (And.intro rfl (And.intro rfl (And.intro rfl True.intro)))) ((t_23_0 hR (Nat.le_refl 0) (Nat.le_refl 0)) a0 a1 a2 a3 hp q h))
def J_24 : mjI := (⟨"OwnerHeap$Coder", "codeField", "(II)V"⟩, 1, prog_3_method_31_code, 4, none, 2, false)
theorem Ja_24 : mjMt 24 = some J_24 := by rfl
theorem D_24_0 : decode J_24.2.2.1 0 = .ok (.aload_n 0, 1) := dzq_42 (by decide +kernel)
theorem D_24_1 : decode J_24.2.2.1 1 = .ok (.getfield 9, 3) := dzq_180 (by decide +kernel)
theorem D_24_4 : decode J_24.2.2.1 4 = .ok (.iload_n 2, 1) := dzq_28 (by decide +kernel)
theorem D_24_5 : decode J_24.2.2.1 5 = .ok (.invokevirtual 148, 3) := dzq_182 (by decide +kernel)
theorem D_24_8 : decode J_24.2.2.1 8 = .ok (.istore_n 3, 1) := dzq_62 (by decide +kernel)
theorem D_24_9 : decode J_24.2.2.1 9 = .ok (.aload_n 0, 1) := dzq_42 (by decide +kernel)
theorem D_24_10 : decode J_24.2.2.1 10 = .ok (.getfield 9, 3) := dzq_180 (by decide +kernel)
theorem D_24_13 : decode J_24.2.2.1 13 = .ok (.bipush 61, 2) := dzq_16 (by decide +kernel)
theorem D_24_15 : decode J_24.2.2.1 15 = .ok (.invokevirtual 115, 3) := dzq_182 (by decide +kernel)
theorem D_24_18 : decode J_24.2.2.1 18 = .ok (.ifCond .eq 21, 3) := dzq_153 (by decide +kernel)
theorem D_24_21 : decode J_24.2.2.1 21 = .ok (.aload_n 0, 1) := dzq_42 (by decide +kernel)
theorem D_24_22 : decode J_24.2.2.1 22 = .ok (.iconst 4, 1) := dzq_7 (by decide +kernel)
theorem D_24_23 : decode J_24.2.2.1 23 = .ok (.aload_n 0, 1) := dzq_42 (by decide +kernel)
theorem D_24_24 : decode J_24.2.2.1 24 = .ok (.getfield 33, 3) := dzq_180 (by decide +kernel)
theorem D_24_27 : decode J_24.2.2.1 27 = .ok (.getfield 296, 3) := dzq_180 (by decide +kernel)
theorem D_24_30 : decode J_24.2.2.1 30 = .ok (.iload_n 1, 1) := dzq_27 (by decide +kernel)
theorem D_24_31 : decode J_24.2.2.1 31 = .ok (.iaload, 1) := dzq_46 (by decide +kernel)
theorem D_24_32 : decode J_24.2.2.1 32 = .ok (.iload_n 3, 1) := dzq_29 (by decide +kernel)
theorem D_24_33 : decode J_24.2.2.1 33 = .ok (.invokevirtual 209, 3) := dzq_182 (by decide +kernel)
theorem D_24_36 : decode J_24.2.2.1 36 = .ok (.goto 23, 3) := dzq_167 (by decide +kernel)
theorem D_24_39 : decode J_24.2.2.1 39 = .ok (.aload_n 0, 1) := dzq_42 (by decide +kernel)
theorem D_24_40 : decode J_24.2.2.1 40 = .ok (.getfield 38, 3) := dzq_180 (by decide +kernel)
theorem D_24_43 : decode J_24.2.2.1 43 = .ok (.bipush 12, 2) := dzq_16 (by decide +kernel)
theorem D_24_45 : decode J_24.2.2.1 45 = .ok (.aload_n 0, 1) := dzq_42 (by decide +kernel)
theorem D_24_46 : decode J_24.2.2.1 46 = .ok (.getfield 33, 3) := dzq_180 (by decide +kernel)
theorem D_24_49 : decode J_24.2.2.1 49 = .ok (.getfield 296, 3) := dzq_180 (by decide +kernel)
theorem D_24_52 : decode J_24.2.2.1 52 = .ok (.iload_n 1, 1) := dzq_27 (by decide +kernel)
theorem D_24_53 : decode J_24.2.2.1 53 = .ok (.iaload, 1) := dzq_46 (by decide +kernel)
theorem D_24_54 : decode J_24.2.2.1 54 = .ok (.iload_n 3, 1) := dzq_29 (by decide +kernel)
theorem D_24_55 : decode J_24.2.2.1 55 = .ok (.invokevirtual 95, 3) := dzq_182 (by decide +kernel)
theorem D_24_58 : decode J_24.2.2.1 58 = .ok (.pop, 1) := dzq_87 (by decide +kernel)
theorem D_24_59 : decode J_24.2.2.1 59 = .ok (.return_, 1) := dzq_177 (by decide +kernel)
def P_24_0 (X : mjX) (d C S kc ks : Nat) (k : Nat → Int32 → Int32 → mjH → mjU) : Prop := ∀ (l0 : Nat) (l1 : Int32) (l2 : Int32) (hp : mjH) (q : Option Value × mjH), k l0 l1 l2 hp = some q → mjG X d C S J_24 (mjEq q) 0 [some (.ref l0), some (.int l1), some (.int l2), none] [] hp kc ks
noncomputable def b_24_0 (R : mjR) (l0 : Nat) (l1 : Int32) (l2 : Int32) (hp : mjH) : mjU := gR hp l0 1 0 (fun v1 => rV hp v1 9 (bI (R 168 [.ref v1, .int l2] hp) (fun v2 hp3 => gR hp3 l0 1 0 (fun v4 => rV hp3 v4 9 (bI (R 164 [.ref v4, .int (61 : Int32)] hp3) (fun v5 hp6 => (if v5 = 0 then gR hp6 l0 1 5 (fun v7 => gR hp6 l0 1 4 (fun v8 => gR hp6 v8 6 5 (fun v9 => aI hp6 v9 l1 (fun v10 => rV hp6 v7 0 (bI (R 1 [.ref v7, .int (12 : Int32), .int v10, .int v2] hp6) (fun v11 hp12 => some (none, hp12))))))) else gR hp6 l0 1 4 (fun v13 => gR hp6 v13 6 5 (fun v14 => aI hp6 v14 l1 (fun v15 => rV hp6 l0 1 (bN (R 25 [.ref l0, .int (4 : Int32), .int v15, .int v2] hp6) (fun  hp16 => some (none, hp16)))))))))))))
theorem t_24_0 {X : mjX} {d C S kc ks : Nat} {R : mjR} (hR : mjC R d) (h1 : kc ≤ C) (h2 : ks ≤ S) : P_24_0 X (d + 1) C S kc ks (b_24_0 R) := by
  intro l0 l1 l2 hp q h
  unfold b_24_0 at h
  refine mjr_aload_n (x := l0) D_24_0 rfl ?_
  refine mjq_gR D_24_1 fr_1_9 h (fun v1 h => ?_)
  refine mjr_iload_n (x := l2) D_24_4 rfl ?_
  refine mjq_vI (As := [.int l2]) (rest := []) D_24_5 mr_1_148 V_168 rfl rfl rfl hR (Nat.le_refl _) h1 h2 h (fun v2 hp3 h => ?_)
  refine mjq_istore_n (lo' := [some (.ref l0), some (.int l1), some (.int l2), some (.int v2)]) D_24_8 (Nat.le_of_ble_eq_true rfl) rfl ?_
  refine mjr_aload_n (x := l0) D_24_9 rfl ?_
  refine mjq_gR D_24_10 fr_1_9 h (fun v4 h => ?_)
  refine mjq_bi (v := (61 : Int32)) D_24_13 rfl ?_
  refine mjq_vI (As := [.int (61 : Int32)]) (rest := []) D_24_15 mr_1_115 V_164 rfl rfl rfl hR (Nat.le_refl _) h1 h2 h (fun v5 hp6 h => ?_)
  refine mjq_if_eq (tgt := 39) D_24_18 rfl h (fun h => ?_) (fun h => ?_)
  · refine mjr_aload_n (x := l0) D_24_39 rfl ?_
    refine mjq_gR D_24_40 fr_1_38 h (fun v7 h => ?_)
    refine mjq_bi (v := (12 : Int32)) D_24_43 rfl ?_
    refine mjr_aload_n (x := l0) D_24_45 rfl ?_
    refine mjq_gR D_24_46 fr_1_33 h (fun v8 h => ?_)
    refine mjq_gR D_24_49 fr_1_296 h (fun v9 h => ?_)
    refine mjr_iload_n (x := l1) D_24_52 rfl ?_
    refine mjq_aI D_24_53 h (fun v10 h => ?_)
    refine mjr_iload_n (x := v2) D_24_54 rfl ?_
    refine mjq_vI (As := [.int (12 : Int32), .int v10, .int v2]) (rest := []) D_24_55 mr_1_95 V_1 rfl rfl rfl hR (Nat.le_refl _) h1 h2 h (fun v11 hp12 h => ?_)
    refine mjr_pop D_24_58 rfl ?_
    exact mjq_nret D_24_59 rfl h1 h2 h
  · refine mjr_aload_n (x := l0) D_24_21 rfl ?_
    refine mjq_ic (v := (4 : Int32)) D_24_22 rfl ?_
    refine mjr_aload_n (x := l0) D_24_23 rfl ?_
    refine mjq_gR D_24_24 fr_1_33 h (fun v13 h => ?_)
    refine mjq_gR D_24_27 fr_1_296 h (fun v14 h => ?_)
    refine mjr_iload_n (x := l1) D_24_30 rfl ?_
    refine mjq_aI D_24_31 h (fun v15 h => ?_)
    refine mjr_iload_n (x := v2) D_24_32 rfl ?_
    refine mjq_vN (As := [.int (4 : Int32), .int v15, .int v2]) (rest := []) D_24_33 mr_1_209 V_25 rfl rfl rfl hR (Nat.le_refl _) h1 h2 h (fun  hp16 h => ?_)
    refine mjr_goto (tgt := 59) D_24_36 rfl ?_
    exact mjq_nret D_24_59 rfl h1 h2 h
noncomputable def f_24 (R : mjR) (a0 : Nat) (a1 : Int32) (a2 : Int32) (hp : mjH) : mjU := b_24_0 R a0 a1 a2 hp
theorem c_24 {R : mjR} {d : Nat} (hR : mjC R d) {a0 : Nat} {a1 : Int32} {a2 : Int32} {hp : mjH} {q : Option Value × mjH} (h : f_24 R a0 a1 a2 hp = some q) : mjM (d + 1) 0 0 24 [.ref a0, .int a1, .int a2] hp (mjEq q) :=
  mjM_of Ja_24 (Nat.le_of_ble_eq_true rfl) (mjG.fg (lo' := [some (.ref a0), some (.int a1), some (.int a2), none]) (And.intro rfl (And.intro rfl (And.intro rfl True.intro))) ((t_24_0 hR (Nat.le_refl 0) (Nat.le_refl 0)) a0 a1 a2 hp q h))
def J_25 : mjI := (⟨"OwnerHeap$Coder", "aimAt", "(III)V"⟩, 1, prog_3_method_11_code, 4, none, 3, false)
theorem Ja_25 : mjMt 25 = some J_25 := by rfl
theorem D_25_0 : decode J_25.2.2.1 0 = .ok (.aload_n 0, 1) := dzq_42 (by decide +kernel)
theorem D_25_1 : decode J_25.2.2.1 1 = .ok (.iload_n 1, 1) := dzq_27 (by decide +kernel)
theorem D_25_2 : decode J_25.2.2.1 2 = .ok (.putfield 173, 3) := dzq_181 (by decide +kernel)
theorem D_25_5 : decode J_25.2.2.1 5 = .ok (.aload_n 0, 1) := dzq_42 (by decide +kernel)
theorem D_25_6 : decode J_25.2.2.1 6 = .ok (.iload_n 2, 1) := dzq_28 (by decide +kernel)
theorem D_25_7 : decode J_25.2.2.1 7 = .ok (.putfield 176, 3) := dzq_181 (by decide +kernel)
theorem D_25_10 : decode J_25.2.2.1 10 = .ok (.aload_n 0, 1) := dzq_42 (by decide +kernel)
theorem D_25_11 : decode J_25.2.2.1 11 = .ok (.iload_n 3, 1) := dzq_29 (by decide +kernel)
theorem D_25_12 : decode J_25.2.2.1 12 = .ok (.putfield 179, 3) := dzq_181 (by decide +kernel)
theorem D_25_15 : decode J_25.2.2.1 15 = .ok (.return_, 1) := dzq_177 (by decide +kernel)
def P_25_0 (X : mjX) (d C S kc ks : Nat) (k : Nat → Int32 → Int32 → Int32 → mjH → mjU) : Prop := ∀ (l0 : Nat) (l1 : Int32) (l2 : Int32) (l3 : Int32) (hp : mjH) (q : Option Value × mjH), k l0 l1 l2 l3 hp = some q → mjG X d C S J_25 (mjEq q) 0 [some (.ref l0), some (.int l1), some (.int l2), some (.int l3)] [] hp kc ks
noncomputable def b_25_0 (R : mjR) (l0 : Nat) (l1 : Int32) (l2 : Int32) (l3 : Int32) (hp : mjH) : mjU := pI hp l0 1 13 l1 (fun hp1 => pI hp1 l0 1 14 l2 (fun hp2 => pI hp2 l0 1 15 l3 (fun hp3 => some (none, hp3))))
theorem t_25_0 {X : mjX} {d C S kc ks : Nat} {R : mjR} (hR : mjC R d) (h1 : kc ≤ C) (h2 : ks ≤ S) : P_25_0 X (d + 1) C S kc ks (b_25_0 R) := by
  intro l0 l1 l2 l3 hp q h
  unfold b_25_0 at h
  refine mjr_aload_n (x := l0) D_25_0 rfl ?_
  refine mjr_iload_n (x := l1) D_25_1 rfl ?_
  refine mjq_pI D_25_2 fr_1_173 rfl rfl h (fun hp1 h => ?_)
  refine mjr_aload_n (x := l0) D_25_5 rfl ?_
  refine mjr_iload_n (x := l2) D_25_6 rfl ?_
  refine mjq_pI D_25_7 fr_1_176 rfl rfl h (fun hp2 h => ?_)
  refine mjr_aload_n (x := l0) D_25_10 rfl ?_
  refine mjr_iload_n (x := l3) D_25_11 rfl ?_
  refine mjq_pI D_25_12 fr_1_179 rfl rfl h (fun hp3 h => ?_)
  exact mjq_nret D_25_15 rfl h1 h2 h
noncomputable def f_25 (R : mjR) (a0 : Nat) (a1 : Int32) (a2 : Int32) (a3 : Int32) (hp : mjH) : mjU := b_25_0 R a0 a1 a2 a3 hp
theorem c_25 {R : mjR} {d : Nat} (hR : mjC R d) {a0 : Nat} {a1 : Int32} {a2 : Int32} {a3 : Int32} {hp : mjH} {q : Option Value × mjH} (h : f_25 R a0 a1 a2 a3 hp = some q) : mjM (d + 1) 0 0 25 [.ref a0, .int a1, .int a2, .int a3] hp (mjEq q) :=
  mjM_of Ja_25 (Nat.le_of_ble_eq_true rfl) (mjG.fg (lo' := [some (.ref a0), some (.int a1), some (.int a2), some (.int a3)]) (And.intro rfl (And.intro rfl (And.intro rfl (And.intro rfl True.intro)))) ((t_25_0 hR (Nat.le_refl 0) (Nat.le_refl 0)) a0 a1 a2 a3 hp q h))
def J_26 : mjI := (⟨"OwnerHeap$Coder", "refuseIfInt", "(II)V"⟩, 1, prog_3_method_12_code, 3, none, 2, false)
theorem Ja_26 : mjMt 26 = some J_26 := by rfl
theorem D_26_0 : decode J_26.2.2.1 0 = .ok (.iload_n 1, 1) := dzq_27 (by decide +kernel)
theorem D_26_1 : decode J_26.2.2.1 1 = .ok (.iconst (-1), 1) := dzq_2 (by decide +kernel)
theorem D_26_2 : decode J_26.2.2.1 2 = .ok (.if_icmp .ne 13, 3) := dzq_160 (by decide +kernel)
theorem D_26_5 : decode J_26.2.2.1 5 = .ok (.aload_n 0, 1) := dzq_42 (by decide +kernel)
theorem D_26_6 : decode J_26.2.2.1 6 = .ok (.getfield 9, 3) := dzq_180 (by decide +kernel)
theorem D_26_9 : decode J_26.2.2.1 9 = .ok (.bipush 7, 2) := dzq_16 (by decide +kernel)
theorem D_26_11 : decode J_26.2.2.1 11 = .ok (.iload_n 2, 1) := dzq_28 (by decide +kernel)
theorem D_26_12 : decode J_26.2.2.1 12 = .ok (.invokevirtual 196, 3) := dzq_182 (by decide +kernel)
theorem D_26_15 : decode J_26.2.2.1 15 = .ok (.return_, 1) := dzq_177 (by decide +kernel)
def P_26_0 (X : mjX) (d C S kc ks : Nat) (k : Nat → Int32 → Int32 → mjH → mjU) : Prop := ∀ (l0 : Nat) (l1 : Int32) (l2 : Int32) (hp : mjH) (q : Option Value × mjH), k l0 l1 l2 hp = some q → mjG X d C S J_26 (mjEq q) 0 [some (.ref l0), some (.int l1), some (.int l2)] [] hp kc ks
noncomputable def b_26_0 (R : mjR) (l0 : Nat) (l1 : Int32) (l2 : Int32) (hp : mjH) : mjU := (if l1 = (-1 : Int32) then gR hp l0 1 0 (fun v1 => rV hp v1 9 (bN (R 178 [.ref v1, .int (7 : Int32), .int l2] hp) (fun  hp2 => some (none, hp2)))) else some (none, hp))
theorem t_26_0 {X : mjX} {d C S kc ks : Nat} {R : mjR} (hR : mjC R d) (h1 : kc ≤ C) (h2 : ks ≤ S) : P_26_0 X (d + 1) C S kc ks (b_26_0 R) := by
  intro l0 l1 l2 hp q h
  unfold b_26_0 at h
  refine mjr_iload_n (x := l1) D_26_0 rfl ?_
  refine mjq_ic (v := (-1 : Int32)) D_26_1 rfl ?_
  refine mjq_icmp_ne (tgt := 15) D_26_2 rfl h (fun h => ?_) (fun h => ?_)
  · exact mjq_nret D_26_15 rfl h1 h2 h
  · refine mjr_aload_n (x := l0) D_26_5 rfl ?_
    refine mjq_gR D_26_6 fr_1_9 h (fun v1 h => ?_)
    refine mjq_bi (v := (7 : Int32)) D_26_9 rfl ?_
    refine mjr_iload_n (x := l2) D_26_11 rfl ?_
    refine mjq_vN (As := [.int (7 : Int32), .int l2]) (rest := []) D_26_12 mr_1_196 V_178 rfl rfl rfl hR (Nat.le_refl _) h1 h2 h (fun  hp2 h => ?_)
    exact mjq_nret D_26_15 rfl h1 h2 h
noncomputable def f_26 (R : mjR) (a0 : Nat) (a1 : Int32) (a2 : Int32) (hp : mjH) : mjU := b_26_0 R a0 a1 a2 hp
theorem c_26 {R : mjR} {d : Nat} (hR : mjC R d) {a0 : Nat} {a1 : Int32} {a2 : Int32} {hp : mjH} {q : Option Value × mjH} (h : f_26 R a0 a1 a2 hp = some q) : mjM (d + 1) 0 0 26 [.ref a0, .int a1, .int a2] hp (mjEq q) :=
  mjM_of Ja_26 (Nat.le_of_ble_eq_true rfl) (mjG.fg (lo' := [some (.ref a0), some (.int a1), some (.int a2)]) (And.intro rfl (And.intro rfl (And.intro rfl True.intro))) ((t_26_0 hR (Nat.le_refl 0) (Nat.le_refl 0)) a0 a1 a2 hp q h))
def J_27 : mjI := (⟨"OwnerHeap$Coder", "askNumber", "(II)V"⟩, 1, prog_3_method_13_code, 3, none, 2, false)
theorem Ja_27 : mjMt 27 = some J_27 := by rfl
theorem D_27_0 : decode J_27.2.2.1 0 = .ok (.iload_n 1, 1) := dzq_27 (by decide +kernel)
theorem D_27_1 : decode J_27.2.2.1 1 = .ok (.iconst (-1), 1) := dzq_2 (by decide +kernel)
theorem D_27_2 : decode J_27.2.2.1 2 = .ok (.if_icmp .eq 13, 3) := dzq_159 (by decide +kernel)
theorem D_27_5 : decode J_27.2.2.1 5 = .ok (.aload_n 0, 1) := dzq_42 (by decide +kernel)
theorem D_27_6 : decode J_27.2.2.1 6 = .ok (.getfield 9, 3) := dzq_180 (by decide +kernel)
theorem D_27_9 : decode J_27.2.2.1 9 = .ok (.bipush 7, 2) := dzq_16 (by decide +kernel)
theorem D_27_11 : decode J_27.2.2.1 11 = .ok (.iload_n 2, 1) := dzq_28 (by decide +kernel)
theorem D_27_12 : decode J_27.2.2.1 12 = .ok (.invokevirtual 196, 3) := dzq_182 (by decide +kernel)
theorem D_27_15 : decode J_27.2.2.1 15 = .ok (.return_, 1) := dzq_177 (by decide +kernel)
def P_27_0 (X : mjX) (d C S kc ks : Nat) (k : Nat → Int32 → Int32 → mjH → mjU) : Prop := ∀ (l0 : Nat) (l1 : Int32) (l2 : Int32) (hp : mjH) (q : Option Value × mjH), k l0 l1 l2 hp = some q → mjG X d C S J_27 (mjEq q) 0 [some (.ref l0), some (.int l1), some (.int l2)] [] hp kc ks
noncomputable def b_27_0 (R : mjR) (l0 : Nat) (l1 : Int32) (l2 : Int32) (hp : mjH) : mjU := (if l1 = (-1 : Int32) then some (none, hp) else gR hp l0 1 0 (fun v1 => rV hp v1 9 (bN (R 178 [.ref v1, .int (7 : Int32), .int l2] hp) (fun  hp2 => some (none, hp2)))))
theorem t_27_0 {X : mjX} {d C S kc ks : Nat} {R : mjR} (hR : mjC R d) (h1 : kc ≤ C) (h2 : ks ≤ S) : P_27_0 X (d + 1) C S kc ks (b_27_0 R) := by
  intro l0 l1 l2 hp q h
  unfold b_27_0 at h
  refine mjr_iload_n (x := l1) D_27_0 rfl ?_
  refine mjq_ic (v := (-1 : Int32)) D_27_1 rfl ?_
  refine mjq_icmp_eq (tgt := 15) D_27_2 rfl h (fun h => ?_) (fun h => ?_)
  · exact mjq_nret D_27_15 rfl h1 h2 h
  · refine mjr_aload_n (x := l0) D_27_5 rfl ?_
    refine mjq_gR D_27_6 fr_1_9 h (fun v1 h => ?_)
    refine mjq_bi (v := (7 : Int32)) D_27_9 rfl ?_
    refine mjr_iload_n (x := l2) D_27_11 rfl ?_
    refine mjq_vN (As := [.int (7 : Int32), .int l2]) (rest := []) D_27_12 mr_1_196 V_178 rfl rfl rfl hR (Nat.le_refl _) h1 h2 h (fun  hp2 h => ?_)
    exact mjq_nret D_27_15 rfl h1 h2 h
noncomputable def f_27 (R : mjR) (a0 : Nat) (a1 : Int32) (a2 : Int32) (hp : mjH) : mjU := b_27_0 R a0 a1 a2 hp
theorem c_27 {R : mjR} {d : Nat} (hR : mjC R d) {a0 : Nat} {a1 : Int32} {a2 : Int32} {hp : mjH} {q : Option Value × mjH} (h : f_27 R a0 a1 a2 hp = some q) : mjM (d + 1) 0 0 27 [.ref a0, .int a1, .int a2] hp (mjEq q) :=
  mjM_of Ja_27 (Nat.le_of_ble_eq_true rfl) (mjG.fg (lo' := [some (.ref a0), some (.int a1), some (.int a2)]) (And.intro rfl (And.intro rfl (And.intro rfl True.intro))) ((t_27_0 hR (Nat.le_refl 0) (Nat.le_refl 0)) a0 a1 a2 hp q h))
def J_28 : mjI := (⟨"OwnerHeap$Coder", "askNumbers", "(III)V"⟩, 1, prog_3_method_21_code, 4, none, 3, false)
theorem Ja_28 : mjMt 28 = some J_28 := by rfl
theorem D_28_0 : decode J_28.2.2.1 0 = .ok (.aload_n 0, 1) := dzq_42 (by decide +kernel)
theorem D_28_1 : decode J_28.2.2.1 1 = .ok (.iload_n 1, 1) := dzq_27 (by decide +kernel)
theorem D_28_2 : decode J_28.2.2.1 2 = .ok (.iload_n 3, 1) := dzq_29 (by decide +kernel)
theorem D_28_3 : decode J_28.2.2.1 3 = .ok (.invokevirtual 222, 3) := dzq_182 (by decide +kernel)
theorem D_28_6 : decode J_28.2.2.1 6 = .ok (.aload_n 0, 1) := dzq_42 (by decide +kernel)
theorem D_28_7 : decode J_28.2.2.1 7 = .ok (.iload_n 2, 1) := dzq_28 (by decide +kernel)
theorem D_28_8 : decode J_28.2.2.1 8 = .ok (.iload_n 3, 1) := dzq_29 (by decide +kernel)
theorem D_28_9 : decode J_28.2.2.1 9 = .ok (.invokevirtual 222, 3) := dzq_182 (by decide +kernel)
theorem D_28_12 : decode J_28.2.2.1 12 = .ok (.return_, 1) := dzq_177 (by decide +kernel)
def P_28_0 (X : mjX) (d C S kc ks : Nat) (k : Nat → Int32 → Int32 → Int32 → mjH → mjU) : Prop := ∀ (l0 : Nat) (l1 : Int32) (l2 : Int32) (l3 : Int32) (hp : mjH) (q : Option Value × mjH), k l0 l1 l2 l3 hp = some q → mjG X d C S J_28 (mjEq q) 0 [some (.ref l0), some (.int l1), some (.int l2), some (.int l3)] [] hp kc ks
noncomputable def b_28_0 (R : mjR) (l0 : Nat) (l1 : Int32) (l2 : Int32) (l3 : Int32) (hp : mjH) : mjU := rV hp l0 1 (bN (R 27 [.ref l0, .int l1, .int l3] hp) (fun  hp1 => rV hp1 l0 1 (bN (R 27 [.ref l0, .int l2, .int l3] hp1) (fun  hp2 => some (none, hp2)))))
theorem t_28_0 {X : mjX} {d C S kc ks : Nat} {R : mjR} (hR : mjC R d) (h1 : kc ≤ C) (h2 : ks ≤ S) : P_28_0 X (d + 1) C S kc ks (b_28_0 R) := by
  intro l0 l1 l2 l3 hp q h
  unfold b_28_0 at h
  refine mjr_aload_n (x := l0) D_28_0 rfl ?_
  refine mjr_iload_n (x := l1) D_28_1 rfl ?_
  refine mjr_iload_n (x := l3) D_28_2 rfl ?_
  refine mjq_vN (As := [.int l1, .int l3]) (rest := []) D_28_3 mr_1_222 V_27 rfl rfl rfl hR (Nat.le_refl _) h1 h2 h (fun  hp1 h => ?_)
  refine mjr_aload_n (x := l0) D_28_6 rfl ?_
  refine mjr_iload_n (x := l2) D_28_7 rfl ?_
  refine mjr_iload_n (x := l3) D_28_8 rfl ?_
  refine mjq_vN (As := [.int l2, .int l3]) (rest := []) D_28_9 mr_1_222 V_27 rfl rfl rfl hR (Nat.le_refl _) h1 h2 h (fun  hp2 h => ?_)
  exact mjq_nret D_28_12 rfl h1 h2 h
noncomputable def f_28 (R : mjR) (a0 : Nat) (a1 : Int32) (a2 : Int32) (a3 : Int32) (hp : mjH) : mjU := b_28_0 R a0 a1 a2 a3 hp
theorem c_28 {R : mjR} {d : Nat} (hR : mjC R d) {a0 : Nat} {a1 : Int32} {a2 : Int32} {a3 : Int32} {hp : mjH} {q : Option Value × mjH} (h : f_28 R a0 a1 a2 a3 hp = some q) : mjM (d + 1) 0 0 28 [.ref a0, .int a1, .int a2, .int a3] hp (mjEq q) :=
  mjM_of Ja_28 (Nat.le_of_ble_eq_true rfl) (mjG.fg (lo' := [some (.ref a0), some (.int a1), some (.int a2), some (.int a3)]) (And.intro rfl (And.intro rfl (And.intro rfl (And.intro rfl True.intro)))) ((t_28_0 hR (Nat.le_refl 0) (Nat.le_refl 0)) a0 a1 a2 a3 hp q h))
def J_29 : mjI := (⟨"OwnerHeap$Coder", "codeOperator", "(I)I"⟩, 1, prog_3_method_24_code, 2, (some .int), 1, false)
theorem Ja_29 : mjMt 29 = some J_29 := by rfl
theorem D_29_0 : decode J_29.2.2.1 0 = .ok (.aload_n 0, 1) := dzq_42 (by decide +kernel)
theorem D_29_1 : decode J_29.2.2.1 1 = .ok (.getfield 38, 3) := dzq_180 (by decide +kernel)
theorem D_29_4 : decode J_29.2.2.1 4 = .ok (.aload_n 0, 1) := dzq_42 (by decide +kernel)
theorem D_29_5 : decode J_29.2.2.1 5 = .ok (.getfield 9, 3) := dzq_180 (by decide +kernel)
theorem D_29_8 : decode J_29.2.2.1 8 = .ok (.iload_n 1, 1) := dzq_27 (by decide +kernel)
theorem D_29_9 : decode J_29.2.2.1 9 = .ok (.invokevirtual 200, 3) := dzq_182 (by decide +kernel)
theorem D_29_12 : decode J_29.2.2.1 12 = .ok (.invokestatic 249, 3) := dzq_184 (by decide +kernel)
theorem D_29_15 : decode J_29.2.2.1 15 = .ok (.iconst 0, 1) := dzq_3 (by decide +kernel)
theorem D_29_16 : decode J_29.2.2.1 16 = .ok (.aload_n 0, 1) := dzq_42 (by decide +kernel)
theorem D_29_17 : decode J_29.2.2.1 17 = .ok (.getfield 9, 3) := dzq_180 (by decide +kernel)
theorem D_29_20 : decode J_29.2.2.1 20 = .ok (.iload_n 1, 1) := dzq_27 (by decide +kernel)
theorem D_29_21 : decode J_29.2.2.1 21 = .ok (.invokevirtual 148, 3) := dzq_182 (by decide +kernel)
theorem D_29_24 : decode J_29.2.2.1 24 = .ok (.invokevirtual 95, 3) := dzq_182 (by decide +kernel)
theorem D_29_27 : decode J_29.2.2.1 27 = .ok (.pop, 1) := dzq_87 (by decide +kernel)
theorem D_29_28 : decode J_29.2.2.1 28 = .ok (.iconst (-1), 1) := dzq_2 (by decide +kernel)
theorem D_29_29 : decode J_29.2.2.1 29 = .ok (.ireturn, 1) := dzq_172 (by decide +kernel)
def P_29_0 (X : mjX) (d C S kc ks : Nat) (k : Nat → Int32 → mjH → mjU) : Prop := ∀ (l0 : Nat) (l1 : Int32) (hp : mjH) (q : Option Value × mjH), k l0 l1 hp = some q → mjG X d C S J_29 (mjEq q) 0 [some (.ref l0), some (.int l1)] [] hp kc ks
noncomputable def b_29_0 (R : mjR) (l0 : Nat) (l1 : Int32) (hp : mjH) : mjU := gR hp l0 1 5 (fun v1 => gR hp l0 1 0 (fun v2 => rV hp v2 9 (bI (R 180 [.ref v2, .int l1] hp) (fun v3 hp4 => bI (R 30 [.int v3] hp4) (fun v5 hp6 => gR hp6 l0 1 0 (fun v7 => rV hp6 v7 9 (bI (R 168 [.ref v7, .int l1] hp6) (fun v8 hp9 => rV hp9 v1 0 (bI (R 1 [.ref v1, .int v5, .int (0 : Int32), .int v8] hp9) (fun v10 hp11 => some (some (.int (-1 : Int32)), hp11)))))))))))
theorem t_29_0 {X : mjX} {d C S kc ks : Nat} {R : mjR} (hR : mjC R d) (h1 : kc ≤ C) (h2 : ks ≤ S) : P_29_0 X (d + 1) C S kc ks (b_29_0 R) := by
  intro l0 l1 hp q h
  unfold b_29_0 at h
  refine mjr_aload_n (x := l0) D_29_0 rfl ?_
  refine mjq_gR D_29_1 fr_1_38 h (fun v1 h => ?_)
  refine mjr_aload_n (x := l0) D_29_4 rfl ?_
  refine mjq_gR D_29_5 fr_1_9 h (fun v2 h => ?_)
  refine mjr_iload_n (x := l1) D_29_8 rfl ?_
  refine mjq_vI (As := [.int l1]) (rest := [.ref v1]) D_29_9 mr_1_200 V_180 rfl rfl rfl hR (Nat.le_refl _) h1 h2 h (fun v3 hp4 h => ?_)
  refine mjq_scI (As := [.int v3]) (rest := [.ref v1]) D_29_12 mr_1_249 V_30 rfl rfl rfl hR (Nat.le_refl _) h1 h2 h (fun v5 hp6 h => ?_)
  refine mjq_ic (v := (0 : Int32)) D_29_15 rfl ?_
  refine mjr_aload_n (x := l0) D_29_16 rfl ?_
  refine mjq_gR D_29_17 fr_1_9 h (fun v7 h => ?_)
  refine mjr_iload_n (x := l1) D_29_20 rfl ?_
  refine mjq_vI (As := [.int l1]) (rest := [.int (0 : Int32), .int v5, .ref v1]) D_29_21 mr_1_148 V_168 rfl rfl rfl hR (Nat.le_refl _) h1 h2 h (fun v8 hp9 h => ?_)
  refine mjq_vI (As := [.int v5, .int (0 : Int32), .int v8]) (rest := []) D_29_24 mr_1_95 V_1 rfl rfl rfl hR (Nat.le_refl _) h1 h2 h (fun v10 hp11 h => ?_)
  refine mjr_pop D_29_27 rfl ?_
  refine mjq_ic (v := (-1 : Int32)) D_29_28 rfl ?_
  exact mjq_ret D_29_29 rfl h1 h2 h
noncomputable def f_29 (R : mjR) (a0 : Nat) (a1 : Int32) (hp : mjH) : mjU := b_29_0 R a0 a1 hp
theorem c_29 {R : mjR} {d : Nat} (hR : mjC R d) {a0 : Nat} {a1 : Int32} {hp : mjH} {q : Option Value × mjH} (h : f_29 R a0 a1 hp = some q) : mjM (d + 1) 0 0 29 [.ref a0, .int a1] hp (mjEq q) :=
  mjM_of Ja_29 (Nat.le_of_ble_eq_true rfl) (mjG.fg (lo' := [some (.ref a0), some (.int a1)]) (And.intro rfl (And.intro rfl True.intro)) ((t_29_0 hR (Nat.le_refl 0) (Nat.le_refl 0)) a0 a1 hp q h))
def J_30 : mjI := (⟨"OwnerHeap$Coder", "operatorOf", "(I)I"⟩, 1, prog_3_method_25_code, 1, (some .int), 1, true)
theorem Ja_30 : mjMt 30 = some J_30 := by rfl
theorem D_30_0 : decode J_30.2.2.1 0 = .ok (.iload_n 0, 1) := dzq_26 (by decide +kernel)
theorem D_30_1 : decode J_30.2.2.1 1 = .ok (.lookupswitch 88 #[(37, 79), (42, 73), (43, 67), (45, 70), (47, 76), (60, 82), (200, 85)], 67) := by decide +kernel
theorem D_30_68 : decode J_30.2.2.1 68 = .ok (.bipush 17, 2) := dzq_16 (by decide +kernel)
theorem D_30_70 : decode J_30.2.2.1 70 = .ok (.ireturn, 1) := dzq_172 (by decide +kernel)
theorem D_30_71 : decode J_30.2.2.1 71 = .ok (.bipush 18, 2) := dzq_16 (by decide +kernel)
theorem D_30_73 : decode J_30.2.2.1 73 = .ok (.ireturn, 1) := dzq_172 (by decide +kernel)
theorem D_30_74 : decode J_30.2.2.1 74 = .ok (.bipush 19, 2) := dzq_16 (by decide +kernel)
theorem D_30_76 : decode J_30.2.2.1 76 = .ok (.ireturn, 1) := dzq_172 (by decide +kernel)
theorem D_30_77 : decode J_30.2.2.1 77 = .ok (.bipush 20, 2) := dzq_16 (by decide +kernel)
theorem D_30_79 : decode J_30.2.2.1 79 = .ok (.ireturn, 1) := dzq_172 (by decide +kernel)
theorem D_30_80 : decode J_30.2.2.1 80 = .ok (.bipush 21, 2) := dzq_16 (by decide +kernel)
theorem D_30_82 : decode J_30.2.2.1 82 = .ok (.ireturn, 1) := dzq_172 (by decide +kernel)
theorem D_30_83 : decode J_30.2.2.1 83 = .ok (.bipush 22, 2) := dzq_16 (by decide +kernel)
theorem D_30_85 : decode J_30.2.2.1 85 = .ok (.ireturn, 1) := dzq_172 (by decide +kernel)
theorem D_30_86 : decode J_30.2.2.1 86 = .ok (.bipush 23, 2) := dzq_16 (by decide +kernel)
theorem D_30_88 : decode J_30.2.2.1 88 = .ok (.ireturn, 1) := dzq_172 (by decide +kernel)
theorem D_30_89 : decode J_30.2.2.1 89 = .ok (.bipush 24, 2) := dzq_16 (by decide +kernel)
theorem D_30_91 : decode J_30.2.2.1 91 = .ok (.ireturn, 1) := dzq_172 (by decide +kernel)
def P_30_0 (X : mjX) (d C S kc ks : Nat) (k : Int32 → mjH → mjU) : Prop := ∀ (l0 : Int32) (hp : mjH) (q : Option Value × mjH), k l0 hp = some q → mjG X d C S J_30 (mjEq q) 0 [some (.int l0)] [] hp kc ks
noncomputable def b_30_0 (R : mjR) (l0 : Int32) (hp : mjH) : mjU := (if l0 = (37 : Int32) then some (some (.int (21 : Int32)), hp) else if l0 = (42 : Int32) then some (some (.int (19 : Int32)), hp) else if l0 = (43 : Int32) then some (some (.int (17 : Int32)), hp) else if l0 = (45 : Int32) then some (some (.int (18 : Int32)), hp) else if l0 = (47 : Int32) then some (some (.int (20 : Int32)), hp) else if l0 = (60 : Int32) then some (some (.int (22 : Int32)), hp) else if l0 = (200 : Int32) then some (some (.int (23 : Int32)), hp) else some (some (.int (24 : Int32)), hp))
theorem t_30_0 {X : mjX} {d C S kc ks : Nat} {R : mjR} (hR : mjC R d) (h1 : kc ≤ C) (h2 : ks ≤ S) : P_30_0 X (d + 1) C S kc ks (b_30_0 R) := by
  intro l0 hp q h
  unfold b_30_0 at h
  refine mjr_iload_n (x := l0) D_30_0 rfl ?_
  refine mjq_lsw (c := (37 : Int32)) (tgt := 80) D_30_1 rfl (by decide) h (fun h => ?_) (fun n1 h => ?_)
  · refine mjq_bi (v := (21 : Int32)) D_30_80 rfl ?_
    exact mjq_ret D_30_82 rfl h1 h2 h
  refine mjq_lsw (c := (42 : Int32)) (tgt := 74) D_30_1 rfl (by decide) h (fun h => ?_) (fun n2 h => ?_)
  · refine mjq_bi (v := (19 : Int32)) D_30_74 rfl ?_
    exact mjq_ret D_30_76 rfl h1 h2 h
  refine mjq_lsw (c := (43 : Int32)) (tgt := 68) D_30_1 rfl (by decide) h (fun h => ?_) (fun n3 h => ?_)
  · refine mjq_bi (v := (17 : Int32)) D_30_68 rfl ?_
    exact mjq_ret D_30_70 rfl h1 h2 h
  refine mjq_lsw (c := (45 : Int32)) (tgt := 71) D_30_1 rfl (by decide) h (fun h => ?_) (fun n4 h => ?_)
  · refine mjq_bi (v := (18 : Int32)) D_30_71 rfl ?_
    exact mjq_ret D_30_73 rfl h1 h2 h
  refine mjq_lsw (c := (47 : Int32)) (tgt := 77) D_30_1 rfl (by decide) h (fun h => ?_) (fun n5 h => ?_)
  · refine mjq_bi (v := (20 : Int32)) D_30_77 rfl ?_
    exact mjq_ret D_30_79 rfl h1 h2 h
  refine mjq_lsw (c := (60 : Int32)) (tgt := 83) D_30_1 rfl (by decide) h (fun h => ?_) (fun n6 h => ?_)
  · refine mjq_bi (v := (22 : Int32)) D_30_83 rfl ?_
    exact mjq_ret D_30_85 rfl h1 h2 h
  refine mjq_lsw (c := (200 : Int32)) (tgt := 86) D_30_1 rfl (by decide) h (fun h => ?_) (fun n7 h => ?_)
  · refine mjq_bi (v := (23 : Int32)) D_30_86 rfl ?_
    exact mjq_ret D_30_88 rfl h1 h2 h
  refine mjq_lswD (tgt := 89) [(37 : Int32), (42 : Int32), (43 : Int32), (45 : Int32), (47 : Int32), (60 : Int32), (200 : Int32)] D_30_1 rfl (by decide) (mj_all1 n1 (mj_all1 n2 (mj_all1 n3 (mj_all1 n4 (mj_all1 n5 (mj_all1 n6 (mj_all1 n7 mj_all0))))))) rfl ?_
  refine mjq_bi (v := (24 : Int32)) D_30_89 rfl ?_
  exact mjq_ret D_30_91 rfl h1 h2 h
noncomputable def f_30 (R : mjR) (a0 : Int32) (hp : mjH) : mjU := b_30_0 R a0 hp
theorem c_30 {R : mjR} {d : Nat} (hR : mjC R d) {a0 : Int32} {hp : mjH} {q : Option Value × mjH} (h : f_30 R a0 hp = some q) : mjM (d + 1) 0 0 30 [.int a0] hp (mjEq q) :=
  mjM_of Ja_30 (Nat.le_of_ble_eq_true rfl) (mjG.fg (lo' := [some (.int a0)]) (And.intro rfl True.intro) ((t_30_0 hR (Nat.le_refl 0) (Nat.le_refl 0)) a0 hp q h))
def J_31 : mjI := (⟨"OwnerHeap$Coder", "codeWhile", "()V"⟩, 1, prog_3_method_15_code, 3, none, 0, false)
theorem Ja_31 : mjMt 31 = some J_31 := by rfl
theorem D_31_0 : decode J_31.2.2.1 0 = .ok (.aload_n 0, 1) := dzq_42 (by decide +kernel)
theorem D_31_1 : decode J_31.2.2.1 1 = .ok (.getfield 38, 3) := dzq_180 (by decide +kernel)
theorem D_31_4 : decode J_31.2.2.1 4 = .ok (.bipush 11, 2) := dzq_16 (by decide +kernel)
theorem D_31_6 : decode J_31.2.2.1 6 = .ok (.iconst 0, 1) := dzq_3 (by decide +kernel)
theorem D_31_7 : decode J_31.2.2.1 7 = .ok (.iconst (-1), 1) := dzq_2 (by decide +kernel)
theorem D_31_8 : decode J_31.2.2.1 8 = .ok (.invokevirtual 95, 3) := dzq_182 (by decide +kernel)
theorem D_31_11 : decode J_31.2.2.1 11 = .ok (.istore_n 1, 1) := dzq_60 (by decide +kernel)
theorem D_31_12 : decode J_31.2.2.1 12 = .ok (.aload_n 0, 1) := dzq_42 (by decide +kernel)
theorem D_31_13 : decode J_31.2.2.1 13 = .ok (.invokevirtual 216, 3) := dzq_182 (by decide +kernel)
theorem D_31_16 : decode J_31.2.2.1 16 = .ok (.istore_n 2, 1) := dzq_61 (by decide +kernel)
theorem D_31_17 : decode J_31.2.2.1 17 = .ok (.aload_n 0, 1) := dzq_42 (by decide +kernel)
theorem D_31_18 : decode J_31.2.2.1 18 = .ok (.invokevirtual 92, 3) := dzq_182 (by decide +kernel)
theorem D_31_21 : decode J_31.2.2.1 21 = .ok (.aload_n 0, 1) := dzq_42 (by decide +kernel)
theorem D_31_22 : decode J_31.2.2.1 22 = .ok (.getfield 38, 3) := dzq_180 (by decide +kernel)
theorem D_31_25 : decode J_31.2.2.1 25 = .ok (.bipush 6, 2) := dzq_16 (by decide +kernel)
theorem D_31_27 : decode J_31.2.2.1 27 = .ok (.iload_n 1, 1) := dzq_27 (by decide +kernel)
theorem D_31_28 : decode J_31.2.2.1 28 = .ok (.iconst (-1), 1) := dzq_2 (by decide +kernel)
theorem D_31_29 : decode J_31.2.2.1 29 = .ok (.invokevirtual 95, 3) := dzq_182 (by decide +kernel)
theorem D_31_32 : decode J_31.2.2.1 32 = .ok (.pop, 1) := dzq_87 (by decide +kernel)
theorem D_31_33 : decode J_31.2.2.1 33 = .ok (.aload_n 0, 1) := dzq_42 (by decide +kernel)
theorem D_31_34 : decode J_31.2.2.1 34 = .ok (.getfield 38, 3) := dzq_180 (by decide +kernel)
theorem D_31_37 : decode J_31.2.2.1 37 = .ok (.iload_n 2, 1) := dzq_28 (by decide +kernel)
theorem D_31_38 : decode J_31.2.2.1 38 = .ok (.invokevirtual 219, 3) := dzq_182 (by decide +kernel)
theorem D_31_41 : decode J_31.2.2.1 41 = .ok (.return_, 1) := dzq_177 (by decide +kernel)
def P_31_0 (X : mjX) (d C S kc ks : Nat) (k : Nat → mjH → mjU) : Prop := ∀ (l0 : Nat) (hp : mjH) (q : Option Value × mjH), k l0 hp = some q → mjG X d C S J_31 (mjEq q) 0 [some (.ref l0), none, none] [] hp kc ks
noncomputable def b_31_0 (R : mjR) (l0 : Nat) (hp : mjH) : mjU := gR hp l0 1 5 (fun v1 => rV hp v1 0 (bI (R 1 [.ref v1, .int (11 : Int32), .int (0 : Int32), .int (-1 : Int32)] hp) (fun v2 hp3 => rV hp3 l0 1 (bI (R 10 [.ref l0] hp3) (fun v4 hp5 => rV hp5 l0 1 (bN (R 7 [.ref l0] hp5) (fun  hp6 => gR hp6 l0 1 5 (fun v7 => rV hp6 v7 0 (bI (R 1 [.ref v7, .int (6 : Int32), .int v2, .int (-1 : Int32)] hp6) (fun v8 hp9 => gR hp9 l0 1 5 (fun v10 => rV hp9 v10 0 (bN (R 2 [.ref v10, .int v4] hp9) (fun  hp11 => some (none, hp11))))))))))))))
theorem t_31_0 {X : mjX} {d C S kc ks : Nat} {R : mjR} (hR : mjC R d) (h1 : kc ≤ C) (h2 : ks ≤ S) : P_31_0 X (d + 1) C S kc ks (b_31_0 R) := by
  intro l0 hp q h
  unfold b_31_0 at h
  refine mjr_aload_n (x := l0) D_31_0 rfl ?_
  refine mjq_gR D_31_1 fr_1_38 h (fun v1 h => ?_)
  refine mjq_bi (v := (11 : Int32)) D_31_4 rfl ?_
  refine mjq_ic (v := (0 : Int32)) D_31_6 rfl ?_
  refine mjq_ic (v := (-1 : Int32)) D_31_7 rfl ?_
  refine mjq_vI (As := [.int (11 : Int32), .int (0 : Int32), .int (-1 : Int32)]) (rest := []) D_31_8 mr_1_95 V_1 rfl rfl rfl hR (Nat.le_refl _) h1 h2 h (fun v2 hp3 h => ?_)
  refine mjq_istore_n (lo' := [some (.ref l0), some (.int v2), none]) D_31_11 (Nat.le_of_ble_eq_true rfl) rfl ?_
  refine mjr_aload_n (x := l0) D_31_12 rfl ?_
  refine mjq_vI (As := []) (rest := []) D_31_13 mr_1_216 V_10 rfl rfl rfl hR (Nat.le_refl _) h1 h2 h (fun v4 hp5 h => ?_)
  refine mjq_istore_n (lo' := [some (.ref l0), some (.int v2), some (.int v4)]) D_31_16 (Nat.le_of_ble_eq_true rfl) rfl ?_
  refine mjr_aload_n (x := l0) D_31_17 rfl ?_
  refine mjq_vN (As := []) (rest := []) D_31_18 mr_1_92 V_7 rfl rfl rfl hR (Nat.le_refl _) h1 h2 h (fun  hp6 h => ?_)
  refine mjr_aload_n (x := l0) D_31_21 rfl ?_
  refine mjq_gR D_31_22 fr_1_38 h (fun v7 h => ?_)
  refine mjq_bi (v := (6 : Int32)) D_31_25 rfl ?_
  refine mjr_iload_n (x := v2) D_31_27 rfl ?_
  refine mjq_ic (v := (-1 : Int32)) D_31_28 rfl ?_
  refine mjq_vI (As := [.int (6 : Int32), .int v2, .int (-1 : Int32)]) (rest := []) D_31_29 mr_1_95 V_1 rfl rfl rfl hR (Nat.le_refl _) h1 h2 h (fun v8 hp9 h => ?_)
  refine mjr_pop D_31_32 rfl ?_
  refine mjr_aload_n (x := l0) D_31_33 rfl ?_
  refine mjq_gR D_31_34 fr_1_38 h (fun v10 h => ?_)
  refine mjr_iload_n (x := v4) D_31_37 rfl ?_
  refine mjq_vN (As := [.int v4]) (rest := []) D_31_38 mr_1_219 V_2 rfl rfl rfl hR (Nat.le_refl _) h1 h2 h (fun  hp11 h => ?_)
  exact mjq_nret D_31_41 rfl h1 h2 h
noncomputable def f_31 (R : mjR) (a0 : Nat) (hp : mjH) : mjU := b_31_0 R a0 hp
theorem c_31 {R : mjR} {d : Nat} (hR : mjC R d) {a0 : Nat} {hp : mjH} {q : Option Value × mjH} (h : f_31 R a0 hp = some q) : mjM (d + 1) 0 0 31 [.ref a0] hp (mjEq q) :=
  mjM_of Ja_31 (Nat.le_of_ble_eq_true rfl) (mjG.fg (lo' := [some (.ref a0), none, none]) (And.intro rfl True.intro) ((t_31_0 hR (Nat.le_refl 0) (Nat.le_refl 0)) a0 hp q h))
def J_32 : mjI := (⟨"OwnerHeap$Coder", "codeFitting", "(I)V"⟩, 1, prog_3_method_9_code, 3, none, 1, false)
theorem Ja_32 : mjMt 32 = some J_32 := by rfl
theorem D_32_0 : decode J_32.2.2.1 0 = .ok (.aload_n 0, 1) := dzq_42 (by decide +kernel)
theorem D_32_1 : decode J_32.2.2.1 1 = .ok (.getfield 9, 3) := dzq_180 (by decide +kernel)
theorem D_32_4 : decode J_32.2.2.1 4 = .ok (.invokevirtual 111, 3) := dzq_182 (by decide +kernel)
theorem D_32_7 : decode J_32.2.2.1 7 = .ok (.istore_n 2, 1) := dzq_61 (by decide +kernel)
theorem D_32_8 : decode J_32.2.2.1 8 = .ok (.aload_n 0, 1) := dzq_42 (by decide +kernel)
theorem D_32_9 : decode J_32.2.2.1 9 = .ok (.getfield 9, 3) := dzq_180 (by decide +kernel)
theorem D_32_12 : decode J_32.2.2.1 12 = .ok (.invokevirtual 137, 3) := dzq_182 (by decide +kernel)
theorem D_32_15 : decode J_32.2.2.1 15 = .ok (.aload_n 0, 1) := dzq_42 (by decide +kernel)
theorem D_32_16 : decode J_32.2.2.1 16 = .ok (.getfield 23, 3) := dzq_180 (by decide +kernel)
theorem D_32_19 : decode J_32.2.2.1 19 = .ok (.aload_n 0, 1) := dzq_42 (by decide +kernel)
theorem D_32_20 : decode J_32.2.2.1 20 = .ok (.invokevirtual 189, 3) := dzq_182 (by decide +kernel)
theorem D_32_23 : decode J_32.2.2.1 23 = .ok (.iload_n 1, 1) := dzq_27 (by decide +kernel)
theorem D_32_24 : decode J_32.2.2.1 24 = .ok (.invokevirtual 192, 3) := dzq_182 (by decide +kernel)
theorem D_32_27 : decode J_32.2.2.1 27 = .ok (.ifCond .ne 13, 3) := dzq_154 (by decide +kernel)
theorem D_32_30 : decode J_32.2.2.1 30 = .ok (.aload_n 0, 1) := dzq_42 (by decide +kernel)
theorem D_32_31 : decode J_32.2.2.1 31 = .ok (.getfield 9, 3) := dzq_180 (by decide +kernel)
theorem D_32_34 : decode J_32.2.2.1 34 = .ok (.bipush 7, 2) := dzq_16 (by decide +kernel)
theorem D_32_36 : decode J_32.2.2.1 36 = .ok (.iload_n 2, 1) := dzq_28 (by decide +kernel)
theorem D_32_37 : decode J_32.2.2.1 37 = .ok (.invokevirtual 196, 3) := dzq_182 (by decide +kernel)
theorem D_32_40 : decode J_32.2.2.1 40 = .ok (.aload_n 0, 1) := dzq_42 (by decide +kernel)
theorem D_32_41 : decode J_32.2.2.1 41 = .ok (.getfield 9, 3) := dzq_180 (by decide +kernel)
theorem D_32_44 : decode J_32.2.2.1 44 = .ok (.invokevirtual 137, 3) := dzq_182 (by decide +kernel)
theorem D_32_47 : decode J_32.2.2.1 47 = .ok (.return_, 1) := dzq_177 (by decide +kernel)
def P_32_40 (X : mjX) (d C S kc ks : Nat) (k : Nat → mjH → mjU) : Prop := ∀ (l0 : Nat) (hp : mjH) (q : Option Value × mjH), k l0 hp = some q → mjG X d C S J_32 (mjEq q) 40 [some (.ref l0), none, none] [] hp kc ks
def P_32_0 (X : mjX) (d C S kc ks : Nat) (k : Nat → Int32 → mjH → mjU) : Prop := ∀ (l0 : Nat) (l1 : Int32) (hp : mjH) (q : Option Value × mjH), k l0 l1 hp = some q → mjG X d C S J_32 (mjEq q) 0 [some (.ref l0), some (.int l1), none] [] hp kc ks
noncomputable def b_32_40 (R : mjR) (l0 : Nat) (hp : mjH) : mjU := gR hp l0 1 0 (fun v1 => rV hp v1 9 (bN (R 166 [.ref v1] hp) (fun  hp2 => some (none, hp2))))
theorem t_32_40 {X : mjX} {d C S kc ks : Nat} {R : mjR} (hR : mjC R d) (h1 : kc ≤ C) (h2 : ks ≤ S) : P_32_40 X (d + 1) C S kc ks (b_32_40 R) := by
  intro l0 hp q h
  unfold b_32_40 at h
  refine mjr_aload_n (x := l0) D_32_40 rfl ?_
  refine mjq_gR D_32_41 fr_1_9 h (fun v1 h => ?_)
  refine mjq_vN (As := []) (rest := []) D_32_44 mr_1_137 V_166 rfl rfl rfl hR (Nat.le_refl _) h1 h2 h (fun  hp2 h => ?_)
  exact mjq_nret D_32_47 rfl h1 h2 h
noncomputable def b_32_0 (R : mjR) (l0 : Nat) (l1 : Int32) (hp : mjH) : mjU := gR hp l0 1 0 (fun v1 => rV hp v1 9 (bI (R 167 [.ref v1] hp) (fun v2 hp3 => gR hp3 l0 1 0 (fun v4 => rV hp3 v4 9 (bN (R 166 [.ref v4] hp3) (fun  hp5 => gR hp5 l0 1 3 (fun v6 => rV hp5 l0 1 (bI (R 11 [.ref l0] hp5) (fun v7 hp8 => rV hp8 v6 7 (bI (R 123 [.ref v6, .int v7, .int l1] hp8) (fun v9 hp10 => (if v9 = 0 then gR hp10 l0 1 0 (fun v11 => rV hp10 v11 9 (bN (R 178 [.ref v11, .int (7 : Int32), .int v2] hp10) (fun  hp12 => b_32_40 R l0 hp12))) else b_32_40 R l0 hp10))))))))))))
theorem t_32_0 {X : mjX} {d C S kc ks : Nat} {R : mjR} (hR : mjC R d) (h1 : kc ≤ C) (h2 : ks ≤ S) : P_32_0 X (d + 1) C S kc ks (b_32_0 R) := by
  intro l0 l1 hp q h
  unfold b_32_0 at h
  refine mjr_aload_n (x := l0) D_32_0 rfl ?_
  refine mjq_gR D_32_1 fr_1_9 h (fun v1 h => ?_)
  refine mjq_vI (As := []) (rest := []) D_32_4 mr_1_111 V_167 rfl rfl rfl hR (Nat.le_refl _) h1 h2 h (fun v2 hp3 h => ?_)
  refine mjq_istore_n (lo' := [some (.ref l0), some (.int l1), some (.int v2)]) D_32_7 (Nat.le_of_ble_eq_true rfl) rfl ?_
  refine mjr_aload_n (x := l0) D_32_8 rfl ?_
  refine mjq_gR D_32_9 fr_1_9 h (fun v4 h => ?_)
  refine mjq_vN (As := []) (rest := []) D_32_12 mr_1_137 V_166 rfl rfl rfl hR (Nat.le_refl _) h1 h2 h (fun  hp5 h => ?_)
  refine mjr_aload_n (x := l0) D_32_15 rfl ?_
  refine mjq_gR D_32_16 fr_1_23 h (fun v6 h => ?_)
  refine mjr_aload_n (x := l0) D_32_19 rfl ?_
  refine mjq_vI (As := []) (rest := [.ref v6]) D_32_20 mr_1_189 V_11 rfl rfl rfl hR (Nat.le_refl _) h1 h2 h (fun v7 hp8 h => ?_)
  refine mjr_iload_n (x := l1) D_32_23 rfl ?_
  refine mjq_vI (As := [.int v7, .int l1]) (rest := []) D_32_24 mr_1_192 V_123 rfl rfl rfl hR (Nat.le_refl _) h1 h2 h (fun v9 hp10 h => ?_)
  refine mjq_if_ne (tgt := 40) D_32_27 rfl h (fun h => ?_) (fun h => ?_)
  · exact mjG.fg (lo' := [some (.ref l0), none, none]) (And.intro rfl True.intro) ((t_32_40 hR h1 h2) _ _ _ h)
  · refine mjr_aload_n (x := l0) D_32_30 rfl ?_
    refine mjq_gR D_32_31 fr_1_9 h (fun v11 h => ?_)
    refine mjq_bi (v := (7 : Int32)) D_32_34 rfl ?_
    refine mjr_iload_n (x := v2) D_32_36 rfl ?_
    refine mjq_vN (As := [.int (7 : Int32), .int v2]) (rest := []) D_32_37 mr_1_196 V_178 rfl rfl rfl hR (Nat.le_refl _) h1 h2 h (fun  hp12 h => ?_)
    exact mjG.fg (lo' := [some (.ref l0), none, none]) (And.intro rfl True.intro) ((t_32_40 hR h1 h2) _ _ _ h)
noncomputable def f_32 (R : mjR) (a0 : Nat) (a1 : Int32) (hp : mjH) : mjU := b_32_0 R a0 a1 hp
theorem c_32 {R : mjR} {d : Nat} (hR : mjC R d) {a0 : Nat} {a1 : Int32} {hp : mjH} {q : Option Value × mjH} (h : f_32 R a0 a1 hp = some q) : mjM (d + 1) 0 0 32 [.ref a0, .int a1] hp (mjEq q) :=
  mjM_of Ja_32 (Nat.le_of_ble_eq_true rfl) (mjG.fg (lo' := [some (.ref a0), some (.int a1), none]) (And.intro rfl (And.intro rfl True.intro)) ((t_32_0 hR (Nat.le_refl 0) (Nat.le_refl 0)) a0 a1 hp q h))
def J_33 : mjI := (⟨"OwnerHeap$Coder", "newNameHere", "()J"⟩, 1, prog_3_method_8_code, 3, (some .long), 0, false)
theorem Ja_33 : mjMt 33 = some J_33 := by rfl
theorem D_33_0 : decode J_33.2.2.1 0 = .ok (.aload_n 0, 1) := dzq_42 (by decide +kernel)
theorem D_33_1 : decode J_33.2.2.1 1 = .ok (.getfield 9, 3) := dzq_180 (by decide +kernel)
theorem D_33_4 : decode J_33.2.2.1 4 = .ok (.aload_n 0, 1) := dzq_42 (by decide +kernel)
theorem D_33_5 : decode J_33.2.2.1 5 = .ok (.getfield 9, 3) := dzq_180 (by decide +kernel)
theorem D_33_8 : decode J_33.2.2.1 8 = .ok (.invokevirtual 111, 3) := dzq_182 (by decide +kernel)
theorem D_33_11 : decode J_33.2.2.1 11 = .ok (.invokevirtual 125, 3) := dzq_182 (by decide +kernel)
theorem D_33_14 : decode J_33.2.2.1 14 = .ok (.lstore_n 1, 1) := by decide +kernel
theorem D_33_15 : decode J_33.2.2.1 15 = .ok (.aload_n 0, 1) := dzq_42 (by decide +kernel)
theorem D_33_16 : decode J_33.2.2.1 16 = .ok (.lload_n 1, 1) := dzq_31 (by decide +kernel)
theorem D_33_17 : decode J_33.2.2.1 17 = .ok (.invokevirtual 182, 3) := dzq_182 (by decide +kernel)
theorem D_33_20 : decode J_33.2.2.1 20 = .ok (.iconst (-1), 1) := dzq_2 (by decide +kernel)
theorem D_33_21 : decode J_33.2.2.1 21 = .ok (.if_icmp .eq 11, 3) := dzq_159 (by decide +kernel)
theorem D_33_24 : decode J_33.2.2.1 24 = .ok (.aload_n 0, 1) := dzq_42 (by decide +kernel)
theorem D_33_25 : decode J_33.2.2.1 25 = .ok (.getfield 9, 3) := dzq_180 (by decide +kernel)
theorem D_33_28 : decode J_33.2.2.1 28 = .ok (.iconst 4, 1) := dzq_7 (by decide +kernel)
theorem D_33_29 : decode J_33.2.2.1 29 = .ok (.invokevirtual 186, 3) := dzq_182 (by decide +kernel)
theorem D_33_32 : decode J_33.2.2.1 32 = .ok (.aload_n 0, 1) := dzq_42 (by decide +kernel)
theorem D_33_33 : decode J_33.2.2.1 33 = .ok (.getfield 9, 3) := dzq_180 (by decide +kernel)
theorem D_33_36 : decode J_33.2.2.1 36 = .ok (.invokevirtual 137, 3) := dzq_182 (by decide +kernel)
theorem D_33_39 : decode J_33.2.2.1 39 = .ok (.lload_n 1, 1) := dzq_31 (by decide +kernel)
theorem D_33_40 : decode J_33.2.2.1 40 = .ok (.lreturn, 1) := by decide +kernel
def P_33_32 (X : mjX) (d C S kc ks : Nat) (k : Nat → Int64 → mjH → mjU) : Prop := ∀ (l0 : Nat) (l1 : Int64) (hp : mjH) (q : Option Value × mjH), k l0 l1 hp = some q → mjG X d C S J_33 (mjEq q) 32 [some (.ref l0), some (.long l1), none] [] hp kc ks
def P_33_0 (X : mjX) (d C S kc ks : Nat) (k : Nat → mjH → mjU) : Prop := ∀ (l0 : Nat) (hp : mjH) (q : Option Value × mjH), k l0 hp = some q → mjG X d C S J_33 (mjEq q) 0 [some (.ref l0), none, none] [] hp kc ks
noncomputable def b_33_32 (R : mjR) (l0 : Nat) (l1 : Int64) (hp : mjH) : mjU := gR hp l0 1 0 (fun v1 => rV hp v1 9 (bN (R 166 [.ref v1] hp) (fun  hp2 => some (some (.long l1), hp2))))
theorem t_33_32 {X : mjX} {d C S kc ks : Nat} {R : mjR} (hR : mjC R d) (h1 : kc ≤ C) (h2 : ks ≤ S) : P_33_32 X (d + 1) C S kc ks (b_33_32 R) := by
  intro l0 l1 hp q h
  unfold b_33_32 at h
  refine mjr_aload_n (x := l0) D_33_32 rfl ?_
  refine mjq_gR D_33_33 fr_1_9 h (fun v1 h => ?_)
  refine mjq_vN (As := []) (rest := []) D_33_36 mr_1_137 V_166 rfl rfl rfl hR (Nat.le_refl _) h1 h2 h (fun  hp2 h => ?_)
  refine mjr_lload_n (x := l1) D_33_39 rfl ?_
  exact mjq_lret D_33_40 rfl h1 h2 h
noncomputable def b_33_0 (R : mjR) (l0 : Nat) (hp : mjH) : mjU := gR hp l0 1 0 (fun v1 => gR hp l0 1 0 (fun v2 => rV hp v2 9 (bI (R 167 [.ref v2] hp) (fun v3 hp4 => rV hp4 v1 9 (bL (R 170 [.ref v1, .int v3] hp4) (fun v5 hp6 => rV hp6 l0 1 (bI (R 18 [.ref l0, .long v5] hp6) (fun v7 hp8 => (if v7 = (-1 : Int32) then b_33_32 R l0 v5 hp8 else gR hp8 l0 1 0 (fun v9 => rV hp8 v9 9 (bN (R 165 [.ref v9, .int (4 : Int32)] hp8) (fun  hp10 => b_33_32 R l0 v5 hp10))))))))))))
theorem t_33_0 {X : mjX} {d C S kc ks : Nat} {R : mjR} (hR : mjC R d) (h1 : kc ≤ C) (h2 : ks ≤ S) : P_33_0 X (d + 1) C S kc ks (b_33_0 R) := by
  intro l0 hp q h
  unfold b_33_0 at h
  refine mjr_aload_n (x := l0) D_33_0 rfl ?_
  refine mjq_gR D_33_1 fr_1_9 h (fun v1 h => ?_)
  refine mjr_aload_n (x := l0) D_33_4 rfl ?_
  refine mjq_gR D_33_5 fr_1_9 h (fun v2 h => ?_)
  refine mjq_vI (As := []) (rest := [.ref v1]) D_33_8 mr_1_111 V_167 rfl rfl rfl hR (Nat.le_refl _) h1 h2 h (fun v3 hp4 h => ?_)
  refine mjq_vL (As := [.int v3]) (rest := []) D_33_11 mr_1_125 V_170 rfl rfl rfl hR (Nat.le_refl _) h1 h2 h (fun v5 hp6 h => ?_)
  refine mjq_lstore_n (lo' := [some (.ref l0), some (.long v5), none]) D_33_14 (Nat.le_of_ble_eq_true rfl) rfl ?_
  refine mjr_aload_n (x := l0) D_33_15 rfl ?_
  refine mjr_lload_n (x := v5) D_33_16 rfl ?_
  refine mjq_vI (As := [.long v5]) (rest := []) D_33_17 mr_1_182 V_18 rfl rfl rfl hR (Nat.le_refl _) h1 h2 h (fun v7 hp8 h => ?_)
  refine mjq_ic (v := (-1 : Int32)) D_33_20 rfl ?_
  refine mjq_icmp_eq (tgt := 32) D_33_21 rfl h (fun h => ?_) (fun h => ?_)
  · exact (t_33_32 hR h1 h2) _ _ _ _ h
  · refine mjr_aload_n (x := l0) D_33_24 rfl ?_
    refine mjq_gR D_33_25 fr_1_9 h (fun v9 h => ?_)
    refine mjq_ic (v := (4 : Int32)) D_33_28 rfl ?_
    refine mjq_vN (As := [.int (4 : Int32)]) (rest := []) D_33_29 mr_1_186 V_165 rfl rfl rfl hR (Nat.le_refl _) h1 h2 h (fun  hp10 h => ?_)
    exact (t_33_32 hR h1 h2) _ _ _ _ h
noncomputable def f_33 (R : mjR) (a0 : Nat) (hp : mjH) : mjU := b_33_0 R a0 hp
theorem c_33 {R : mjR} {d : Nat} (hR : mjC R d) {a0 : Nat} {hp : mjH} {q : Option Value × mjH} (h : f_33 R a0 hp = some q) : mjM (d + 1) 0 0 33 [.ref a0] hp (mjEq q) :=
  mjM_of Ja_33 (Nat.le_of_ble_eq_true rfl) (mjG.fg (lo' := [some (.ref a0), none, none]) (And.intro rfl True.intro) ((t_33_0 hR (Nat.le_refl 0) (Nat.le_refl 0)) a0 hp q h))
def J_34 : mjI := (⟨"OwnerHeap$Coder", "codeLeft", "()I"⟩, 1, prog_3_method_10_code, 2, (some .int), 0, false)
theorem Ja_34 : mjMt 34 = some J_34 := by rfl
theorem D_34_0 : decode J_34.2.2.1 0 = .ok (.aload_n 0, 1) := dzq_42 (by decide +kernel)
theorem D_34_1 : decode J_34.2.2.1 1 = .ok (.getfield 9, 3) := dzq_180 (by decide +kernel)
theorem D_34_4 : decode J_34.2.2.1 4 = .ok (.iconst 3, 1) := dzq_6 (by decide +kernel)
theorem D_34_5 : decode J_34.2.2.1 5 = .ok (.invokevirtual 115, 3) := dzq_182 (by decide +kernel)
theorem D_34_8 : decode J_34.2.2.1 8 = .ok (.ifCond .eq 54, 3) := dzq_153 (by decide +kernel)
theorem D_34_11 : decode J_34.2.2.1 11 = .ok (.aload_n 0, 1) := dzq_42 (by decide +kernel)
theorem D_34_12 : decode J_34.2.2.1 12 = .ok (.getfield 9, 3) := dzq_180 (by decide +kernel)
theorem D_34_15 : decode J_34.2.2.1 15 = .ok (.aload_n 0, 1) := dzq_42 (by decide +kernel)
theorem D_34_16 : decode J_34.2.2.1 16 = .ok (.getfield 9, 3) := dzq_180 (by decide +kernel)
theorem D_34_19 : decode J_34.2.2.1 19 = .ok (.invokevirtual 111, 3) := dzq_182 (by decide +kernel)
theorem D_34_22 : decode J_34.2.2.1 22 = .ok (.iconst 1, 1) := dzq_4 (by decide +kernel)
theorem D_34_23 : decode J_34.2.2.1 23 = .ok (.iadd, 1) := dzq_96 (by decide +kernel)
theorem D_34_24 : decode J_34.2.2.1 24 = .ok (.invokevirtual 200, 3) := dzq_182 (by decide +kernel)
theorem D_34_27 : decode J_34.2.2.1 27 = .ok (.bipush 61, 2) := dzq_16 (by decide +kernel)
theorem D_34_29 : decode J_34.2.2.1 29 = .ok (.if_icmp .ne 33, 3) := dzq_160 (by decide +kernel)
theorem D_34_32 : decode J_34.2.2.1 32 = .ok (.aload_n 0, 1) := dzq_42 (by decide +kernel)
theorem D_34_33 : decode J_34.2.2.1 33 = .ok (.invokevirtual 203, 3) := dzq_182 (by decide +kernel)
theorem D_34_36 : decode J_34.2.2.1 36 = .ok (.istore_n 1, 1) := dzq_60 (by decide +kernel)
theorem D_34_37 : decode J_34.2.2.1 37 = .ok (.aload_n 0, 1) := dzq_42 (by decide +kernel)
theorem D_34_38 : decode J_34.2.2.1 38 = .ok (.iconst 2, 1) := dzq_5 (by decide +kernel)
theorem D_34_39 : decode J_34.2.2.1 39 = .ok (.aload_n 0, 1) := dzq_42 (by decide +kernel)
theorem D_34_40 : decode J_34.2.2.1 40 = .ok (.iload_n 1, 1) := dzq_27 (by decide +kernel)
theorem D_34_41 : decode J_34.2.2.1 41 = .ok (.invokevirtual 206, 3) := dzq_182 (by decide +kernel)
theorem D_34_44 : decode J_34.2.2.1 44 = .ok (.iconst (-1), 1) := dzq_2 (by decide +kernel)
theorem D_34_45 : decode J_34.2.2.1 45 = .ok (.invokevirtual 209, 3) := dzq_182 (by decide +kernel)
theorem D_34_48 : decode J_34.2.2.1 48 = .ok (.aload_n 0, 1) := dzq_42 (by decide +kernel)
theorem D_34_49 : decode J_34.2.2.1 49 = .ok (.aload_n 0, 1) := dzq_42 (by decide +kernel)
theorem D_34_50 : decode J_34.2.2.1 50 = .ok (.iload_n 1, 1) := dzq_27 (by decide +kernel)
theorem D_34_51 : decode J_34.2.2.1 51 = .ok (.invokevirtual 213, 3) := dzq_182 (by decide +kernel)
theorem D_34_54 : decode J_34.2.2.1 54 = .ok (.putfield 170, 3) := dzq_181 (by decide +kernel)
theorem D_34_57 : decode J_34.2.2.1 57 = .ok (.aload_n 0, 1) := dzq_42 (by decide +kernel)
theorem D_34_58 : decode J_34.2.2.1 58 = .ok (.getfield 173, 3) := dzq_180 (by decide +kernel)
theorem D_34_61 : decode J_34.2.2.1 61 = .ok (.ireturn, 1) := dzq_172 (by decide +kernel)
theorem D_34_62 : decode J_34.2.2.1 62 = .ok (.aload_n 0, 1) := dzq_42 (by decide +kernel)
theorem D_34_63 : decode J_34.2.2.1 63 = .ok (.aload_n 0, 1) := dzq_42 (by decide +kernel)
theorem D_34_64 : decode J_34.2.2.1 64 = .ok (.invokevirtual 189, 3) := dzq_182 (by decide +kernel)
theorem D_34_67 : decode J_34.2.2.1 67 = .ok (.putfield 170, 3) := dzq_181 (by decide +kernel)
theorem D_34_70 : decode J_34.2.2.1 70 = .ok (.aload_n 0, 1) := dzq_42 (by decide +kernel)
theorem D_34_71 : decode J_34.2.2.1 71 = .ok (.getfield 9, 3) := dzq_180 (by decide +kernel)
theorem D_34_74 : decode J_34.2.2.1 74 = .ok (.bipush 61, 2) := dzq_16 (by decide +kernel)
theorem D_34_76 : decode J_34.2.2.1 76 = .ok (.invokevirtual 115, 3) := dzq_182 (by decide +kernel)
theorem D_34_79 : decode J_34.2.2.1 79 = .ok (.ifCond .ne 17, 3) := dzq_154 (by decide +kernel)
theorem D_34_82 : decode J_34.2.2.1 82 = .ok (.aload_n 0, 1) := dzq_42 (by decide +kernel)
theorem D_34_83 : decode J_34.2.2.1 83 = .ok (.getfield 9, 3) := dzq_180 (by decide +kernel)
theorem D_34_86 : decode J_34.2.2.1 86 = .ok (.invokevirtual 137, 3) := dzq_182 (by decide +kernel)
theorem D_34_89 : decode J_34.2.2.1 89 = .ok (.aload_n 0, 1) := dzq_42 (by decide +kernel)
theorem D_34_90 : decode J_34.2.2.1 90 = .ok (.iconst 5, 1) := dzq_8 (by decide +kernel)
theorem D_34_91 : decode J_34.2.2.1 91 = .ok (.iconst 0, 1) := dzq_3 (by decide +kernel)
theorem D_34_92 : decode J_34.2.2.1 92 = .ok (.iconst (-1), 1) := dzq_2 (by decide +kernel)
theorem D_34_93 : decode J_34.2.2.1 93 = .ok (.invokevirtual 209, 3) := dzq_182 (by decide +kernel)
theorem D_34_96 : decode J_34.2.2.1 96 = .ok (.aload_n 0, 1) := dzq_42 (by decide +kernel)
theorem D_34_97 : decode J_34.2.2.1 97 = .ok (.getfield 173, 3) := dzq_180 (by decide +kernel)
theorem D_34_100 : decode J_34.2.2.1 100 = .ok (.ireturn, 1) := dzq_172 (by decide +kernel)
def P_34_96 (X : mjX) (d C S kc ks : Nat) (k : Nat → mjH → mjU) : Prop := ∀ (l0 : Nat) (hp : mjH) (q : Option Value × mjH), k l0 hp = some q → mjG X d C S J_34 (mjEq q) 96 [some (.ref l0), none] [] hp kc ks
def P_34_62 (X : mjX) (d C S kc ks : Nat) (k : Nat → mjH → mjU) : Prop := ∀ (l0 : Nat) (hp : mjH) (q : Option Value × mjH), k l0 hp = some q → mjG X d C S J_34 (mjEq q) 62 [some (.ref l0), none] [] hp kc ks
def P_34_0 (X : mjX) (d C S kc ks : Nat) (k : Nat → mjH → mjU) : Prop := ∀ (l0 : Nat) (hp : mjH) (q : Option Value × mjH), k l0 hp = some q → mjG X d C S J_34 (mjEq q) 0 [some (.ref l0), none] [] hp kc ks
noncomputable def b_34_96 (R : mjR) (l0 : Nat) (hp : mjH) : mjU := gI hp l0 1 13 (fun v1 => some (some (.int v1), hp))
theorem t_34_96 {X : mjX} {d C S kc ks : Nat} {R : mjR} (hR : mjC R d) (h1 : kc ≤ C) (h2 : ks ≤ S) : P_34_96 X (d + 1) C S kc ks (b_34_96 R) := by
  intro l0 hp q h
  unfold b_34_96 at h
  refine mjr_aload_n (x := l0) D_34_96 rfl ?_
  refine mjq_gI D_34_97 fr_1_173 h (fun v1 h => ?_)
  exact mjq_ret D_34_100 rfl h1 h2 h
noncomputable def b_34_62 (R : mjR) (l0 : Nat) (hp : mjH) : mjU := rV hp l0 1 (bI (R 11 [.ref l0] hp) (fun v1 hp2 => pI hp2 l0 1 16 v1 (fun hp3 => gR hp3 l0 1 0 (fun v4 => rV hp3 v4 9 (bI (R 164 [.ref v4, .int (61 : Int32)] hp3) (fun v5 hp6 => (if v5 = 0 then gR hp6 l0 1 0 (fun v7 => rV hp6 v7 9 (bN (R 166 [.ref v7] hp6) (fun  hp8 => rV hp8 l0 1 (bN (R 25 [.ref l0, .int (5 : Int32), .int (0 : Int32), .int (-1 : Int32)] hp8) (fun  hp9 => b_34_96 R l0 hp9))))) else b_34_96 R l0 hp6)))))))
theorem t_34_62 {X : mjX} {d C S kc ks : Nat} {R : mjR} (hR : mjC R d) (h1 : kc ≤ C) (h2 : ks ≤ S) : P_34_62 X (d + 1) C S kc ks (b_34_62 R) := by
  intro l0 hp q h
  unfold b_34_62 at h
  refine mjr_aload_n (x := l0) D_34_62 rfl ?_
  refine mjr_aload_n (x := l0) D_34_63 rfl ?_
  refine mjq_vI (As := []) (rest := [.ref l0]) D_34_64 mr_1_189 V_11 rfl rfl rfl hR (Nat.le_refl _) h1 h2 h (fun v1 hp2 h => ?_)
  refine mjq_pI D_34_67 fr_1_170 rfl rfl h (fun hp3 h => ?_)
  refine mjr_aload_n (x := l0) D_34_70 rfl ?_
  refine mjq_gR D_34_71 fr_1_9 h (fun v4 h => ?_)
  refine mjq_bi (v := (61 : Int32)) D_34_74 rfl ?_
  refine mjq_vI (As := [.int (61 : Int32)]) (rest := []) D_34_76 mr_1_115 V_164 rfl rfl rfl hR (Nat.le_refl _) h1 h2 h (fun v5 hp6 h => ?_)
  refine mjq_if_ne (tgt := 96) D_34_79 rfl h (fun h => ?_) (fun h => ?_)
  · exact (t_34_96 hR h1 h2) _ _ _ h
  · refine mjr_aload_n (x := l0) D_34_82 rfl ?_
    refine mjq_gR D_34_83 fr_1_9 h (fun v7 h => ?_)
    refine mjq_vN (As := []) (rest := []) D_34_86 mr_1_137 V_166 rfl rfl rfl hR (Nat.le_refl _) h1 h2 h (fun  hp8 h => ?_)
    refine mjr_aload_n (x := l0) D_34_89 rfl ?_
    refine mjq_ic (v := (5 : Int32)) D_34_90 rfl ?_
    refine mjq_ic (v := (0 : Int32)) D_34_91 rfl ?_
    refine mjq_ic (v := (-1 : Int32)) D_34_92 rfl ?_
    refine mjq_vN (As := [.int (5 : Int32), .int (0 : Int32), .int (-1 : Int32)]) (rest := []) D_34_93 mr_1_209 V_25 rfl rfl rfl hR (Nat.le_refl _) h1 h2 h (fun  hp9 h => ?_)
    exact (t_34_96 hR h1 h2) _ _ _ h
noncomputable def b_34_0 (R : mjR) (l0 : Nat) (hp : mjH) : mjU := gR hp l0 1 0 (fun v1 => rV hp v1 9 (bI (R 164 [.ref v1, .int (3 : Int32)] hp) (fun v2 hp3 => (if v2 = 0 then b_34_62 R l0 hp3 else gR hp3 l0 1 0 (fun v4 => gR hp3 l0 1 0 (fun v5 => rV hp3 v5 9 (bI (R 167 [.ref v5] hp3) (fun v6 hp7 => rV hp7 v4 9 (bI (R 180 [.ref v4, .int (v6 + (1 : Int32))] hp7) (fun v8 hp9 => (if v8 = (61 : Int32) then rV hp9 l0 1 (bI (R 17 [.ref l0] hp9) (fun v10 hp11 => rV hp11 l0 1 (bI (R 19 [.ref l0, .int v10] hp11) (fun v12 hp13 => rV hp13 l0 1 (bN (R 25 [.ref l0, .int (2 : Int32), .int v12, .int (-1 : Int32)] hp13) (fun  hp14 => rV hp14 l0 1 (bI (R 20 [.ref l0, .int v10] hp14) (fun v15 hp16 => pI hp16 l0 1 16 v15 (fun hp17 => gI hp17 l0 1 13 (fun v18 => some (some (.int v18), hp17))))))))))) else b_34_62 R l0 hp9)))))))))))
theorem t_34_0 {X : mjX} {d C S kc ks : Nat} {R : mjR} (hR : mjC R d) (h1 : kc ≤ C) (h2 : ks ≤ S) : P_34_0 X (d + 1) C S kc ks (b_34_0 R) := by
  intro l0 hp q h
  unfold b_34_0 at h
  refine mjr_aload_n (x := l0) D_34_0 rfl ?_
  refine mjq_gR D_34_1 fr_1_9 h (fun v1 h => ?_)
  refine mjq_ic (v := (3 : Int32)) D_34_4 rfl ?_
  refine mjq_vI (As := [.int (3 : Int32)]) (rest := []) D_34_5 mr_1_115 V_164 rfl rfl rfl hR (Nat.le_refl _) h1 h2 h (fun v2 hp3 h => ?_)
  refine mjq_if_eq (tgt := 62) D_34_8 rfl h (fun h => ?_) (fun h => ?_)
  · exact (t_34_62 hR h1 h2) _ _ _ h
  · refine mjr_aload_n (x := l0) D_34_11 rfl ?_
    refine mjq_gR D_34_12 fr_1_9 h (fun v4 h => ?_)
    refine mjr_aload_n (x := l0) D_34_15 rfl ?_
    refine mjq_gR D_34_16 fr_1_9 h (fun v5 h => ?_)
    refine mjq_vI (As := []) (rest := [.ref v4]) D_34_19 mr_1_111 V_167 rfl rfl rfl hR (Nat.le_refl _) h1 h2 h (fun v6 hp7 h => ?_)
    refine mjq_ic (v := (1 : Int32)) D_34_22 rfl ?_
    refine mjr_iadd D_34_23 ?_
    refine mjq_vI (As := [.int (v6 + (1 : Int32))]) (rest := []) D_34_24 mr_1_200 V_180 rfl rfl rfl hR (Nat.le_refl _) h1 h2 h (fun v8 hp9 h => ?_)
    refine mjq_bi (v := (61 : Int32)) D_34_27 rfl ?_
    refine mjq_icmp_ne (tgt := 62) D_34_29 rfl h (fun h => ?_) (fun h => ?_)
    · exact (t_34_62 hR h1 h2) _ _ _ h
    · refine mjr_aload_n (x := l0) D_34_32 rfl ?_
      refine mjq_vI (As := []) (rest := []) D_34_33 mr_1_203 V_17 rfl rfl rfl hR (Nat.le_refl _) h1 h2 h (fun v10 hp11 h => ?_)
      refine mjq_istore_n (lo' := [some (.ref l0), some (.int v10)]) D_34_36 (Nat.le_of_ble_eq_true rfl) rfl ?_
      refine mjr_aload_n (x := l0) D_34_37 rfl ?_
      refine mjq_ic (v := (2 : Int32)) D_34_38 rfl ?_
      refine mjr_aload_n (x := l0) D_34_39 rfl ?_
      refine mjr_iload_n (x := v10) D_34_40 rfl ?_
      refine mjq_vI (As := [.int v10]) (rest := [.int (2 : Int32), .ref l0]) D_34_41 mr_1_206 V_19 rfl rfl rfl hR (Nat.le_refl _) h1 h2 h (fun v12 hp13 h => ?_)
      refine mjq_ic (v := (-1 : Int32)) D_34_44 rfl ?_
      refine mjq_vN (As := [.int (2 : Int32), .int v12, .int (-1 : Int32)]) (rest := []) D_34_45 mr_1_209 V_25 rfl rfl rfl hR (Nat.le_refl _) h1 h2 h (fun  hp14 h => ?_)
      refine mjr_aload_n (x := l0) D_34_48 rfl ?_
      refine mjr_aload_n (x := l0) D_34_49 rfl ?_
      refine mjr_iload_n (x := v10) D_34_50 rfl ?_
      refine mjq_vI (As := [.int v10]) (rest := [.ref l0]) D_34_51 mr_1_213 V_20 rfl rfl rfl hR (Nat.le_refl _) h1 h2 h (fun v15 hp16 h => ?_)
      refine mjq_pI D_34_54 fr_1_170 rfl rfl h (fun hp17 h => ?_)
      refine mjr_aload_n (x := l0) D_34_57 rfl ?_
      refine mjq_gI D_34_58 fr_1_173 h (fun v18 h => ?_)
      exact mjq_ret D_34_61 rfl h1 h2 h
noncomputable def f_34 (R : mjR) (a0 : Nat) (hp : mjH) : mjU := b_34_0 R a0 hp
theorem c_34 {R : mjR} {d : Nat} (hR : mjC R d) {a0 : Nat} {hp : mjH} {q : Option Value × mjH} (h : f_34 R a0 hp = some q) : mjM (d + 1) 0 0 34 [.ref a0] hp (mjEq q) :=
  mjM_of Ja_34 (Nat.le_of_ble_eq_true rfl) (mjG.fg (lo' := [some (.ref a0), none]) (And.intro rfl True.intro) ((t_34_0 hR (Nat.le_refl 0) (Nat.le_refl 0)) a0 hp q h))
def J_36 : mjI := (⟨"OwnerHeap$Frames", "close", "()V"⟩, 2, prog_4_method_2_code, 1, none, 0, false)
theorem Ja_36 : mjMt 36 = some J_36 := by rfl
theorem D_36_0 : decode J_36.2.2.1 0 = .ok (.aload_n 0, 1) := dzq_42 (by decide +kernel)
theorem D_36_1 : decode J_36.2.2.1 1 = .ok (.iconst 0, 1) := dzq_3 (by decide +kernel)
theorem D_36_2 : decode J_36.2.2.1 2 = .ok (.putfield 29, 3) := dzq_181 (by decide +kernel)
theorem D_36_5 : decode J_36.2.2.1 5 = .ok (.return_, 1) := dzq_177 (by decide +kernel)
def P_36_0 (X : mjX) (d C S kc ks : Nat) (k : Nat → mjH → mjU) : Prop := ∀ (l0 : Nat) (hp : mjH) (q : Option Value × mjH), k l0 hp = some q → mjG X d C S J_36 (mjEq q) 0 [some (.ref l0)] [] hp kc ks
noncomputable def b_36_0 (R : mjR) (l0 : Nat) (hp : mjH) : mjU := pI hp l0 2 0 (0 : Int32) (fun hp1 => some (none, hp1))
theorem t_36_0 {X : mjX} {d C S kc ks : Nat} {R : mjR} (hR : mjC R d) (h1 : kc ≤ C) (h2 : ks ≤ S) : P_36_0 X (d + 1) C S kc ks (b_36_0 R) := by
  intro l0 hp q h
  unfold b_36_0 at h
  refine mjr_aload_n (x := l0) D_36_0 rfl ?_
  refine mjq_ic (v := (0 : Int32)) D_36_1 rfl ?_
  refine mjq_pI D_36_2 fr_2_29 rfl rfl h (fun hp1 h => ?_)
  exact mjq_nret D_36_5 rfl h1 h2 h
noncomputable def f_36 (R : mjR) (a0 : Nat) (hp : mjH) : mjU := b_36_0 R a0 hp
theorem c_36 {R : mjR} {d : Nat} (hR : mjC R d) {a0 : Nat} {hp : mjH} {q : Option Value × mjH} (h : f_36 R a0 hp = some q) : mjM (d + 1) 0 0 36 [.ref a0] hp (mjEq q) :=
  mjM_of Ja_36 (Nat.le_of_ble_eq_true rfl) (mjG.fg (lo' := [some (.ref a0)]) (And.intro rfl True.intro) ((t_36_0 hR (Nat.le_refl 0) (Nat.le_refl 0)) a0 hp q h))
def J_37 : mjI := (⟨"OwnerHeap$Frames", "add", "(III)V"⟩, 2, prog_4_method_3_code, 5, none, 3, false)
theorem Ja_37 : mjMt 37 = some J_37 := by rfl
theorem D_37_0 : decode J_37.2.2.1 0 = .ok (.aload_n 0, 1) := dzq_42 (by decide +kernel)
theorem D_37_1 : decode J_37.2.2.1 1 = .ok (.getfield 29, 3) := dzq_180 (by decide +kernel)
theorem D_37_4 : decode J_37.2.2.1 4 = .ok (.bipush 40, 2) := dzq_16 (by decide +kernel)
theorem D_37_6 : decode J_37.2.2.1 6 = .ok (.if_icmp .lt 4, 3) := dzq_161 (by decide +kernel)
theorem D_37_9 : decode J_37.2.2.1 9 = .ok (.return_, 1) := dzq_177 (by decide +kernel)
theorem D_37_10 : decode J_37.2.2.1 10 = .ok (.aload_n 0, 1) := dzq_42 (by decide +kernel)
theorem D_37_11 : decode J_37.2.2.1 11 = .ok (.getfield 11, 3) := dzq_180 (by decide +kernel)
theorem D_37_14 : decode J_37.2.2.1 14 = .ok (.aload_n 0, 1) := dzq_42 (by decide +kernel)
theorem D_37_15 : decode J_37.2.2.1 15 = .ok (.getfield 29, 3) := dzq_180 (by decide +kernel)
theorem D_37_18 : decode J_37.2.2.1 18 = .ok (.iload_n 1, 1) := dzq_27 (by decide +kernel)
theorem D_37_19 : decode J_37.2.2.1 19 = .ok (.iastore, 1) := dzq_79 (by decide +kernel)
theorem D_37_20 : decode J_37.2.2.1 20 = .ok (.aload_n 0, 1) := dzq_42 (by decide +kernel)
theorem D_37_21 : decode J_37.2.2.1 21 = .ok (.getfield 15, 3) := dzq_180 (by decide +kernel)
theorem D_37_24 : decode J_37.2.2.1 24 = .ok (.aload_n 0, 1) := dzq_42 (by decide +kernel)
theorem D_37_25 : decode J_37.2.2.1 25 = .ok (.getfield 29, 3) := dzq_180 (by decide +kernel)
theorem D_37_28 : decode J_37.2.2.1 28 = .ok (.iload_n 2, 1) := dzq_28 (by decide +kernel)
theorem D_37_29 : decode J_37.2.2.1 29 = .ok (.iastore, 1) := dzq_79 (by decide +kernel)
theorem D_37_30 : decode J_37.2.2.1 30 = .ok (.aload_n 0, 1) := dzq_42 (by decide +kernel)
theorem D_37_31 : decode J_37.2.2.1 31 = .ok (.getfield 18, 3) := dzq_180 (by decide +kernel)
theorem D_37_34 : decode J_37.2.2.1 34 = .ok (.aload_n 0, 1) := dzq_42 (by decide +kernel)
theorem D_37_35 : decode J_37.2.2.1 35 = .ok (.getfield 29, 3) := dzq_180 (by decide +kernel)
theorem D_37_38 : decode J_37.2.2.1 38 = .ok (.iload_n 3, 1) := dzq_29 (by decide +kernel)
theorem D_37_39 : decode J_37.2.2.1 39 = .ok (.iastore, 1) := dzq_79 (by decide +kernel)
theorem D_37_40 : decode J_37.2.2.1 40 = .ok (.aload_n 0, 1) := dzq_42 (by decide +kernel)
theorem D_37_41 : decode J_37.2.2.1 41 = .ok (.getfield 21, 3) := dzq_180 (by decide +kernel)
theorem D_37_44 : decode J_37.2.2.1 44 = .ok (.aload_n 0, 1) := dzq_42 (by decide +kernel)
theorem D_37_45 : decode J_37.2.2.1 45 = .ok (.getfield 29, 3) := dzq_180 (by decide +kernel)
theorem D_37_48 : decode J_37.2.2.1 48 = .ok (.iconst (-1), 1) := dzq_2 (by decide +kernel)
theorem D_37_49 : decode J_37.2.2.1 49 = .ok (.iastore, 1) := dzq_79 (by decide +kernel)
theorem D_37_50 : decode J_37.2.2.1 50 = .ok (.aload_n 0, 1) := dzq_42 (by decide +kernel)
theorem D_37_51 : decode J_37.2.2.1 51 = .ok (.getfield 29, 3) := dzq_180 (by decide +kernel)
theorem D_37_54 : decode J_37.2.2.1 54 = .ok (.bipush 16, 2) := dzq_16 (by decide +kernel)
theorem D_37_56 : decode J_37.2.2.1 56 = .ok (.imul, 1) := dzq_104 (by decide +kernel)
theorem D_37_57 : decode J_37.2.2.1 57 = .ok (.istore 4, 2) := dzq_54 (by decide +kernel)
theorem D_37_59 : decode J_37.2.2.1 59 = .ok (.aload_n 0, 1) := dzq_42 (by decide +kernel)
theorem D_37_60 : decode J_37.2.2.1 60 = .ok (.getfield 26, 3) := dzq_180 (by decide +kernel)
theorem D_37_63 : decode J_37.2.2.1 63 = .ok (.iload 4, 2) := dzq_21 (by decide +kernel)
theorem D_37_65 : decode J_37.2.2.1 65 = .ok (.iload 4, 2) := dzq_21 (by decide +kernel)
theorem D_37_67 : decode J_37.2.2.1 67 = .ok (.bipush 16, 2) := dzq_16 (by decide +kernel)
theorem D_37_69 : decode J_37.2.2.1 69 = .ok (.iadd, 1) := dzq_96 (by decide +kernel)
theorem D_37_70 : decode J_37.2.2.1 70 = .ok (.iconst 0, 1) := dzq_3 (by decide +kernel)
theorem D_37_71 : decode J_37.2.2.1 71 = .ok (.invokestatic 33, 3) := dzq_184 (by decide +kernel)
theorem D_37_74 : decode J_37.2.2.1 74 = .ok (.aload_n 0, 1) := dzq_42 (by decide +kernel)
theorem D_37_75 : decode J_37.2.2.1 75 = .ok (.dup, 1) := dzq_89 (by decide +kernel)
theorem D_37_76 : decode J_37.2.2.1 76 = .ok (.getfield 29, 3) := dzq_180 (by decide +kernel)
theorem D_37_79 : decode J_37.2.2.1 79 = .ok (.iconst 1, 1) := dzq_4 (by decide +kernel)
theorem D_37_80 : decode J_37.2.2.1 80 = .ok (.iadd, 1) := dzq_96 (by decide +kernel)
theorem D_37_81 : decode J_37.2.2.1 81 = .ok (.putfield 29, 3) := dzq_181 (by decide +kernel)
theorem D_37_84 : decode J_37.2.2.1 84 = .ok (.aload_n 0, 1) := dzq_42 (by decide +kernel)
theorem D_37_85 : decode J_37.2.2.1 85 = .ok (.aload_n 0, 1) := dzq_42 (by decide +kernel)
theorem D_37_86 : decode J_37.2.2.1 86 = .ok (.getfield 39, 3) := dzq_180 (by decide +kernel)
theorem D_37_89 : decode J_37.2.2.1 89 = .ok (.aload_n 0, 1) := dzq_42 (by decide +kernel)
theorem D_37_90 : decode J_37.2.2.1 90 = .ok (.getfield 29, 3) := dzq_180 (by decide +kernel)
theorem D_37_93 : decode J_37.2.2.1 93 = .ok (.invokestatic 42, 3) := dzq_184 (by decide +kernel)
theorem D_37_96 : decode J_37.2.2.1 96 = .ok (.putfield 39, 3) := dzq_181 (by decide +kernel)
theorem D_37_99 : decode J_37.2.2.1 99 = .ok (.return_, 1) := dzq_177 (by decide +kernel)
def P_37_0 (X : mjX) (d C S kc ks : Nat) (k : Nat → Int32 → Int32 → Int32 → mjH → mjU) : Prop := ∀ (l0 : Nat) (l1 : Int32) (l2 : Int32) (l3 : Int32) (hp : mjH) (q : Option Value × mjH), k l0 l1 l2 l3 hp = some q → mjG X d C S J_37 (mjEq q) 0 [some (.ref l0), some (.int l1), some (.int l2), some (.int l3), none] [] hp kc ks
noncomputable def b_37_0 (R : mjR) (l0 : Nat) (l1 : Int32) (l2 : Int32) (l3 : Int32) (hp : mjH) : mjU := gI hp l0 2 0 (fun v1 => (if v1 < (40 : Int32) then gR hp l0 2 2 (fun v2 => gI hp l0 2 0 (fun v3 => sI hp v2 v3 l1 (fun hp4 => gR hp4 l0 2 3 (fun v5 => gI hp4 l0 2 0 (fun v6 => sI hp4 v5 v6 l2 (fun hp7 => gR hp7 l0 2 4 (fun v8 => gI hp7 l0 2 0 (fun v9 => sI hp7 v8 v9 l3 (fun hp10 => gR hp10 l0 2 5 (fun v11 => gI hp10 l0 2 0 (fun v12 => sI hp10 v11 v12 (-1 : Int32) (fun hp13 => gI hp13 l0 2 0 (fun v14 => gR hp13 l0 2 6 (fun v15 => bN (R 379 [.ref v15, .int (v14 * (16 : Int32)), .int ((v14 * (16 : Int32)) + (16 : Int32)), .int (0 : Int32)] hp13) (fun  hp16 => gI hp16 l0 2 0 (fun v17 => pI hp16 l0 2 0 (v17 + (1 : Int32)) (fun hp18 => gI hp18 l0 2 1 (fun v19 => gI hp18 l0 2 0 (fun v20 => bI (R 354 [.int v19, .int v20] hp18) (fun v21 hp22 => pI hp22 l0 2 1 v21 (fun hp23 => some (none, hp23)))))))))))))))))))))) else some (none, hp)))
theorem t_37_0 {X : mjX} {d C S kc ks : Nat} {R : mjR} (hR : mjC R d) (h1 : kc ≤ C) (h2 : ks ≤ S) : P_37_0 X (d + 1) C S kc ks (b_37_0 R) := by
  intro l0 l1 l2 l3 hp q h
  unfold b_37_0 at h
  refine mjr_aload_n (x := l0) D_37_0 rfl ?_
  refine mjq_gI D_37_1 fr_2_29 h (fun v1 h => ?_)
  refine mjq_bi (v := (40 : Int32)) D_37_4 rfl ?_
  refine mjq_icmp_lt (tgt := 10) D_37_6 rfl h (fun h => ?_) (fun h => ?_)
  · refine mjr_aload_n (x := l0) D_37_10 rfl ?_
    refine mjq_gR D_37_11 fr_2_11 h (fun v2 h => ?_)
    refine mjr_aload_n (x := l0) D_37_14 rfl ?_
    refine mjq_gI D_37_15 fr_2_29 h (fun v3 h => ?_)
    refine mjr_iload_n (x := l1) D_37_18 rfl ?_
    refine mjq_sI D_37_19 h (fun hp4 h => ?_)
    refine mjr_aload_n (x := l0) D_37_20 rfl ?_
    refine mjq_gR D_37_21 fr_2_15 h (fun v5 h => ?_)
    refine mjr_aload_n (x := l0) D_37_24 rfl ?_
    refine mjq_gI D_37_25 fr_2_29 h (fun v6 h => ?_)
    refine mjr_iload_n (x := l2) D_37_28 rfl ?_
    refine mjq_sI D_37_29 h (fun hp7 h => ?_)
    refine mjr_aload_n (x := l0) D_37_30 rfl ?_
    refine mjq_gR D_37_31 fr_2_18 h (fun v8 h => ?_)
    refine mjr_aload_n (x := l0) D_37_34 rfl ?_
    refine mjq_gI D_37_35 fr_2_29 h (fun v9 h => ?_)
    refine mjr_iload_n (x := l3) D_37_38 rfl ?_
    refine mjq_sI D_37_39 h (fun hp10 h => ?_)
    refine mjr_aload_n (x := l0) D_37_40 rfl ?_
    refine mjq_gR D_37_41 fr_2_21 h (fun v11 h => ?_)
    refine mjr_aload_n (x := l0) D_37_44 rfl ?_
    refine mjq_gI D_37_45 fr_2_29 h (fun v12 h => ?_)
    refine mjq_ic (v := (-1 : Int32)) D_37_48 rfl ?_
    refine mjq_sI D_37_49 h (fun hp13 h => ?_)
    refine mjr_aload_n (x := l0) D_37_50 rfl ?_
    refine mjq_gI D_37_51 fr_2_29 h (fun v14 h => ?_)
    refine mjq_bi (v := (16 : Int32)) D_37_54 rfl ?_
    refine mjr_imul D_37_56 ?_
    refine mjq_istore (lo' := [some (.ref l0), some (.int l1), some (.int l2), some (.int l3), some (.int (v14 * (16 : Int32)))]) D_37_57 (Nat.le_of_ble_eq_true rfl) rfl ?_
    refine mjr_aload_n (x := l0) D_37_59 rfl ?_
    refine mjq_gR D_37_60 fr_2_26 h (fun v15 h => ?_)
    refine mjr_iload (x := (v14 * (16 : Int32))) D_37_63 rfl ?_
    refine mjr_iload (x := (v14 * (16 : Int32))) D_37_65 rfl ?_
    refine mjq_bi (v := (16 : Int32)) D_37_67 rfl ?_
    refine mjr_iadd D_37_69 ?_
    refine mjq_ic (v := (0 : Int32)) D_37_70 rfl ?_
    refine mjq_scN (As := [.ref v15, .int (v14 * (16 : Int32)), .int ((v14 * (16 : Int32)) + (16 : Int32)), .int (0 : Int32)]) (rest := []) D_37_71 mr_2_33 V_379 rfl rfl rfl hR (Nat.le_refl _) h1 h2 h (fun  hp16 h => ?_)
    refine mjr_aload_n (x := l0) D_37_74 rfl ?_
    refine mjr_dup D_37_75 rfl ?_
    refine mjq_gI D_37_76 fr_2_29 h (fun v17 h => ?_)
    refine mjq_ic (v := (1 : Int32)) D_37_79 rfl ?_
    refine mjr_iadd D_37_80 ?_
    refine mjq_pI D_37_81 fr_2_29 rfl rfl h (fun hp18 h => ?_)
    refine mjr_aload_n (x := l0) D_37_84 rfl ?_
    refine mjr_aload_n (x := l0) D_37_85 rfl ?_
    refine mjq_gI D_37_86 fr_2_39 h (fun v19 h => ?_)
    refine mjr_aload_n (x := l0) D_37_89 rfl ?_
    refine mjq_gI D_37_90 fr_2_29 h (fun v20 h => ?_)
    refine mjq_scI (As := [.int v19, .int v20]) (rest := [.ref l0]) D_37_93 mr_2_42 V_354 rfl rfl rfl hR (Nat.le_refl _) h1 h2 h (fun v21 hp22 h => ?_)
    refine mjq_pI D_37_96 fr_2_39 rfl rfl h (fun hp23 h => ?_)
    exact mjq_nret D_37_99 rfl h1 h2 h
  · exact mjq_nret D_37_9 rfl h1 h2 h
noncomputable def f_37 (R : mjR) (a0 : Nat) (a1 : Int32) (a2 : Int32) (a3 : Int32) (hp : mjH) : mjU := b_37_0 R a0 a1 a2 a3 hp
theorem c_37 {R : mjR} {d : Nat} (hR : mjC R d) {a0 : Nat} {a1 : Int32} {a2 : Int32} {a3 : Int32} {hp : mjH} {q : Option Value × mjH} (h : f_37 R a0 a1 a2 a3 hp = some q) : mjM (d + 1) 0 0 37 [.ref a0, .int a1, .int a2, .int a3] hp (mjEq q) :=
  mjM_of Ja_37 (Nat.le_of_ble_eq_true rfl) (mjG.fg (lo' := [some (.ref a0), some (.int a1), some (.int a2), some (.int a3), none]) (And.intro rfl (And.intro rfl (And.intro rfl (And.intro rfl True.intro)))) ((t_37_0 hR (Nat.le_refl 0) (Nat.le_refl 0)) a0 a1 a2 a3 hp q h))
def J_38 : mjI := (⟨"OwnerHeap$Frames", "top", "()I"⟩, 2, prog_4_method_5_code, 1, (some .int), 0, false)
theorem Ja_38 : mjMt 38 = some J_38 := by rfl
theorem D_38_0 : decode J_38.2.2.1 0 = .ok (.aload_n 0, 1) := dzq_42 (by decide +kernel)
theorem D_38_1 : decode J_38.2.2.1 1 = .ok (.getfield 29, 3) := dzq_180 (by decide +kernel)
theorem D_38_4 : decode J_38.2.2.1 4 = .ok (.iconst 1, 1) := dzq_4 (by decide +kernel)
theorem D_38_5 : decode J_38.2.2.1 5 = .ok (.isub, 1) := dzq_100 (by decide +kernel)
theorem D_38_6 : decode J_38.2.2.1 6 = .ok (.iconst 0, 1) := dzq_3 (by decide +kernel)
theorem D_38_7 : decode J_38.2.2.1 7 = .ok (.invokestatic 42, 3) := dzq_184 (by decide +kernel)
theorem D_38_10 : decode J_38.2.2.1 10 = .ok (.ireturn, 1) := dzq_172 (by decide +kernel)
def P_38_0 (X : mjX) (d C S kc ks : Nat) (k : Nat → mjH → mjU) : Prop := ∀ (l0 : Nat) (hp : mjH) (q : Option Value × mjH), k l0 hp = some q → mjG X d C S J_38 (mjEq q) 0 [some (.ref l0)] [] hp kc ks
noncomputable def b_38_0 (R : mjR) (l0 : Nat) (hp : mjH) : mjU := gI hp l0 2 0 (fun v1 => bI (R 354 [.int (v1 - (1 : Int32)), .int (0 : Int32)] hp) (fun v2 hp3 => some (some (.int v2), hp3)))
theorem t_38_0 {X : mjX} {d C S kc ks : Nat} {R : mjR} (hR : mjC R d) (h1 : kc ≤ C) (h2 : ks ≤ S) : P_38_0 X (d + 1) C S kc ks (b_38_0 R) := by
  intro l0 hp q h
  unfold b_38_0 at h
  refine mjr_aload_n (x := l0) D_38_0 rfl ?_
  refine mjq_gI D_38_1 fr_2_29 h (fun v1 h => ?_)
  refine mjq_ic (v := (1 : Int32)) D_38_4 rfl ?_
  refine mjr_isub D_38_5 ?_
  refine mjq_ic (v := (0 : Int32)) D_38_6 rfl ?_
  refine mjq_scI (As := [.int (v1 - (1 : Int32)), .int (0 : Int32)]) (rest := []) D_38_7 mr_2_42 V_354 rfl rfl rfl hR (Nat.le_refl _) h1 h2 h (fun v2 hp3 h => ?_)
  exact mjq_ret D_38_10 rfl h1 h2 h
noncomputable def f_38 (R : mjR) (a0 : Nat) (hp : mjH) : mjU := b_38_0 R a0 hp
theorem c_38 {R : mjR} {d : Nat} (hR : mjC R d) {a0 : Nat} {hp : mjH} {q : Option Value × mjH} (h : f_38 R a0 hp = some q) : mjM (d + 1) 0 0 38 [.ref a0] hp (mjEq q) :=
  mjM_of Ja_38 (Nat.le_of_ble_eq_true rfl) (mjG.fg (lo' := [some (.ref a0)]) (And.intro rfl True.intro) ((t_38_0 hR (Nat.le_refl 0) (Nat.le_refl 0)) a0 hp q h))
def J_39 : mjI := (⟨"OwnerHeap$Frames", "variableAt", "(II)I"⟩, 2, prog_4_method_4_code, 3, (some .int), 2, false)
theorem Ja_39 : mjMt 39 = some J_39 := by rfl
theorem D_39_0 : decode J_39.2.2.1 0 = .ok (.aload_n 0, 1) := dzq_42 (by decide +kernel)
theorem D_39_1 : decode J_39.2.2.1 1 = .ok (.getfield 26, 3) := dzq_180 (by decide +kernel)
theorem D_39_4 : decode J_39.2.2.1 4 = .ok (.iload_n 1, 1) := dzq_27 (by decide +kernel)
theorem D_39_5 : decode J_39.2.2.1 5 = .ok (.bipush 16, 2) := dzq_16 (by decide +kernel)
theorem D_39_7 : decode J_39.2.2.1 7 = .ok (.imul, 1) := dzq_104 (by decide +kernel)
theorem D_39_8 : decode J_39.2.2.1 8 = .ok (.iload_n 2, 1) := dzq_28 (by decide +kernel)
theorem D_39_9 : decode J_39.2.2.1 9 = .ok (.iadd, 1) := dzq_96 (by decide +kernel)
theorem D_39_10 : decode J_39.2.2.1 10 = .ok (.iaload, 1) := dzq_46 (by decide +kernel)
theorem D_39_11 : decode J_39.2.2.1 11 = .ok (.ireturn, 1) := dzq_172 (by decide +kernel)
def P_39_0 (X : mjX) (d C S kc ks : Nat) (k : Nat → Int32 → Int32 → mjH → mjU) : Prop := ∀ (l0 : Nat) (l1 : Int32) (l2 : Int32) (hp : mjH) (q : Option Value × mjH), k l0 l1 l2 hp = some q → mjG X d C S J_39 (mjEq q) 0 [some (.ref l0), some (.int l1), some (.int l2)] [] hp kc ks
noncomputable def b_39_0 (R : mjR) (l0 : Nat) (l1 : Int32) (l2 : Int32) (hp : mjH) : mjU := gR hp l0 2 6 (fun v1 => aI hp v1 ((l1 * (16 : Int32)) + l2) (fun v2 => some (some (.int v2), hp)))
theorem t_39_0 {X : mjX} {d C S kc ks : Nat} {R : mjR} (hR : mjC R d) (h1 : kc ≤ C) (h2 : ks ≤ S) : P_39_0 X (d + 1) C S kc ks (b_39_0 R) := by
  intro l0 l1 l2 hp q h
  unfold b_39_0 at h
  refine mjr_aload_n (x := l0) D_39_0 rfl ?_
  refine mjq_gR D_39_1 fr_2_26 h (fun v1 h => ?_)
  refine mjr_iload_n (x := l1) D_39_4 rfl ?_
  refine mjq_bi (v := (16 : Int32)) D_39_5 rfl ?_
  refine mjr_imul D_39_7 ?_
  refine mjr_iload_n (x := l2) D_39_8 rfl ?_
  refine mjr_iadd D_39_9 ?_
  refine mjq_aI D_39_10 h (fun v2 h => ?_)
  exact mjq_ret D_39_11 rfl h1 h2 h
noncomputable def f_39 (R : mjR) (a0 : Nat) (a1 : Int32) (a2 : Int32) (hp : mjH) : mjU := b_39_0 R a0 a1 a2 hp
theorem c_39 {R : mjR} {d : Nat} (hR : mjC R d) {a0 : Nat} {a1 : Int32} {a2 : Int32} {hp : mjH} {q : Option Value × mjH} (h : f_39 R a0 a1 a2 hp = some q) : mjM (d + 1) 0 0 39 [.ref a0, .int a1, .int a2] hp (mjEq q) :=
  mjM_of Ja_39 (Nat.le_of_ble_eq_true rfl) (mjG.fg (lo' := [some (.ref a0), some (.int a1), some (.int a2)]) (And.intro rfl (And.intro rfl (And.intro rfl True.intro))) ((t_39_0 hR (Nat.le_refl 0) (Nat.le_refl 0)) a0 a1 a2 hp q h))
