def J_153 : mjI := (⟨"OwnerHeap$Tokens", "spelled", "(JI)J"⟩, 9, prog_11_method_2_code, 4, (some .long), 2, true)
theorem Ja_153 : mjMt 153 = some J_153 := by rfl
theorem D_153_0 : decode J_153.2.2.1 0 = .ok (.iload_n 2, 1) := dzq_28 (by decide +kernel)
theorem D_153_1 : decode J_153.2.2.1 1 = .ok (.bipush 48, 2) := dzq_16 (by decide +kernel)
theorem D_153_3 : decode J_153.2.2.1 3 = .ok (.isub, 1) := dzq_100 (by decide +kernel)
theorem D_153_4 : decode J_153.2.2.1 4 = .ok (.iconst 1, 1) := dzq_4 (by decide +kernel)
theorem D_153_5 : decode J_153.2.2.1 5 = .ok (.iadd, 1) := dzq_96 (by decide +kernel)
theorem D_153_6 : decode J_153.2.2.1 6 = .ok (.istore_n 3, 1) := dzq_62 (by decide +kernel)
theorem D_153_7 : decode J_153.2.2.1 7 = .ok (.iload_n 2, 1) := dzq_28 (by decide +kernel)
theorem D_153_8 : decode J_153.2.2.1 8 = .ok (.bipush 97, 2) := dzq_16 (by decide +kernel)
theorem D_153_10 : decode J_153.2.2.1 10 = .ok (.if_icmp .lt 14, 3) := dzq_161 (by decide +kernel)
theorem D_153_13 : decode J_153.2.2.1 13 = .ok (.iload_n 2, 1) := dzq_28 (by decide +kernel)
theorem D_153_14 : decode J_153.2.2.1 14 = .ok (.bipush 97, 2) := dzq_16 (by decide +kernel)
theorem D_153_16 : decode J_153.2.2.1 16 = .ok (.isub, 1) := dzq_100 (by decide +kernel)
theorem D_153_17 : decode J_153.2.2.1 17 = .ok (.bipush 37, 2) := dzq_16 (by decide +kernel)
theorem D_153_19 : decode J_153.2.2.1 19 = .ok (.iadd, 1) := dzq_96 (by decide +kernel)
theorem D_153_20 : decode J_153.2.2.1 20 = .ok (.istore_n 3, 1) := dzq_62 (by decide +kernel)
theorem D_153_21 : decode J_153.2.2.1 21 = .ok (.goto 17, 3) := dzq_167 (by decide +kernel)
theorem D_153_24 : decode J_153.2.2.1 24 = .ok (.iload_n 2, 1) := dzq_28 (by decide +kernel)
theorem D_153_25 : decode J_153.2.2.1 25 = .ok (.bipush 65, 2) := dzq_16 (by decide +kernel)
theorem D_153_27 : decode J_153.2.2.1 27 = .ok (.if_icmp .lt 11, 3) := dzq_161 (by decide +kernel)
theorem D_153_30 : decode J_153.2.2.1 30 = .ok (.iload_n 2, 1) := dzq_28 (by decide +kernel)
theorem D_153_31 : decode J_153.2.2.1 31 = .ok (.bipush 65, 2) := dzq_16 (by decide +kernel)
theorem D_153_33 : decode J_153.2.2.1 33 = .ok (.isub, 1) := dzq_100 (by decide +kernel)
theorem D_153_34 : decode J_153.2.2.1 34 = .ok (.bipush 11, 2) := dzq_16 (by decide +kernel)
theorem D_153_36 : decode J_153.2.2.1 36 = .ok (.iadd, 1) := dzq_96 (by decide +kernel)
theorem D_153_37 : decode J_153.2.2.1 37 = .ok (.istore_n 3, 1) := dzq_62 (by decide +kernel)
theorem D_153_38 : decode J_153.2.2.1 38 = .ok (.lload_n 0, 1) := dzq_30 (by decide +kernel)
theorem D_153_39 : decode J_153.2.2.1 39 = .ok (.ldc2_w 44, 3) := by decide +kernel
theorem D_153_42 : decode J_153.2.2.1 42 = .ok (.lmul, 1) := by decide +kernel
theorem D_153_43 : decode J_153.2.2.1 43 = .ok (.iload_n 3, 1) := dzq_29 (by decide +kernel)
theorem D_153_44 : decode J_153.2.2.1 44 = .ok (.i2l, 1) := by decide +kernel
theorem D_153_45 : decode J_153.2.2.1 45 = .ok (.ladd, 1) := by decide +kernel
theorem D_153_46 : decode J_153.2.2.1 46 = .ok (.lreturn, 1) := by decide +kernel
def P_153_38 (X : mjX) (d C S kc ks : Nat) (k : Int64 → Int32 → mjH → mjU) : Prop := ∀ (l0 : Int64) (l3 : Int32) (hp : mjH) (q : Option Value × mjH), k l0 l3 hp = some q → mjG X d C S J_153 (mjEq q) 38 [some (.long l0), none, none, some (.int l3)] [] hp kc ks
def P_153_0 (X : mjX) (d C S kc ks : Nat) (k : Int64 → Int32 → mjH → mjU) : Prop := ∀ (l0 : Int64) (l2 : Int32) (hp : mjH) (q : Option Value × mjH), k l0 l2 hp = some q → mjG X d C S J_153 (mjEq q) 0 [some (.long l0), none, some (.int l2), none] [] hp kc ks
noncomputable def b_153_38 (R : mjR) (l0 : Int64) (l3 : Int32) (hp : mjH) : mjU := some (some (.long ((l0 * (64 : Int64)) + (l3).toInt64)), hp)
theorem t_153_38 {X : mjX} {d C S kc ks : Nat} {R : mjR} (hR : mjC R d) (h1 : kc ≤ C) (h2 : ks ≤ S) : P_153_38 X (d + 1) C S kc ks (b_153_38 R) := by
  intro l0 l3 hp q h
  unfold b_153_38 at h
  refine mjr_lload_n (x := l0) D_153_38 rfl ?_
  refine mjr_ldc2 (v := (64 : Int64)) D_153_39 (by decide +kernel) ?_
  refine mjr_lmul D_153_42 ?_
  refine mjr_iload_n (x := l3) D_153_43 rfl ?_
  refine mjr_i2l D_153_44 ?_
  refine mjr_ladd D_153_45 ?_
  exact mjq_lret D_153_46 rfl h1 h2 h
noncomputable def b_153_0 (R : mjR) (l0 : Int64) (l2 : Int32) (hp : mjH) : mjU := (if l2 < (97 : Int32) then (if l2 < (65 : Int32) then b_153_38 R l0 ((l2 - (48 : Int32)) + (1 : Int32)) hp else b_153_38 R l0 ((l2 - (65 : Int32)) + (11 : Int32)) hp) else b_153_38 R l0 ((l2 - (97 : Int32)) + (37 : Int32)) hp)
theorem t_153_0 {X : mjX} {d C S kc ks : Nat} {R : mjR} (hR : mjC R d) (h1 : kc ≤ C) (h2 : ks ≤ S) : P_153_0 X (d + 1) C S kc ks (b_153_0 R) := by
  intro l0 l2 hp q h
  unfold b_153_0 at h
  refine mjr_iload_n (x := l2) D_153_0 rfl ?_
  refine mjq_bi (v := (48 : Int32)) D_153_1 rfl ?_
  refine mjr_isub D_153_3 ?_
  refine mjq_ic (v := (1 : Int32)) D_153_4 rfl ?_
  refine mjr_iadd D_153_5 ?_
  refine mjq_istore_n (lo' := [some (.long l0), none, some (.int l2), some (.int ((l2 - (48 : Int32)) + (1 : Int32)))]) D_153_6 (Nat.le_of_ble_eq_true rfl) rfl ?_
  refine mjr_iload_n (x := l2) D_153_7 rfl ?_
  refine mjq_bi (v := (97 : Int32)) D_153_8 rfl ?_
  refine mjq_icmp_lt (tgt := 24) D_153_10 rfl h (fun h => ?_) (fun h => ?_)
  · refine mjr_iload_n (x := l2) D_153_24 rfl ?_
    refine mjq_bi (v := (65 : Int32)) D_153_25 rfl ?_
    refine mjq_icmp_lt (tgt := 38) D_153_27 rfl h (fun h => ?_) (fun h => ?_)
    · exact mjG.fg (lo' := [some (.long l0), none, none, some (.int ((l2 - (48 : Int32)) + (1 : Int32)))]) (And.intro rfl (And.intro rfl True.intro)) ((t_153_38 hR h1 h2) _ _ _ _ h)
    · refine mjr_iload_n (x := l2) D_153_30 rfl ?_
      refine mjq_bi (v := (65 : Int32)) D_153_31 rfl ?_
      refine mjr_isub D_153_33 ?_
      refine mjq_bi (v := (11 : Int32)) D_153_34 rfl ?_
      refine mjr_iadd D_153_36 ?_
      refine mjq_istore_n (lo' := [some (.long l0), none, some (.int l2), some (.int ((l2 - (65 : Int32)) + (11 : Int32)))]) D_153_37 (Nat.le_of_ble_eq_true rfl) rfl ?_
      exact mjG.fg (lo' := [some (.long l0), none, none, some (.int ((l2 - (65 : Int32)) + (11 : Int32)))]) (And.intro rfl (And.intro rfl True.intro)) ((t_153_38 hR h1 h2) _ _ _ _ h)
  · refine mjr_iload_n (x := l2) D_153_13 rfl ?_
    refine mjq_bi (v := (97 : Int32)) D_153_14 rfl ?_
    refine mjr_isub D_153_16 ?_
    refine mjq_bi (v := (37 : Int32)) D_153_17 rfl ?_
    refine mjr_iadd D_153_19 ?_
    refine mjq_istore_n (lo' := [some (.long l0), none, some (.int l2), some (.int ((l2 - (97 : Int32)) + (37 : Int32)))]) D_153_20 (Nat.le_of_ble_eq_true rfl) rfl ?_
    refine mjr_goto (tgt := 38) D_153_21 rfl ?_
    exact mjG.fg (lo' := [some (.long l0), none, none, some (.int ((l2 - (97 : Int32)) + (37 : Int32)))]) (And.intro rfl (And.intro rfl True.intro)) ((t_153_38 hR h1 h2) _ _ _ _ h)
noncomputable def f_153 (R : mjR) (a0 : Int64) (a1 : Int32) (hp : mjH) : mjU := b_153_0 R a0 a1 hp
theorem c_153 {R : mjR} {d : Nat} (hR : mjC R d) {a0 : Int64} {a1 : Int32} {hp : mjH} {q : Option Value × mjH} (h : f_153 R a0 a1 hp = some q) : mjM (d + 1) 0 0 153 [.long a0, .int a1] hp (mjEq q) :=
  mjM_of Ja_153 (Nat.le_of_ble_eq_true rfl) (mjG.fg (lo' := [some (.long a0), none, some (.int a1), none]) (And.intro rfl (And.intro rfl True.intro)) ((t_153_0 hR (Nat.le_refl 0) (Nat.le_refl 0)) a0 a1 hp q h))
def J_154 : mjI := (⟨"OwnerHeap$Tokens", "cut", "([BI)V"⟩, 9, prog_11_method_3_code, 5, none, 2, false)
theorem Ja_154 : mjMt 154 = some J_154 := by rfl
theorem D_154_0 : decode J_154.2.2.1 0 = .ok (.aload_n 0, 1) := dzq_42 (by decide +kernel)
theorem D_154_1 : decode J_154.2.2.1 1 = .ok (.iconst 0, 1) := dzq_3 (by decide +kernel)
theorem D_154_2 : decode J_154.2.2.1 2 = .ok (.putfield 46, 3) := dzq_181 (by decide +kernel)
theorem D_154_5 : decode J_154.2.2.1 5 = .ok (.aload_n 0, 1) := dzq_42 (by decide +kernel)
theorem D_154_6 : decode J_154.2.2.1 6 = .ok (.iconst 0, 1) := dzq_3 (by decide +kernel)
theorem D_154_7 : decode J_154.2.2.1 7 = .ok (.putfield 50, 3) := dzq_181 (by decide +kernel)
theorem D_154_10 : decode J_154.2.2.1 10 = .ok (.aload_n 0, 1) := dzq_42 (by decide +kernel)
theorem D_154_11 : decode J_154.2.2.1 11 = .ok (.iconst 0, 1) := dzq_3 (by decide +kernel)
theorem D_154_12 : decode J_154.2.2.1 12 = .ok (.putfield 53, 3) := dzq_181 (by decide +kernel)
theorem D_154_15 : decode J_154.2.2.1 15 = .ok (.aload_n 0, 1) := dzq_42 (by decide +kernel)
theorem D_154_16 : decode J_154.2.2.1 16 = .ok (.iconst (-1), 1) := dzq_2 (by decide +kernel)
theorem D_154_17 : decode J_154.2.2.1 17 = .ok (.putfield 56, 3) := dzq_181 (by decide +kernel)
theorem D_154_20 : decode J_154.2.2.1 20 = .ok (.aload_n 1, 1) := dzq_43 (by decide +kernel)
theorem D_154_21 : decode J_154.2.2.1 21 = .ok (.iconst 0, 1) := dzq_3 (by decide +kernel)
theorem D_154_22 : decode J_154.2.2.1 22 = .ok (.iload_n 2, 1) := dzq_28 (by decide +kernel)
theorem D_154_23 : decode J_154.2.2.1 23 = .ok (.invokestatic 59, 3) := dzq_184 (by decide +kernel)
theorem D_154_26 : decode J_154.2.2.1 26 = .ok (.istore_n 3, 1) := dzq_62 (by decide +kernel)
theorem D_154_27 : decode J_154.2.2.1 27 = .ok (.iconst 0, 1) := dzq_3 (by decide +kernel)
theorem D_154_28 : decode J_154.2.2.1 28 = .ok (.istore 4, 2) := dzq_54 (by decide +kernel)
theorem D_154_30 : decode J_154.2.2.1 30 = .ok (.iload 4, 2) := dzq_21 (by decide +kernel)
theorem D_154_32 : decode J_154.2.2.1 32 = .ok (.iload_n 2, 1) := dzq_28 (by decide +kernel)
theorem D_154_33 : decode J_154.2.2.1 33 = .ok (.if_icmp .ge 27, 3) := dzq_162 (by decide +kernel)
theorem D_154_36 : decode J_154.2.2.1 36 = .ok (.iload_n 3, 1) := dzq_29 (by decide +kernel)
theorem D_154_37 : decode J_154.2.2.1 37 = .ok (.iload_n 2, 1) := dzq_28 (by decide +kernel)
theorem D_154_38 : decode J_154.2.2.1 38 = .ok (.if_icmp .ge 22, 3) := dzq_162 (by decide +kernel)
theorem D_154_41 : decode J_154.2.2.1 41 = .ok (.aload_n 1, 1) := dzq_43 (by decide +kernel)
theorem D_154_42 : decode J_154.2.2.1 42 = .ok (.aload_n 0, 1) := dzq_42 (by decide +kernel)
theorem D_154_43 : decode J_154.2.2.1 43 = .ok (.aload_n 1, 1) := dzq_43 (by decide +kernel)
theorem D_154_44 : decode J_154.2.2.1 44 = .ok (.iload_n 3, 1) := dzq_29 (by decide +kernel)
theorem D_154_45 : decode J_154.2.2.1 45 = .ok (.iload_n 2, 1) := dzq_28 (by decide +kernel)
theorem D_154_46 : decode J_154.2.2.1 46 = .ok (.invokevirtual 63, 3) := dzq_182 (by decide +kernel)
theorem D_154_49 : decode J_154.2.2.1 49 = .ok (.iload_n 2, 1) := dzq_28 (by decide +kernel)
theorem D_154_50 : decode J_154.2.2.1 50 = .ok (.invokestatic 59, 3) := dzq_184 (by decide +kernel)
theorem D_154_53 : decode J_154.2.2.1 53 = .ok (.istore_n 3, 1) := dzq_62 (by decide +kernel)
theorem D_154_54 : decode J_154.2.2.1 54 = .ok (.iinc 4 1, 3) := dzq_132 (by decide +kernel)
theorem D_154_57 : decode J_154.2.2.1 57 = .ok (.goto (-27), 3) := dzq_167 (by decide +kernel)
theorem D_154_60 : decode J_154.2.2.1 60 = .ok (.aload_n 0, 1) := dzq_42 (by decide +kernel)
theorem D_154_61 : decode J_154.2.2.1 61 = .ok (.iconst 0, 1) := dzq_3 (by decide +kernel)
theorem D_154_62 : decode J_154.2.2.1 62 = .ok (.iload_n 2, 1) := dzq_28 (by decide +kernel)
theorem D_154_63 : decode J_154.2.2.1 63 = .ok (.lconst 0, 1) := by decide +kernel
theorem D_154_64 : decode J_154.2.2.1 64 = .ok (.invokevirtual 66, 3) := dzq_182 (by decide +kernel)
theorem D_154_67 : decode J_154.2.2.1 67 = .ok (.return_, 1) := dzq_177 (by decide +kernel)
def P_154_60 (X : mjX) (d C S kc ks : Nat) (k : Nat → Int32 → mjH → mjU) : Prop := ∀ (l0 : Nat) (l2 : Int32) (hp : mjH) (q : Option Value × mjH), k l0 l2 hp = some q → mjG X d C S J_154 (mjEq q) 60 [some (.ref l0), none, some (.int l2), none, none] [] hp kc ks
def P_154_30 (X : mjX) (d C S kc ks : Nat) (k : Nat → Nat → Int32 → Int32 → Int32 → mjH → mjU) : Prop := ∀ (l0 : Nat) (l1 : Nat) (l2 : Int32) (l3 : Int32) (l4 : Int32) (hp : mjH) (q : Option Value × mjH), k l0 l1 l2 l3 l4 hp = some q → mjG X d C S J_154 (mjEq q) 30 [some (.ref l0), some (.ref l1), some (.int l2), some (.int l3), some (.int l4)] [] hp kc ks
def P_154_0 (X : mjX) (d C S kc ks : Nat) (k : Nat → Nat → Int32 → mjH → mjU) : Prop := ∀ (l0 : Nat) (l1 : Nat) (l2 : Int32) (hp : mjH) (q : Option Value × mjH), k l0 l1 l2 hp = some q → mjG X d C S J_154 (mjEq q) 0 [some (.ref l0), some (.ref l1), some (.int l2), none, none] [] hp kc ks
noncomputable def b_154_60 (R : mjR) (l0 : Nat) (l2 : Int32) (hp : mjH) : mjU := rV hp l0 9 (bN (R 161 [.ref l0, .int (0 : Int32), .int l2, .long (0 : Int64)] hp) (fun  hp1 => some (none, hp1)))
theorem t_154_60 {X : mjX} {d C S kc ks : Nat} {R : mjR} (hR : mjC R d) (h1 : kc ≤ C) (h2 : ks ≤ S) : P_154_60 X (d + 1) C S kc ks (b_154_60 R) := by
  intro l0 l2 hp q h
  unfold b_154_60 at h
  refine mjr_aload_n (x := l0) D_154_60 rfl ?_
  refine mjq_ic (v := (0 : Int32)) D_154_61 rfl ?_
  refine mjr_iload_n (x := l2) D_154_62 rfl ?_
  refine mjq_lc (v := (0 : Int64)) D_154_63 rfl ?_
  refine mjq_vN (As := [.int (0 : Int32), .int l2, .long (0 : Int64)]) (rest := []) D_154_64 mr_9_66 V_161 rfl rfl rfl hR (Nat.le_refl _) h1 h2 h (fun  hp1 h => ?_)
  exact mjq_nret D_154_67 rfl h1 h2 h
noncomputable def b_154_30 (R : mjR) (k30 : Nat → Nat → Int32 → Int32 → Int32 → mjH → mjU) (l0 : Nat) (l1 : Nat) (l2 : Int32) (l3 : Int32) (l4 : Int32) (hp : mjH) : mjU := (if l2 ≤ l4 then b_154_60 R l0 l2 hp else (if l2 ≤ l3 then b_154_60 R l0 l2 hp else rV hp l0 9 (bI (R 156 [.ref l0, .ref l1, .int l3, .int l2] hp) (fun v1 hp2 => bI (R 155 [.ref l1, .int v1, .int l2] hp2) (fun v3 hp4 => k30 l0 l1 l2 v3 (l4 + (1 : Int32)) hp4)))))
theorem t_154_30 {X : mjX} {d C S kc ks : Nat} {R : mjR} (hR : mjC R d) (h1 : kc ≤ C) (h2 : ks ≤ S) {k30 : Nat → Nat → Int32 → Int32 → Int32 → mjH → mjU} (hk30 : P_154_30 X (d + 1) C S kc ks k30) : P_154_30 X (d + 1) C S kc ks (b_154_30 R k30) := by
  intro l0 l1 l2 l3 l4 hp q h
  unfold b_154_30 at h
  refine mjr_iload (x := l4) D_154_30 rfl ?_
  refine mjr_iload_n (x := l2) D_154_32 rfl ?_
  refine mjq_icmp_ge (tgt := 60) D_154_33 rfl h (fun h => ?_) (fun h => ?_)
  · exact mjG.fg (lo' := [some (.ref l0), none, some (.int l2), none, none]) (And.intro rfl (And.intro rfl True.intro)) ((t_154_60 hR h1 h2) _ _ _ _ h)
  · refine mjr_iload_n (x := l3) D_154_36 rfl ?_
    refine mjr_iload_n (x := l2) D_154_37 rfl ?_
    refine mjq_icmp_ge (tgt := 60) D_154_38 rfl h (fun h => ?_) (fun h => ?_)
    · exact mjG.fg (lo' := [some (.ref l0), none, some (.int l2), none, none]) (And.intro rfl (And.intro rfl True.intro)) ((t_154_60 hR h1 h2) _ _ _ _ h)
    · refine mjr_aload_n (x := l1) D_154_41 rfl ?_
      refine mjr_aload_n (x := l0) D_154_42 rfl ?_
      refine mjr_aload_n (x := l1) D_154_43 rfl ?_
      refine mjr_iload_n (x := l3) D_154_44 rfl ?_
      refine mjr_iload_n (x := l2) D_154_45 rfl ?_
      refine mjq_vI (As := [.ref l1, .int l3, .int l2]) (rest := [.ref l1]) D_154_46 mr_9_63 V_156 rfl rfl rfl hR (Nat.le_refl _) h1 h2 h (fun v1 hp2 h => ?_)
      refine mjr_iload_n (x := l2) D_154_49 rfl ?_
      refine mjq_scI (As := [.ref l1, .int v1, .int l2]) (rest := []) D_154_50 mr_9_59 V_155 rfl rfl rfl hR (Nat.le_refl _) h1 h2 h (fun v3 hp4 h => ?_)
      refine mjq_istore_n (lo' := [some (.ref l0), some (.ref l1), some (.int l2), some (.int v3), some (.int l4)]) D_154_53 (Nat.le_of_ble_eq_true rfl) rfl ?_
      refine mjq_iinc (x := l4) (c := (1 : Int32)) (lo' := [some (.ref l0), some (.ref l1), some (.int l2), some (.int v3), some (.int (l4 + (1 : Int32)))]) D_154_54 rfl (Nat.le_of_ble_eq_true rfl) rfl rfl ?_
      refine mjr_goto (tgt := 30) D_154_57 rfl ?_
      exact hk30 _ _ _ _ _ _ _ h
noncomputable def L_154_30 (R : mjR) (n : Nat) : Nat → Nat → Int32 → Int32 → Int32 → mjH → mjU := Nat.rec (motive := fun _ => Nat → Nat → Int32 → Int32 → Int32 → mjH → mjU) (fun _ _ _ _ _ _ => none) (fun _ self => b_154_30 R self) n
theorem T_154_30 {X : mjX} {d C S kc ks : Nat} {R : mjR} (hR : mjC R d) (h1 : kc ≤ C) (h2 : ks ≤ S) (n : Nat) : P_154_30 X (d + 1) C S kc ks (L_154_30 R n) := by
  induction n with
  | zero => intro _ _ _ _ _ _ _ h; exact mj_no h
  | succ n ih => exact t_154_30 hR h1 h2 ih
noncomputable def b_154_0 (R : mjR) (l0 : Nat) (l1 : Nat) (l2 : Int32) (hp : mjH) : mjU := pI hp l0 9 5 (0 : Int32) (fun hp1 => pI hp1 l0 9 6 (0 : Int32) (fun hp2 => pI hp2 l0 9 7 (0 : Int32) (fun hp3 => pI hp3 l0 9 8 (-1 : Int32) (fun hp4 => bI (R 155 [.ref l1, .int (0 : Int32), .int l2] hp4) (fun v5 hp6 => L_154_30 R mjN l0 l1 l2 v5 (0 : Int32) hp6)))))
theorem t_154_0 {X : mjX} {d C S kc ks : Nat} {R : mjR} (hR : mjC R d) (h1 : kc ≤ C) (h2 : ks ≤ S) : P_154_0 X (d + 1) C S kc ks (b_154_0 R) := by
  intro l0 l1 l2 hp q h
  unfold b_154_0 at h
  refine mjr_aload_n (x := l0) D_154_0 rfl ?_
  refine mjq_ic (v := (0 : Int32)) D_154_1 rfl ?_
  refine mjq_pI D_154_2 fr_9_46 rfl rfl h (fun hp1 h => ?_)
  refine mjr_aload_n (x := l0) D_154_5 rfl ?_
  refine mjq_ic (v := (0 : Int32)) D_154_6 rfl ?_
  refine mjq_pI D_154_7 fr_9_50 rfl rfl h (fun hp2 h => ?_)
  refine mjr_aload_n (x := l0) D_154_10 rfl ?_
  refine mjq_ic (v := (0 : Int32)) D_154_11 rfl ?_
  refine mjq_pI D_154_12 fr_9_53 rfl rfl h (fun hp3 h => ?_)
  refine mjr_aload_n (x := l0) D_154_15 rfl ?_
  refine mjq_ic (v := (-1 : Int32)) D_154_16 rfl ?_
  refine mjq_pI D_154_17 fr_9_56 rfl rfl h (fun hp4 h => ?_)
  refine mjr_aload_n (x := l1) D_154_20 rfl ?_
  refine mjq_ic (v := (0 : Int32)) D_154_21 rfl ?_
  refine mjr_iload_n (x := l2) D_154_22 rfl ?_
  refine mjq_scI (As := [.ref l1, .int (0 : Int32), .int l2]) (rest := []) D_154_23 mr_9_59 V_155 rfl rfl rfl hR (Nat.le_refl _) h1 h2 h (fun v5 hp6 h => ?_)
  refine mjq_istore_n (lo' := [some (.ref l0), some (.ref l1), some (.int l2), some (.int v5), none]) D_154_26 (Nat.le_of_ble_eq_true rfl) rfl ?_
  refine mjq_ic (v := (0 : Int32)) D_154_27 rfl ?_
  refine mjq_istore (lo' := [some (.ref l0), some (.ref l1), some (.int l2), some (.int v5), some (.int (0 : Int32))]) D_154_28 (Nat.le_of_ble_eq_true rfl) rfl ?_
  exact (T_154_30 hR h1 h2 mjN) _ _ _ _ _ _ _ h
noncomputable def f_154 (R : mjR) (a0 : Nat) (a1 : Nat) (a2 : Int32) (hp : mjH) : mjU := b_154_0 R a0 a1 a2 hp
theorem c_154 {R : mjR} {d : Nat} (hR : mjC R d) {a0 : Nat} {a1 : Nat} {a2 : Int32} {hp : mjH} {q : Option Value × mjH} (h : f_154 R a0 a1 a2 hp = some q) : mjM (d + 1) 0 0 154 [.ref a0, .ref a1, .int a2] hp (mjEq q) :=
  mjM_of Ja_154 (Nat.le_of_ble_eq_true rfl) (mjG.fg (lo' := [some (.ref a0), some (.ref a1), some (.int a2), none, none]) (And.intro rfl (And.intro rfl (And.intro rfl True.intro))) ((t_154_0 hR (Nat.le_refl 0) (Nat.le_refl 0)) a0 a1 a2 hp q h))
def J_155 : mjI := (⟨"OwnerHeap$Tokens", "behindBlanks", "([BII)I"⟩, 9, prog_11_method_5_code, 6, (some .int), 3, true)
theorem Ja_155 : mjMt 155 = some J_155 := by rfl
theorem D_155_0 : decode J_155.2.2.1 0 = .ok (.iconst 0, 1) := dzq_3 (by decide +kernel)
theorem D_155_1 : decode J_155.2.2.1 1 = .ok (.istore_n 3, 1) := dzq_62 (by decide +kernel)
theorem D_155_2 : decode J_155.2.2.1 2 = .ok (.iload_n 1, 1) := dzq_27 (by decide +kernel)
theorem D_155_3 : decode J_155.2.2.1 3 = .ok (.istore 4, 2) := dzq_54 (by decide +kernel)
theorem D_155_5 : decode J_155.2.2.1 5 = .ok (.iload 4, 2) := dzq_21 (by decide +kernel)
theorem D_155_7 : decode J_155.2.2.1 7 = .ok (.iload_n 2, 1) := dzq_28 (by decide +kernel)
theorem D_155_8 : decode J_155.2.2.1 8 = .ok (.if_icmp .ge 53, 3) := dzq_162 (by decide +kernel)
theorem D_155_11 : decode J_155.2.2.1 11 = .ok (.aload_n 0, 1) := dzq_42 (by decide +kernel)
theorem D_155_12 : decode J_155.2.2.1 12 = .ok (.iload 4, 2) := dzq_21 (by decide +kernel)
theorem D_155_14 : decode J_155.2.2.1 14 = .ok (.baload, 1) := dzq_51 (by decide +kernel)
theorem D_155_15 : decode J_155.2.2.1 15 = .ok (.istore 5, 2) := dzq_54 (by decide +kernel)
theorem D_155_17 : decode J_155.2.2.1 17 = .ok (.iload 5, 2) := dzq_21 (by decide +kernel)
theorem D_155_19 : decode J_155.2.2.1 19 = .ok (.bipush 10, 2) := dzq_16 (by decide +kernel)
theorem D_155_21 : decode J_155.2.2.1 21 = .ok (.if_icmp .ne 8, 3) := dzq_160 (by decide +kernel)
theorem D_155_24 : decode J_155.2.2.1 24 = .ok (.iconst 0, 1) := dzq_3 (by decide +kernel)
theorem D_155_25 : decode J_155.2.2.1 25 = .ok (.istore_n 3, 1) := dzq_62 (by decide +kernel)
theorem D_155_26 : decode J_155.2.2.1 26 = .ok (.goto 29, 3) := dzq_167 (by decide +kernel)
theorem D_155_29 : decode J_155.2.2.1 29 = .ok (.iload 5, 2) := dzq_21 (by decide +kernel)
theorem D_155_31 : decode J_155.2.2.1 31 = .ok (.bipush 35, 2) := dzq_16 (by decide +kernel)
theorem D_155_33 : decode J_155.2.2.1 33 = .ok (.if_icmp .ne 8, 3) := dzq_160 (by decide +kernel)
theorem D_155_36 : decode J_155.2.2.1 36 = .ok (.iconst 1, 1) := dzq_4 (by decide +kernel)
theorem D_155_37 : decode J_155.2.2.1 37 = .ok (.istore_n 3, 1) := dzq_62 (by decide +kernel)
theorem D_155_38 : decode J_155.2.2.1 38 = .ok (.goto 17, 3) := dzq_167 (by decide +kernel)
theorem D_155_41 : decode J_155.2.2.1 41 = .ok (.iload_n 3, 1) := dzq_29 (by decide +kernel)
theorem D_155_42 : decode J_155.2.2.1 42 = .ok (.ifCond .ne 13, 3) := dzq_154 (by decide +kernel)
theorem D_155_45 : decode J_155.2.2.1 45 = .ok (.iload 5, 2) := dzq_21 (by decide +kernel)
theorem D_155_47 : decode J_155.2.2.1 47 = .ok (.bipush 32, 2) := dzq_16 (by decide +kernel)
theorem D_155_49 : decode J_155.2.2.1 49 = .ok (.if_icmp .eq 6, 3) := dzq_159 (by decide +kernel)
theorem D_155_52 : decode J_155.2.2.1 52 = .ok (.iload 4, 2) := dzq_21 (by decide +kernel)
theorem D_155_54 : decode J_155.2.2.1 54 = .ok (.ireturn, 1) := dzq_172 (by decide +kernel)
theorem D_155_55 : decode J_155.2.2.1 55 = .ok (.iinc 4 1, 3) := dzq_132 (by decide +kernel)
theorem D_155_58 : decode J_155.2.2.1 58 = .ok (.goto (-53), 3) := dzq_167 (by decide +kernel)
theorem D_155_61 : decode J_155.2.2.1 61 = .ok (.iload_n 2, 1) := dzq_28 (by decide +kernel)
theorem D_155_62 : decode J_155.2.2.1 62 = .ok (.ireturn, 1) := dzq_172 (by decide +kernel)
def P_155_55 (X : mjX) (d C S kc ks : Nat) (k : Nat → Int32 → Int32 → Int32 → mjH → mjU) : Prop := ∀ (l0 : Nat) (l2 : Int32) (l3 : Int32) (l4 : Int32) (hp : mjH) (q : Option Value × mjH), k l0 l2 l3 l4 hp = some q → mjG X d C S J_155 (mjEq q) 55 [some (.ref l0), none, some (.int l2), some (.int l3), some (.int l4), none] [] hp kc ks
def P_155_5 (X : mjX) (d C S kc ks : Nat) (k : Nat → Int32 → Int32 → Int32 → mjH → mjU) : Prop := ∀ (l0 : Nat) (l2 : Int32) (l3 : Int32) (l4 : Int32) (hp : mjH) (q : Option Value × mjH), k l0 l2 l3 l4 hp = some q → mjG X d C S J_155 (mjEq q) 5 [some (.ref l0), none, some (.int l2), some (.int l3), some (.int l4), none] [] hp kc ks
def P_155_0 (X : mjX) (d C S kc ks : Nat) (k : Nat → Int32 → Int32 → mjH → mjU) : Prop := ∀ (l0 : Nat) (l1 : Int32) (l2 : Int32) (hp : mjH) (q : Option Value × mjH), k l0 l1 l2 hp = some q → mjG X d C S J_155 (mjEq q) 0 [some (.ref l0), some (.int l1), some (.int l2), none, none, none] [] hp kc ks
noncomputable def b_155_55 (R : mjR) (k5 : Nat → Int32 → Int32 → Int32 → mjH → mjU) (l0 : Nat) (l2 : Int32) (l3 : Int32) (l4 : Int32) (hp : mjH) : mjU := k5 l0 l2 l3 (l4 + (1 : Int32)) hp
theorem t_155_55 {X : mjX} {d C S kc ks : Nat} {R : mjR} (hR : mjC R d) (h1 : kc ≤ C) (h2 : ks ≤ S) {k5 : Nat → Int32 → Int32 → Int32 → mjH → mjU} (hk5 : P_155_5 X (d + 1) C S kc ks k5) : P_155_55 X (d + 1) C S kc ks (b_155_55 R k5) := by
  intro l0 l2 l3 l4 hp q h
  unfold b_155_55 at h
  refine mjq_iinc (x := l4) (c := (1 : Int32)) (lo' := [some (.ref l0), none, some (.int l2), some (.int l3), some (.int (l4 + (1 : Int32))), none]) D_155_55 rfl (Nat.le_of_ble_eq_true rfl) rfl rfl ?_
  refine mjr_goto (tgt := 5) D_155_58 rfl ?_
  exact hk5 _ _ _ _ _ _ h
noncomputable def b_155_5 (R : mjR) (k5 : Nat → Int32 → Int32 → Int32 → mjH → mjU) (l0 : Nat) (l2 : Int32) (l3 : Int32) (l4 : Int32) (hp : mjH) : mjU := (if l2 ≤ l4 then some (some (.int l2), hp) else aB hp l0 l4 (fun v1 => (if v1 = (10 : Int32) then b_155_55 R k5 l0 l2 (0 : Int32) l4 hp else (if v1 = (35 : Int32) then b_155_55 R k5 l0 l2 (1 : Int32) l4 hp else (if l3 = 0 then (if v1 = (32 : Int32) then b_155_55 R k5 l0 l2 l3 l4 hp else some (some (.int l4), hp)) else b_155_55 R k5 l0 l2 l3 l4 hp)))))
theorem t_155_5 {X : mjX} {d C S kc ks : Nat} {R : mjR} (hR : mjC R d) (h1 : kc ≤ C) (h2 : ks ≤ S) {k5 : Nat → Int32 → Int32 → Int32 → mjH → mjU} (hk5 : P_155_5 X (d + 1) C S kc ks k5) : P_155_5 X (d + 1) C S kc ks (b_155_5 R k5) := by
  intro l0 l2 l3 l4 hp q h
  unfold b_155_5 at h
  refine mjr_iload (x := l4) D_155_5 rfl ?_
  refine mjr_iload_n (x := l2) D_155_7 rfl ?_
  refine mjq_icmp_ge (tgt := 61) D_155_8 rfl h (fun h => ?_) (fun h => ?_)
  · refine mjr_iload_n (x := l2) D_155_61 rfl ?_
    exact mjq_ret D_155_62 rfl h1 h2 h
  · refine mjr_aload_n (x := l0) D_155_11 rfl ?_
    refine mjr_iload (x := l4) D_155_12 rfl ?_
    refine mjq_aB D_155_14 h (fun v1 h => ?_)
    refine mjq_istore (lo' := [some (.ref l0), none, some (.int l2), some (.int l3), some (.int l4), some (.int v1)]) D_155_15 (Nat.le_of_ble_eq_true rfl) rfl ?_
    refine mjr_iload (x := v1) D_155_17 rfl ?_
    refine mjq_bi (v := (10 : Int32)) D_155_19 rfl ?_
    refine mjq_icmp_ne (tgt := 29) D_155_21 rfl h (fun h => ?_) (fun h => ?_)
    · refine mjr_iload (x := v1) D_155_29 rfl ?_
      refine mjq_bi (v := (35 : Int32)) D_155_31 rfl ?_
      refine mjq_icmp_ne (tgt := 41) D_155_33 rfl h (fun h => ?_) (fun h => ?_)
      · refine mjr_iload_n (x := l3) D_155_41 rfl ?_
        refine mjq_if_ne (tgt := 55) D_155_42 rfl h (fun h => ?_) (fun h => ?_)
        · exact mjG.fg (lo' := [some (.ref l0), none, some (.int l2), some (.int l3), some (.int l4), none]) (And.intro rfl (And.intro rfl (And.intro rfl (And.intro rfl True.intro)))) ((t_155_55 hR h1 h2 hk5) _ _ _ _ _ _ h)
        · refine mjr_iload (x := v1) D_155_45 rfl ?_
          refine mjq_bi (v := (32 : Int32)) D_155_47 rfl ?_
          refine mjq_icmp_eq (tgt := 55) D_155_49 rfl h (fun h => ?_) (fun h => ?_)
          · exact mjG.fg (lo' := [some (.ref l0), none, some (.int l2), some (.int l3), some (.int l4), none]) (And.intro rfl (And.intro rfl (And.intro rfl (And.intro rfl True.intro)))) ((t_155_55 hR h1 h2 hk5) _ _ _ _ _ _ h)
          · refine mjr_iload (x := l4) D_155_52 rfl ?_
            exact mjq_ret D_155_54 rfl h1 h2 h
      · refine mjq_ic (v := (1 : Int32)) D_155_36 rfl ?_
        refine mjq_istore_n (lo' := [some (.ref l0), none, some (.int l2), some (.int (1 : Int32)), some (.int l4), some (.int v1)]) D_155_37 (Nat.le_of_ble_eq_true rfl) rfl ?_
        refine mjr_goto (tgt := 55) D_155_38 rfl ?_
        exact mjG.fg (lo' := [some (.ref l0), none, some (.int l2), some (.int (1 : Int32)), some (.int l4), none]) (And.intro rfl (And.intro rfl (And.intro rfl (And.intro rfl True.intro)))) ((t_155_55 hR h1 h2 hk5) _ _ _ _ _ _ h)
    · refine mjq_ic (v := (0 : Int32)) D_155_24 rfl ?_
      refine mjq_istore_n (lo' := [some (.ref l0), none, some (.int l2), some (.int (0 : Int32)), some (.int l4), some (.int v1)]) D_155_25 (Nat.le_of_ble_eq_true rfl) rfl ?_
      refine mjr_goto (tgt := 55) D_155_26 rfl ?_
      exact mjG.fg (lo' := [some (.ref l0), none, some (.int l2), some (.int (0 : Int32)), some (.int l4), none]) (And.intro rfl (And.intro rfl (And.intro rfl (And.intro rfl True.intro)))) ((t_155_55 hR h1 h2 hk5) _ _ _ _ _ _ h)
noncomputable def L_155_5 (R : mjR) (n : Nat) : Nat → Int32 → Int32 → Int32 → mjH → mjU := Nat.rec (motive := fun _ => Nat → Int32 → Int32 → Int32 → mjH → mjU) (fun _ _ _ _ _ => none) (fun _ self => b_155_5 R self) n
theorem T_155_5 {X : mjX} {d C S kc ks : Nat} {R : mjR} (hR : mjC R d) (h1 : kc ≤ C) (h2 : ks ≤ S) (n : Nat) : P_155_5 X (d + 1) C S kc ks (L_155_5 R n) := by
  induction n with
  | zero => intro _ _ _ _ _ _ h; exact mj_no h
  | succ n ih => exact t_155_5 hR h1 h2 ih
noncomputable def b_155_0 (R : mjR) (l0 : Nat) (l1 : Int32) (l2 : Int32) (hp : mjH) : mjU := L_155_5 R mjN l0 l2 (0 : Int32) l1 hp
theorem t_155_0 {X : mjX} {d C S kc ks : Nat} {R : mjR} (hR : mjC R d) (h1 : kc ≤ C) (h2 : ks ≤ S) : P_155_0 X (d + 1) C S kc ks (b_155_0 R) := by
  intro l0 l1 l2 hp q h
  unfold b_155_0 at h
  refine mjq_ic (v := (0 : Int32)) D_155_0 rfl ?_
  refine mjq_istore_n (lo' := [some (.ref l0), some (.int l1), some (.int l2), some (.int (0 : Int32)), none, none]) D_155_1 (Nat.le_of_ble_eq_true rfl) rfl ?_
  refine mjr_iload_n (x := l1) D_155_2 rfl ?_
  refine mjq_istore (lo' := [some (.ref l0), some (.int l1), some (.int l2), some (.int (0 : Int32)), some (.int l1), none]) D_155_3 (Nat.le_of_ble_eq_true rfl) rfl ?_
  exact mjG.fg (lo' := [some (.ref l0), none, some (.int l2), some (.int (0 : Int32)), some (.int l1), none]) (And.intro rfl (And.intro rfl (And.intro rfl (And.intro rfl True.intro)))) ((T_155_5 hR h1 h2 mjN) _ _ _ _ _ _ h)
noncomputable def f_155 (R : mjR) (a0 : Nat) (a1 : Int32) (a2 : Int32) (hp : mjH) : mjU := b_155_0 R a0 a1 a2 hp
theorem c_155 {R : mjR} {d : Nat} (hR : mjC R d) {a0 : Nat} {a1 : Int32} {a2 : Int32} {hp : mjH} {q : Option Value × mjH} (h : f_155 R a0 a1 a2 hp = some q) : mjM (d + 1) 0 0 155 [.ref a0, .int a1, .int a2] hp (mjEq q) :=
  mjM_of Ja_155 (Nat.le_of_ble_eq_true rfl) (mjG.fg (lo' := [some (.ref a0), some (.int a1), some (.int a2), none, none, none]) (And.intro rfl (And.intro rfl (And.intro rfl True.intro))) ((t_155_0 hR (Nat.le_refl 0) (Nat.le_refl 0)) a0 a1 a2 hp q h))
def J_156 : mjI := (⟨"OwnerHeap$Tokens", "cutOne", "([BII)I"⟩, 9, prog_11_method_6_code, 6, (some .int), 3, false)
theorem Ja_156 : mjMt 156 = some J_156 := by rfl
theorem D_156_0 : decode J_156.2.2.1 0 = .ok (.aload_n 1, 1) := dzq_43 (by decide +kernel)
theorem D_156_1 : decode J_156.2.2.1 1 = .ok (.iload_n 2, 1) := dzq_28 (by decide +kernel)
theorem D_156_2 : decode J_156.2.2.1 2 = .ok (.baload, 1) := dzq_51 (by decide +kernel)
theorem D_156_3 : decode J_156.2.2.1 3 = .ok (.istore 4, 2) := dzq_54 (by decide +kernel)
theorem D_156_5 : decode J_156.2.2.1 5 = .ok (.iload 4, 2) := dzq_21 (by decide +kernel)
theorem D_156_7 : decode J_156.2.2.1 7 = .ok (.invokestatic 70, 3) := dzq_184 (by decide +kernel)
theorem D_156_10 : decode J_156.2.2.1 10 = .ok (.ifCond .eq 15, 3) := dzq_153 (by decide +kernel)
theorem D_156_13 : decode J_156.2.2.1 13 = .ok (.aload_n 0, 1) := dzq_42 (by decide +kernel)
theorem D_156_14 : decode J_156.2.2.1 14 = .ok (.aload_n 1, 1) := dzq_43 (by decide +kernel)
theorem D_156_15 : decode J_156.2.2.1 15 = .ok (.iload_n 2, 1) := dzq_28 (by decide +kernel)
theorem D_156_16 : decode J_156.2.2.1 16 = .ok (.iload_n 3, 1) := dzq_29 (by decide +kernel)
theorem D_156_17 : decode J_156.2.2.1 17 = .ok (.invokevirtual 74, 3) := dzq_182 (by decide +kernel)
theorem D_156_20 : decode J_156.2.2.1 20 = .ok (.istore 5, 2) := dzq_54 (by decide +kernel)
theorem D_156_22 : decode J_156.2.2.1 22 = .ok (.goto 32, 3) := dzq_167 (by decide +kernel)
theorem D_156_25 : decode J_156.2.2.1 25 = .ok (.iload 4, 2) := dzq_21 (by decide +kernel)
theorem D_156_27 : decode J_156.2.2.1 27 = .ok (.invokestatic 77, 3) := dzq_184 (by decide +kernel)
theorem D_156_30 : decode J_156.2.2.1 30 = .ok (.ifCond .eq 15, 3) := dzq_153 (by decide +kernel)
theorem D_156_33 : decode J_156.2.2.1 33 = .ok (.aload_n 0, 1) := dzq_42 (by decide +kernel)
theorem D_156_34 : decode J_156.2.2.1 34 = .ok (.aload_n 1, 1) := dzq_43 (by decide +kernel)
theorem D_156_35 : decode J_156.2.2.1 35 = .ok (.iload_n 2, 1) := dzq_28 (by decide +kernel)
theorem D_156_36 : decode J_156.2.2.1 36 = .ok (.iload_n 3, 1) := dzq_29 (by decide +kernel)
theorem D_156_37 : decode J_156.2.2.1 37 = .ok (.invokevirtual 80, 3) := dzq_182 (by decide +kernel)
theorem D_156_40 : decode J_156.2.2.1 40 = .ok (.istore 5, 2) := dzq_54 (by decide +kernel)
theorem D_156_42 : decode J_156.2.2.1 42 = .ok (.goto 12, 3) := dzq_167 (by decide +kernel)
theorem D_156_45 : decode J_156.2.2.1 45 = .ok (.aload_n 0, 1) := dzq_42 (by decide +kernel)
theorem D_156_46 : decode J_156.2.2.1 46 = .ok (.aload_n 1, 1) := dzq_43 (by decide +kernel)
theorem D_156_47 : decode J_156.2.2.1 47 = .ok (.iload_n 2, 1) := dzq_28 (by decide +kernel)
theorem D_156_48 : decode J_156.2.2.1 48 = .ok (.iload_n 3, 1) := dzq_29 (by decide +kernel)
theorem D_156_49 : decode J_156.2.2.1 49 = .ok (.invokevirtual 83, 3) := dzq_182 (by decide +kernel)
theorem D_156_52 : decode J_156.2.2.1 52 = .ok (.istore 5, 2) := dzq_54 (by decide +kernel)
theorem D_156_54 : decode J_156.2.2.1 54 = .ok (.iload 5, 2) := dzq_21 (by decide +kernel)
theorem D_156_56 : decode J_156.2.2.1 56 = .ok (.iconst (-1), 1) := dzq_2 (by decide +kernel)
theorem D_156_57 : decode J_156.2.2.1 57 = .ok (.if_icmp .ne 12, 3) := dzq_160 (by decide +kernel)
theorem D_156_60 : decode J_156.2.2.1 60 = .ok (.aload_n 0, 1) := dzq_42 (by decide +kernel)
theorem D_156_61 : decode J_156.2.2.1 61 = .ok (.iconst 1, 1) := dzq_4 (by decide +kernel)
theorem D_156_62 : decode J_156.2.2.1 62 = .ok (.iload_n 2, 1) := dzq_28 (by decide +kernel)
theorem D_156_63 : decode J_156.2.2.1 63 = .ok (.lconst 0, 1) := by decide +kernel
theorem D_156_64 : decode J_156.2.2.1 64 = .ok (.invokevirtual 66, 3) := dzq_182 (by decide +kernel)
theorem D_156_67 : decode J_156.2.2.1 67 = .ok (.iload_n 3, 1) := dzq_29 (by decide +kernel)
theorem D_156_68 : decode J_156.2.2.1 68 = .ok (.ireturn, 1) := dzq_172 (by decide +kernel)
theorem D_156_69 : decode J_156.2.2.1 69 = .ok (.iload 5, 2) := dzq_21 (by decide +kernel)
theorem D_156_71 : decode J_156.2.2.1 71 = .ok (.ireturn, 1) := dzq_172 (by decide +kernel)
def P_156_54 (X : mjX) (d C S kc ks : Nat) (k : Nat → Int32 → Int32 → Int32 → mjH → mjU) : Prop := ∀ (l0 : Nat) (l2 : Int32) (l3 : Int32) (l5 : Int32) (hp : mjH) (q : Option Value × mjH), k l0 l2 l3 l5 hp = some q → mjG X d C S J_156 (mjEq q) 54 [some (.ref l0), none, some (.int l2), some (.int l3), none, some (.int l5)] [] hp kc ks
def P_156_0 (X : mjX) (d C S kc ks : Nat) (k : Nat → Nat → Int32 → Int32 → mjH → mjU) : Prop := ∀ (l0 : Nat) (l1 : Nat) (l2 : Int32) (l3 : Int32) (hp : mjH) (q : Option Value × mjH), k l0 l1 l2 l3 hp = some q → mjG X d C S J_156 (mjEq q) 0 [some (.ref l0), some (.ref l1), some (.int l2), some (.int l3), none, none] [] hp kc ks
noncomputable def b_156_54 (R : mjR) (l0 : Nat) (l2 : Int32) (l3 : Int32) (l5 : Int32) (hp : mjH) : mjU := (if l5 = (-1 : Int32) then rV hp l0 9 (bN (R 161 [.ref l0, .int (1 : Int32), .int l2, .long (0 : Int64)] hp) (fun  hp1 => some (some (.int l3), hp1))) else some (some (.int l5), hp))
theorem t_156_54 {X : mjX} {d C S kc ks : Nat} {R : mjR} (hR : mjC R d) (h1 : kc ≤ C) (h2 : ks ≤ S) : P_156_54 X (d + 1) C S kc ks (b_156_54 R) := by
  intro l0 l2 l3 l5 hp q h
  unfold b_156_54 at h
  refine mjr_iload (x := l5) D_156_54 rfl ?_
  refine mjq_ic (v := (-1 : Int32)) D_156_56 rfl ?_
  refine mjq_icmp_ne (tgt := 69) D_156_57 rfl h (fun h => ?_) (fun h => ?_)
  · refine mjr_iload (x := l5) D_156_69 rfl ?_
    exact mjq_ret D_156_71 rfl h1 h2 h
  · refine mjr_aload_n (x := l0) D_156_60 rfl ?_
    refine mjq_ic (v := (1 : Int32)) D_156_61 rfl ?_
    refine mjr_iload_n (x := l2) D_156_62 rfl ?_
    refine mjq_lc (v := (0 : Int64)) D_156_63 rfl ?_
    refine mjq_vN (As := [.int (1 : Int32), .int l2, .long (0 : Int64)]) (rest := []) D_156_64 mr_9_66 V_161 rfl rfl rfl hR (Nat.le_refl _) h1 h2 h (fun  hp1 h => ?_)
    refine mjr_iload_n (x := l3) D_156_67 rfl ?_
    exact mjq_ret D_156_68 rfl h1 h2 h
noncomputable def b_156_0 (R : mjR) (l0 : Nat) (l1 : Nat) (l2 : Int32) (l3 : Int32) (hp : mjH) : mjU := aB hp l1 l2 (fun v1 => bI (R 157 [.int v1] hp) (fun v2 hp3 => (if v2 = 0 then bI (R 159 [.int v1] hp3) (fun v4 hp5 => (if v4 = 0 then rV hp5 l0 9 (bI (R 163 [.ref l0, .ref l1, .int l2, .int l3] hp5) (fun v6 hp7 => b_156_54 R l0 l2 l3 v6 hp7)) else rV hp5 l0 9 (bI (R 162 [.ref l0, .ref l1, .int l2, .int l3] hp5) (fun v8 hp9 => b_156_54 R l0 l2 l3 v8 hp9)))) else rV hp3 l0 9 (bI (R 158 [.ref l0, .ref l1, .int l2, .int l3] hp3) (fun v10 hp11 => b_156_54 R l0 l2 l3 v10 hp11)))))
theorem t_156_0 {X : mjX} {d C S kc ks : Nat} {R : mjR} (hR : mjC R d) (h1 : kc ≤ C) (h2 : ks ≤ S) : P_156_0 X (d + 1) C S kc ks (b_156_0 R) := by
  intro l0 l1 l2 l3 hp q h
  unfold b_156_0 at h
  refine mjr_aload_n (x := l1) D_156_0 rfl ?_
  refine mjr_iload_n (x := l2) D_156_1 rfl ?_
  refine mjq_aB D_156_2 h (fun v1 h => ?_)
  refine mjq_istore (lo' := [some (.ref l0), some (.ref l1), some (.int l2), some (.int l3), some (.int v1), none]) D_156_3 (Nat.le_of_ble_eq_true rfl) rfl ?_
  refine mjr_iload (x := v1) D_156_5 rfl ?_
  refine mjq_scI (As := [.int v1]) (rest := []) D_156_7 mr_9_70 V_157 rfl rfl rfl hR (Nat.le_refl _) h1 h2 h (fun v2 hp3 h => ?_)
  refine mjq_if_eq (tgt := 25) D_156_10 rfl h (fun h => ?_) (fun h => ?_)
  · refine mjr_iload (x := v1) D_156_25 rfl ?_
    refine mjq_scI (As := [.int v1]) (rest := []) D_156_27 mr_9_77 V_159 rfl rfl rfl hR (Nat.le_refl _) h1 h2 h (fun v4 hp5 h => ?_)
    refine mjq_if_eq (tgt := 45) D_156_30 rfl h (fun h => ?_) (fun h => ?_)
    · refine mjr_aload_n (x := l0) D_156_45 rfl ?_
      refine mjr_aload_n (x := l1) D_156_46 rfl ?_
      refine mjr_iload_n (x := l2) D_156_47 rfl ?_
      refine mjr_iload_n (x := l3) D_156_48 rfl ?_
      refine mjq_vI (As := [.ref l1, .int l2, .int l3]) (rest := []) D_156_49 mr_9_83 V_163 rfl rfl rfl hR (Nat.le_refl _) h1 h2 h (fun v6 hp7 h => ?_)
      refine mjq_istore (lo' := [some (.ref l0), some (.ref l1), some (.int l2), some (.int l3), some (.int v1), some (.int v6)]) D_156_52 (Nat.le_of_ble_eq_true rfl) rfl ?_
      exact mjG.fg (lo' := [some (.ref l0), none, some (.int l2), some (.int l3), none, some (.int v6)]) (And.intro rfl (And.intro rfl (And.intro rfl (And.intro rfl True.intro)))) ((t_156_54 hR h1 h2) _ _ _ _ _ _ h)
    · refine mjr_aload_n (x := l0) D_156_33 rfl ?_
      refine mjr_aload_n (x := l1) D_156_34 rfl ?_
      refine mjr_iload_n (x := l2) D_156_35 rfl ?_
      refine mjr_iload_n (x := l3) D_156_36 rfl ?_
      refine mjq_vI (As := [.ref l1, .int l2, .int l3]) (rest := []) D_156_37 mr_9_80 V_162 rfl rfl rfl hR (Nat.le_refl _) h1 h2 h (fun v8 hp9 h => ?_)
      refine mjq_istore (lo' := [some (.ref l0), some (.ref l1), some (.int l2), some (.int l3), some (.int v1), some (.int v8)]) D_156_40 (Nat.le_of_ble_eq_true rfl) rfl ?_
      refine mjr_goto (tgt := 54) D_156_42 rfl ?_
      exact mjG.fg (lo' := [some (.ref l0), none, some (.int l2), some (.int l3), none, some (.int v8)]) (And.intro rfl (And.intro rfl (And.intro rfl (And.intro rfl True.intro)))) ((t_156_54 hR h1 h2) _ _ _ _ _ _ h)
  · refine mjr_aload_n (x := l0) D_156_13 rfl ?_
    refine mjr_aload_n (x := l1) D_156_14 rfl ?_
    refine mjr_iload_n (x := l2) D_156_15 rfl ?_
    refine mjr_iload_n (x := l3) D_156_16 rfl ?_
    refine mjq_vI (As := [.ref l1, .int l2, .int l3]) (rest := []) D_156_17 mr_9_74 V_158 rfl rfl rfl hR (Nat.le_refl _) h1 h2 h (fun v10 hp11 h => ?_)
    refine mjq_istore (lo' := [some (.ref l0), some (.ref l1), some (.int l2), some (.int l3), some (.int v1), some (.int v10)]) D_156_20 (Nat.le_of_ble_eq_true rfl) rfl ?_
    refine mjr_goto (tgt := 54) D_156_22 rfl ?_
    exact mjG.fg (lo' := [some (.ref l0), none, some (.int l2), some (.int l3), none, some (.int v10)]) (And.intro rfl (And.intro rfl (And.intro rfl (And.intro rfl True.intro)))) ((t_156_54 hR h1 h2) _ _ _ _ _ _ h)
noncomputable def f_156 (R : mjR) (a0 : Nat) (a1 : Nat) (a2 : Int32) (a3 : Int32) (hp : mjH) : mjU := b_156_0 R a0 a1 a2 a3 hp
theorem c_156 {R : mjR} {d : Nat} (hR : mjC R d) {a0 : Nat} {a1 : Nat} {a2 : Int32} {a3 : Int32} {hp : mjH} {q : Option Value × mjH} (h : f_156 R a0 a1 a2 a3 hp = some q) : mjM (d + 1) 0 0 156 [.ref a0, .ref a1, .int a2, .int a3] hp (mjEq q) :=
  mjM_of Ja_156 (Nat.le_of_ble_eq_true rfl) (mjG.fg (lo' := [some (.ref a0), some (.ref a1), some (.int a2), some (.int a3), none, none]) (And.intro rfl (And.intro rfl (And.intro rfl (And.intro rfl True.intro)))) ((t_156_0 hR (Nat.le_refl 0) (Nat.le_refl 0)) a0 a1 a2 a3 hp q h))
def J_157 : mjI := (⟨"OwnerHeap$Tokens", "isLetter", "(I)Z"⟩, 9, prog_11_method_11_code, 1, (some .boolean), 1, true)
theorem Ja_157 : mjMt 157 = some J_157 := by rfl
theorem D_157_0 : decode J_157.2.2.1 0 = .ok (.iload_n 0, 1) := dzq_26 (by decide +kernel)
theorem D_157_1 : decode J_157.2.2.1 1 = .ok (.bipush 97, 2) := dzq_16 (by decide +kernel)
theorem D_157_3 : decode J_157.2.2.1 3 = .ok (.if_icmp .lt 9, 3) := dzq_161 (by decide +kernel)
theorem D_157_6 : decode J_157.2.2.1 6 = .ok (.iload_n 0, 1) := dzq_26 (by decide +kernel)
theorem D_157_7 : decode J_157.2.2.1 7 = .ok (.bipush 122, 2) := dzq_16 (by decide +kernel)
theorem D_157_9 : decode J_157.2.2.1 9 = .ok (.if_icmp .le 15, 3) := dzq_164 (by decide +kernel)
theorem D_157_12 : decode J_157.2.2.1 12 = .ok (.iload_n 0, 1) := dzq_26 (by decide +kernel)
theorem D_157_13 : decode J_157.2.2.1 13 = .ok (.bipush 65, 2) := dzq_16 (by decide +kernel)
theorem D_157_15 : decode J_157.2.2.1 15 = .ok (.if_icmp .lt 13, 3) := dzq_161 (by decide +kernel)
theorem D_157_18 : decode J_157.2.2.1 18 = .ok (.iload_n 0, 1) := dzq_26 (by decide +kernel)
theorem D_157_19 : decode J_157.2.2.1 19 = .ok (.bipush 90, 2) := dzq_16 (by decide +kernel)
theorem D_157_21 : decode J_157.2.2.1 21 = .ok (.if_icmp .gt 7, 3) := dzq_163 (by decide +kernel)
theorem D_157_24 : decode J_157.2.2.1 24 = .ok (.iconst 1, 1) := dzq_4 (by decide +kernel)
theorem D_157_25 : decode J_157.2.2.1 25 = .ok (.goto 4, 3) := dzq_167 (by decide +kernel)
theorem D_157_28 : decode J_157.2.2.1 28 = .ok (.iconst 0, 1) := dzq_3 (by decide +kernel)
theorem D_157_29 : decode J_157.2.2.1 29 = .ok (.ireturn, 1) := dzq_172 (by decide +kernel)
def P_157_28 (X : mjX) (d C S kc ks : Nat) (k : mjH → mjU) : Prop := ∀  (hp : mjH) (q : Option Value × mjH), k  hp = some q → mjG X d C S J_157 (mjEq q) 28 [none] [] hp kc ks
def P_157_24 (X : mjX) (d C S kc ks : Nat) (k : mjH → mjU) : Prop := ∀  (hp : mjH) (q : Option Value × mjH), k  hp = some q → mjG X d C S J_157 (mjEq q) 24 [none] [] hp kc ks
def P_157_12 (X : mjX) (d C S kc ks : Nat) (k : Int32 → mjH → mjU) : Prop := ∀ (l0 : Int32) (hp : mjH) (q : Option Value × mjH), k l0 hp = some q → mjG X d C S J_157 (mjEq q) 12 [some (.int l0)] [] hp kc ks
def P_157_0 (X : mjX) (d C S kc ks : Nat) (k : Int32 → mjH → mjU) : Prop := ∀ (l0 : Int32) (hp : mjH) (q : Option Value × mjH), k l0 hp = some q → mjG X d C S J_157 (mjEq q) 0 [some (.int l0)] [] hp kc ks
noncomputable def b_157_28 (R : mjR)  (hp : mjH) : mjU := some (some (.int (0 : Int32)), hp)
theorem t_157_28 {X : mjX} {d C S kc ks : Nat} {R : mjR} (hR : mjC R d) (h1 : kc ≤ C) (h2 : ks ≤ S) : P_157_28 X (d + 1) C S kc ks (b_157_28 R) := by
  intro  hp q h
  unfold b_157_28 at h
  refine mjq_ic (v := (0 : Int32)) D_157_28 rfl ?_
  exact mjr_ireturn D_157_29 rfl rfl h1 h2 (Option.some.inj h)
noncomputable def b_157_24 (R : mjR)  (hp : mjH) : mjU := some (some (.int (1 : Int32)), hp)
theorem t_157_24 {X : mjX} {d C S kc ks : Nat} {R : mjR} (hR : mjC R d) (h1 : kc ≤ C) (h2 : ks ≤ S) : P_157_24 X (d + 1) C S kc ks (b_157_24 R) := by
  intro  hp q h
  unfold b_157_24 at h
  refine mjq_ic (v := (1 : Int32)) D_157_24 rfl ?_
  refine mjr_goto (tgt := 29) D_157_25 rfl ?_
  exact mjr_ireturn D_157_29 rfl rfl h1 h2 (Option.some.inj h)
noncomputable def b_157_12 (R : mjR) (l0 : Int32) (hp : mjH) : mjU := (if l0 < (65 : Int32) then b_157_28 R hp else (if (90 : Int32) < l0 then b_157_28 R hp else b_157_24 R hp))
theorem t_157_12 {X : mjX} {d C S kc ks : Nat} {R : mjR} (hR : mjC R d) (h1 : kc ≤ C) (h2 : ks ≤ S) : P_157_12 X (d + 1) C S kc ks (b_157_12 R) := by
  intro l0 hp q h
  unfold b_157_12 at h
  refine mjr_iload_n (x := l0) D_157_12 rfl ?_
  refine mjq_bi (v := (65 : Int32)) D_157_13 rfl ?_
  refine mjq_icmp_lt (tgt := 28) D_157_15 rfl h (fun h => ?_) (fun h => ?_)
  · exact mjG.fg (lo' := [none]) True.intro ((t_157_28 hR h1 h2) _ _ h)
  · refine mjr_iload_n (x := l0) D_157_18 rfl ?_
    refine mjq_bi (v := (90 : Int32)) D_157_19 rfl ?_
    refine mjq_icmp_gt (tgt := 28) D_157_21 rfl h (fun h => ?_) (fun h => ?_)
    · exact mjG.fg (lo' := [none]) True.intro ((t_157_28 hR h1 h2) _ _ h)
    · exact mjG.fg (lo' := [none]) True.intro ((t_157_24 hR h1 h2) _ _ h)
noncomputable def b_157_0 (R : mjR) (l0 : Int32) (hp : mjH) : mjU := (if l0 < (97 : Int32) then b_157_12 R l0 hp else (if l0 ≤ (122 : Int32) then b_157_24 R hp else b_157_12 R l0 hp))
theorem t_157_0 {X : mjX} {d C S kc ks : Nat} {R : mjR} (hR : mjC R d) (h1 : kc ≤ C) (h2 : ks ≤ S) : P_157_0 X (d + 1) C S kc ks (b_157_0 R) := by
  intro l0 hp q h
  unfold b_157_0 at h
  refine mjr_iload_n (x := l0) D_157_0 rfl ?_
  refine mjq_bi (v := (97 : Int32)) D_157_1 rfl ?_
  refine mjq_icmp_lt (tgt := 12) D_157_3 rfl h (fun h => ?_) (fun h => ?_)
  · exact (t_157_12 hR h1 h2) _ _ _ h
  · refine mjr_iload_n (x := l0) D_157_6 rfl ?_
    refine mjq_bi (v := (122 : Int32)) D_157_7 rfl ?_
    refine mjq_icmp_le (tgt := 24) D_157_9 rfl h (fun h => ?_) (fun h => ?_)
    · exact mjG.fg (lo' := [none]) True.intro ((t_157_24 hR h1 h2) _ _ h)
    · exact (t_157_12 hR h1 h2) _ _ _ h
noncomputable def f_157 (R : mjR) (a0 : Int32) (hp : mjH) : mjU := b_157_0 R a0 hp
theorem c_157 {R : mjR} {d : Nat} (hR : mjC R d) {a0 : Int32} {hp : mjH} {q : Option Value × mjH} (h : f_157 R a0 hp = some q) : mjM (d + 1) 0 0 157 [.int a0] hp (mjEq q) :=
  mjM_of Ja_157 (Nat.le_of_ble_eq_true rfl) (mjG.fg (lo' := [some (.int a0)]) (And.intro rfl True.intro) ((t_157_0 hR (Nat.le_refl 0) (Nat.le_refl 0)) a0 hp q h))
def J_158 : mjI := (⟨"OwnerHeap$Tokens", "cutName", "([BII)I"⟩, 9, prog_11_method_7_code, 7, (some .int), 3, false)
theorem Ja_158 : mjMt 158 = some J_158 := by rfl
theorem D_158_0 : decode J_158.2.2.1 0 = .ok (.lconst 0, 1) := by decide +kernel
theorem D_158_1 : decode J_158.2.2.1 1 = .ok (.lstore 4, 2) := by decide +kernel
theorem D_158_3 : decode J_158.2.2.1 3 = .ok (.iload_n 2, 1) := dzq_28 (by decide +kernel)
theorem D_158_4 : decode J_158.2.2.1 4 = .ok (.istore 6, 2) := dzq_54 (by decide +kernel)
theorem D_158_6 : decode J_158.2.2.1 6 = .ok (.iload 6, 2) := dzq_21 (by decide +kernel)
theorem D_158_8 : decode J_158.2.2.1 8 = .ok (.iload_n 3, 1) := dzq_29 (by decide +kernel)
theorem D_158_9 : decode J_158.2.2.1 9 = .ok (.if_icmp .ge 40, 3) := dzq_162 (by decide +kernel)
theorem D_158_12 : decode J_158.2.2.1 12 = .ok (.aload_n 1, 1) := dzq_43 (by decide +kernel)
theorem D_158_13 : decode J_158.2.2.1 13 = .ok (.iload 6, 2) := dzq_21 (by decide +kernel)
theorem D_158_15 : decode J_158.2.2.1 15 = .ok (.baload, 1) := dzq_51 (by decide +kernel)
theorem D_158_16 : decode J_158.2.2.1 16 = .ok (.invokestatic 70, 3) := dzq_184 (by decide +kernel)
theorem D_158_19 : decode J_158.2.2.1 19 = .ok (.ifCond .ne 13, 3) := dzq_154 (by decide +kernel)
theorem D_158_22 : decode J_158.2.2.1 22 = .ok (.aload_n 1, 1) := dzq_43 (by decide +kernel)
theorem D_158_23 : decode J_158.2.2.1 23 = .ok (.iload 6, 2) := dzq_21 (by decide +kernel)
theorem D_158_25 : decode J_158.2.2.1 25 = .ok (.baload, 1) := dzq_51 (by decide +kernel)
theorem D_158_26 : decode J_158.2.2.1 26 = .ok (.invokestatic 77, 3) := dzq_184 (by decide +kernel)
theorem D_158_29 : decode J_158.2.2.1 29 = .ok (.ifCond .eq 20, 3) := dzq_153 (by decide +kernel)
theorem D_158_32 : decode J_158.2.2.1 32 = .ok (.lload 4, 2) := by decide +kernel
theorem D_158_34 : decode J_158.2.2.1 34 = .ok (.aload_n 1, 1) := dzq_43 (by decide +kernel)
theorem D_158_35 : decode J_158.2.2.1 35 = .ok (.iload 6, 2) := dzq_21 (by decide +kernel)
theorem D_158_37 : decode J_158.2.2.1 37 = .ok (.baload, 1) := dzq_51 (by decide +kernel)
theorem D_158_38 : decode J_158.2.2.1 38 = .ok (.invokestatic 40, 3) := dzq_184 (by decide +kernel)
theorem D_158_41 : decode J_158.2.2.1 41 = .ok (.lstore 4, 2) := by decide +kernel
theorem D_158_43 : decode J_158.2.2.1 43 = .ok (.iinc 6 1, 3) := dzq_132 (by decide +kernel)
theorem D_158_46 : decode J_158.2.2.1 46 = .ok (.goto (-40), 3) := dzq_167 (by decide +kernel)
theorem D_158_49 : decode J_158.2.2.1 49 = .ok (.iload 6, 2) := dzq_21 (by decide +kernel)
theorem D_158_51 : decode J_158.2.2.1 51 = .ok (.iload_n 2, 1) := dzq_28 (by decide +kernel)
theorem D_158_52 : decode J_158.2.2.1 52 = .ok (.isub, 1) := dzq_100 (by decide +kernel)
theorem D_158_53 : decode J_158.2.2.1 53 = .ok (.bipush 10, 2) := dzq_16 (by decide +kernel)
theorem D_158_55 : decode J_158.2.2.1 55 = .ok (.if_icmp .le 5, 3) := dzq_164 (by decide +kernel)
theorem D_158_58 : decode J_158.2.2.1 58 = .ok (.iconst (-1), 1) := dzq_2 (by decide +kernel)
theorem D_158_59 : decode J_158.2.2.1 59 = .ok (.ireturn, 1) := dzq_172 (by decide +kernel)
theorem D_158_60 : decode J_158.2.2.1 60 = .ok (.aload_n 0, 1) := dzq_42 (by decide +kernel)
theorem D_158_61 : decode J_158.2.2.1 61 = .ok (.aload_n 1, 1) := dzq_43 (by decide +kernel)
theorem D_158_62 : decode J_158.2.2.1 62 = .ok (.iload_n 2, 1) := dzq_28 (by decide +kernel)
theorem D_158_63 : decode J_158.2.2.1 63 = .ok (.baload, 1) := dzq_51 (by decide +kernel)
theorem D_158_64 : decode J_158.2.2.1 64 = .ok (.bipush 90, 2) := dzq_16 (by decide +kernel)
theorem D_158_66 : decode J_158.2.2.1 66 = .ok (.if_icmp .gt 7, 3) := dzq_163 (by decide +kernel)
theorem D_158_69 : decode J_158.2.2.1 69 = .ok (.iconst 2, 1) := dzq_5 (by decide +kernel)
theorem D_158_70 : decode J_158.2.2.1 70 = .ok (.goto 9, 3) := dzq_167 (by decide +kernel)
theorem D_158_73 : decode J_158.2.2.1 73 = .ok (.aload_n 0, 1) := dzq_42 (by decide +kernel)
theorem D_158_74 : decode J_158.2.2.1 74 = .ok (.lload 4, 2) := by decide +kernel
theorem D_158_76 : decode J_158.2.2.1 76 = .ok (.invokevirtual 86, 3) := dzq_182 (by decide +kernel)
theorem D_158_79 : decode J_158.2.2.1 79 = .ok (.iload_n 2, 1) := dzq_28 (by decide +kernel)
theorem D_158_80 : decode J_158.2.2.1 80 = .ok (.lload 4, 2) := by decide +kernel
theorem D_158_82 : decode J_158.2.2.1 82 = .ok (.invokevirtual 66, 3) := dzq_182 (by decide +kernel)
theorem D_158_85 : decode J_158.2.2.1 85 = .ok (.iload 6, 2) := dzq_21 (by decide +kernel)
theorem D_158_87 : decode J_158.2.2.1 87 = .ok (.ireturn, 1) := dzq_172 (by decide +kernel)
def P_158_79 (X : mjX) (d C S kc ks : Nat) (k : Int32 → Int64 → Int32 → Nat → Int32 → mjH → mjU) : Prop := ∀ (l2 : Int32) (l4 : Int64) (l6 : Int32) (s0 : Nat) (s1 : Int32) (hp : mjH) (q : Option Value × mjH), k l2 l4 l6 s0 s1 hp = some q → mjG X d C S J_158 (mjEq q) 79 [none, none, some (.int l2), none, some (.long l4), none, some (.int l6)] [.int s1, .ref s0] hp kc ks
def P_158_49 (X : mjX) (d C S kc ks : Nat) (k : Nat → Nat → Int32 → Int64 → Int32 → mjH → mjU) : Prop := ∀ (l0 : Nat) (l1 : Nat) (l2 : Int32) (l4 : Int64) (l6 : Int32) (hp : mjH) (q : Option Value × mjH), k l0 l1 l2 l4 l6 hp = some q → mjG X d C S J_158 (mjEq q) 49 [some (.ref l0), some (.ref l1), some (.int l2), none, some (.long l4), none, some (.int l6)] [] hp kc ks
def P_158_32 (X : mjX) (d C S kc ks : Nat) (k : Nat → Nat → Int32 → Int32 → Int64 → Int32 → mjH → mjU) : Prop := ∀ (l0 : Nat) (l1 : Nat) (l2 : Int32) (l3 : Int32) (l4 : Int64) (l6 : Int32) (hp : mjH) (q : Option Value × mjH), k l0 l1 l2 l3 l4 l6 hp = some q → mjG X d C S J_158 (mjEq q) 32 [some (.ref l0), some (.ref l1), some (.int l2), some (.int l3), some (.long l4), none, some (.int l6)] [] hp kc ks
def P_158_6 (X : mjX) (d C S kc ks : Nat) (k : Nat → Nat → Int32 → Int32 → Int64 → Int32 → mjH → mjU) : Prop := ∀ (l0 : Nat) (l1 : Nat) (l2 : Int32) (l3 : Int32) (l4 : Int64) (l6 : Int32) (hp : mjH) (q : Option Value × mjH), k l0 l1 l2 l3 l4 l6 hp = some q → mjG X d C S J_158 (mjEq q) 6 [some (.ref l0), some (.ref l1), some (.int l2), some (.int l3), some (.long l4), none, some (.int l6)] [] hp kc ks
def P_158_0 (X : mjX) (d C S kc ks : Nat) (k : Nat → Nat → Int32 → Int32 → mjH → mjU) : Prop := ∀ (l0 : Nat) (l1 : Nat) (l2 : Int32) (l3 : Int32) (hp : mjH) (q : Option Value × mjH), k l0 l1 l2 l3 hp = some q → mjG X d C S J_158 (mjEq q) 0 [some (.ref l0), some (.ref l1), some (.int l2), some (.int l3), none, none, none] [] hp kc ks
noncomputable def b_158_79 (R : mjR) (l2 : Int32) (l4 : Int64) (l6 : Int32) (s0 : Nat) (s1 : Int32) (hp : mjH) : mjU := rV hp s0 9 (bN (R 161 [.ref s0, .int s1, .int l2, .long l4] hp) (fun  hp1 => some (some (.int l6), hp1)))
theorem t_158_79 {X : mjX} {d C S kc ks : Nat} {R : mjR} (hR : mjC R d) (h1 : kc ≤ C) (h2 : ks ≤ S) : P_158_79 X (d + 1) C S kc ks (b_158_79 R) := by
  intro l2 l4 l6 s0 s1 hp q h
  unfold b_158_79 at h
  refine mjr_iload_n (x := l2) D_158_79 rfl ?_
  refine mjr_lload (x := l4) D_158_80 rfl ?_
  refine mjq_vN (As := [.int s1, .int l2, .long l4]) (rest := []) D_158_82 mr_9_66 V_161 rfl rfl rfl hR (Nat.le_refl _) h1 h2 h (fun  hp1 h => ?_)
  refine mjr_iload (x := l6) D_158_85 rfl ?_
  exact mjq_ret D_158_87 rfl h1 h2 h
noncomputable def b_158_49 (R : mjR) (l0 : Nat) (l1 : Nat) (l2 : Int32) (l4 : Int64) (l6 : Int32) (hp : mjH) : mjU := (if (l6 - l2) ≤ (10 : Int32) then aB hp l1 l2 (fun v1 => (if (90 : Int32) < v1 then rV hp l0 9 (bI (R 160 [.ref l0, .long l4] hp) (fun v2 hp3 => b_158_79 R l2 l4 l6 l0 v2 hp3)) else b_158_79 R l2 l4 l6 l0 (2 : Int32) hp)) else some (some (.int (-1 : Int32)), hp))
theorem t_158_49 {X : mjX} {d C S kc ks : Nat} {R : mjR} (hR : mjC R d) (h1 : kc ≤ C) (h2 : ks ≤ S) : P_158_49 X (d + 1) C S kc ks (b_158_49 R) := by
  intro l0 l1 l2 l4 l6 hp q h
  unfold b_158_49 at h
  refine mjr_iload (x := l6) D_158_49 rfl ?_
  refine mjr_iload_n (x := l2) D_158_51 rfl ?_
  refine mjr_isub D_158_52 ?_
  refine mjq_bi (v := (10 : Int32)) D_158_53 rfl ?_
  refine mjq_icmp_le (tgt := 60) D_158_55 rfl h (fun h => ?_) (fun h => ?_)
  · refine mjr_aload_n (x := l0) D_158_60 rfl ?_
    refine mjr_aload_n (x := l1) D_158_61 rfl ?_
    refine mjr_iload_n (x := l2) D_158_62 rfl ?_
    refine mjq_aB D_158_63 h (fun v1 h => ?_)
    refine mjq_bi (v := (90 : Int32)) D_158_64 rfl ?_
    refine mjq_icmp_gt (tgt := 73) D_158_66 rfl h (fun h => ?_) (fun h => ?_)
    · refine mjr_aload_n (x := l0) D_158_73 rfl ?_
      refine mjr_lload (x := l4) D_158_74 rfl ?_
      refine mjq_vI (As := [.long l4]) (rest := [.ref l0]) D_158_76 mr_9_86 V_160 rfl rfl rfl hR (Nat.le_refl _) h1 h2 h (fun v2 hp3 h => ?_)
      exact mjG.fg (lo' := [none, none, some (.int l2), none, some (.long l4), none, some (.int l6)]) (And.intro rfl (And.intro rfl (And.intro rfl True.intro))) ((t_158_79 hR h1 h2) _ _ _ _ _ _ _ h)
    · refine mjq_ic (v := (2 : Int32)) D_158_69 rfl ?_
      refine mjr_goto (tgt := 79) D_158_70 rfl ?_
      exact mjG.fg (lo' := [none, none, some (.int l2), none, some (.long l4), none, some (.int l6)]) (And.intro rfl (And.intro rfl (And.intro rfl True.intro))) ((t_158_79 hR h1 h2) _ _ _ _ _ _ _ h)
  · refine mjq_ic (v := (-1 : Int32)) D_158_58 rfl ?_
    exact mjq_ret D_158_59 rfl h1 h2 h
noncomputable def b_158_32 (R : mjR) (k6 : Nat → Nat → Int32 → Int32 → Int64 → Int32 → mjH → mjU) (l0 : Nat) (l1 : Nat) (l2 : Int32) (l3 : Int32) (l4 : Int64) (l6 : Int32) (hp : mjH) : mjU := aB hp l1 l6 (fun v1 => bL (R 153 [.long l4, .int v1] hp) (fun v2 hp3 => k6 l0 l1 l2 l3 v2 (l6 + (1 : Int32)) hp3))
theorem t_158_32 {X : mjX} {d C S kc ks : Nat} {R : mjR} (hR : mjC R d) (h1 : kc ≤ C) (h2 : ks ≤ S) {k6 : Nat → Nat → Int32 → Int32 → Int64 → Int32 → mjH → mjU} (hk6 : P_158_6 X (d + 1) C S kc ks k6) : P_158_32 X (d + 1) C S kc ks (b_158_32 R k6) := by
  intro l0 l1 l2 l3 l4 l6 hp q h
  unfold b_158_32 at h
  refine mjr_lload (x := l4) D_158_32 rfl ?_
  refine mjr_aload_n (x := l1) D_158_34 rfl ?_
  refine mjr_iload (x := l6) D_158_35 rfl ?_
  refine mjq_aB D_158_37 h (fun v1 h => ?_)
  refine mjq_scL (As := [.long l4, .int v1]) (rest := []) D_158_38 mr_9_40 V_153 rfl rfl rfl hR (Nat.le_refl _) h1 h2 h (fun v2 hp3 h => ?_)
  refine mjq_lstore (lo' := [some (.ref l0), some (.ref l1), some (.int l2), some (.int l3), some (.long v2), none, some (.int l6)]) D_158_41 (Nat.le_of_ble_eq_true rfl) rfl ?_
  refine mjq_iinc (x := l6) (c := (1 : Int32)) (lo' := [some (.ref l0), some (.ref l1), some (.int l2), some (.int l3), some (.long v2), none, some (.int (l6 + (1 : Int32)))]) D_158_43 rfl (Nat.le_of_ble_eq_true rfl) rfl rfl ?_
  refine mjr_goto (tgt := 6) D_158_46 rfl ?_
  exact hk6 _ _ _ _ _ _ _ _ h
noncomputable def b_158_6 (R : mjR) (k6 : Nat → Nat → Int32 → Int32 → Int64 → Int32 → mjH → mjU) (l0 : Nat) (l1 : Nat) (l2 : Int32) (l3 : Int32) (l4 : Int64) (l6 : Int32) (hp : mjH) : mjU := (if l3 ≤ l6 then b_158_49 R l0 l1 l2 l4 l6 hp else aB hp l1 l6 (fun v1 => bI (R 157 [.int v1] hp) (fun v2 hp3 => (if v2 = 0 then aB hp3 l1 l6 (fun v4 => bI (R 159 [.int v4] hp3) (fun v5 hp6 => (if v5 = 0 then b_158_49 R l0 l1 l2 l4 l6 hp6 else b_158_32 R k6 l0 l1 l2 l3 l4 l6 hp6))) else b_158_32 R k6 l0 l1 l2 l3 l4 l6 hp3))))
theorem t_158_6 {X : mjX} {d C S kc ks : Nat} {R : mjR} (hR : mjC R d) (h1 : kc ≤ C) (h2 : ks ≤ S) {k6 : Nat → Nat → Int32 → Int32 → Int64 → Int32 → mjH → mjU} (hk6 : P_158_6 X (d + 1) C S kc ks k6) : P_158_6 X (d + 1) C S kc ks (b_158_6 R k6) := by
  intro l0 l1 l2 l3 l4 l6 hp q h
  unfold b_158_6 at h
  refine mjr_iload (x := l6) D_158_6 rfl ?_
  refine mjr_iload_n (x := l3) D_158_8 rfl ?_
  refine mjq_icmp_ge (tgt := 49) D_158_9 rfl h (fun h => ?_) (fun h => ?_)
  · exact mjG.fg (lo' := [some (.ref l0), some (.ref l1), some (.int l2), none, some (.long l4), none, some (.int l6)]) (And.intro rfl (And.intro rfl (And.intro rfl (And.intro rfl (And.intro rfl True.intro))))) ((t_158_49 hR h1 h2) _ _ _ _ _ _ _ h)
  · refine mjr_aload_n (x := l1) D_158_12 rfl ?_
    refine mjr_iload (x := l6) D_158_13 rfl ?_
    refine mjq_aB D_158_15 h (fun v1 h => ?_)
    refine mjq_scI (As := [.int v1]) (rest := []) D_158_16 mr_9_70 V_157 rfl rfl rfl hR (Nat.le_refl _) h1 h2 h (fun v2 hp3 h => ?_)
    refine mjq_if_ne (tgt := 32) D_158_19 rfl h (fun h => ?_) (fun h => ?_)
    · exact (t_158_32 hR h1 h2 hk6) _ _ _ _ _ _ _ _ h
    · refine mjr_aload_n (x := l1) D_158_22 rfl ?_
      refine mjr_iload (x := l6) D_158_23 rfl ?_
      refine mjq_aB D_158_25 h (fun v4 h => ?_)
      refine mjq_scI (As := [.int v4]) (rest := []) D_158_26 mr_9_77 V_159 rfl rfl rfl hR (Nat.le_refl _) h1 h2 h (fun v5 hp6 h => ?_)
      refine mjq_if_eq (tgt := 49) D_158_29 rfl h (fun h => ?_) (fun h => ?_)
      · exact mjG.fg (lo' := [some (.ref l0), some (.ref l1), some (.int l2), none, some (.long l4), none, some (.int l6)]) (And.intro rfl (And.intro rfl (And.intro rfl (And.intro rfl (And.intro rfl True.intro))))) ((t_158_49 hR h1 h2) _ _ _ _ _ _ _ h)
      · exact (t_158_32 hR h1 h2 hk6) _ _ _ _ _ _ _ _ h
noncomputable def L_158_6 (R : mjR) (n : Nat) : Nat → Nat → Int32 → Int32 → Int64 → Int32 → mjH → mjU := Nat.rec (motive := fun _ => Nat → Nat → Int32 → Int32 → Int64 → Int32 → mjH → mjU) (fun _ _ _ _ _ _ _ => none) (fun _ self => b_158_6 R self) n
theorem T_158_6 {X : mjX} {d C S kc ks : Nat} {R : mjR} (hR : mjC R d) (h1 : kc ≤ C) (h2 : ks ≤ S) (n : Nat) : P_158_6 X (d + 1) C S kc ks (L_158_6 R n) := by
  induction n with
  | zero => intro _ _ _ _ _ _ _ _ h; exact mj_no h
  | succ n ih => exact t_158_6 hR h1 h2 ih
noncomputable def b_158_0 (R : mjR) (l0 : Nat) (l1 : Nat) (l2 : Int32) (l3 : Int32) (hp : mjH) : mjU := L_158_6 R mjN l0 l1 l2 l3 (0 : Int64) l2 hp
theorem t_158_0 {X : mjX} {d C S kc ks : Nat} {R : mjR} (hR : mjC R d) (h1 : kc ≤ C) (h2 : ks ≤ S) : P_158_0 X (d + 1) C S kc ks (b_158_0 R) := by
  intro l0 l1 l2 l3 hp q h
  unfold b_158_0 at h
  refine mjq_lc (v := (0 : Int64)) D_158_0 rfl ?_
  refine mjq_lstore (lo' := [some (.ref l0), some (.ref l1), some (.int l2), some (.int l3), some (.long (0 : Int64)), none, none]) D_158_1 (Nat.le_of_ble_eq_true rfl) rfl ?_
  refine mjr_iload_n (x := l2) D_158_3 rfl ?_
  refine mjq_istore (lo' := [some (.ref l0), some (.ref l1), some (.int l2), some (.int l3), some (.long (0 : Int64)), none, some (.int l2)]) D_158_4 (Nat.le_of_ble_eq_true rfl) rfl ?_
  exact (T_158_6 hR h1 h2 mjN) _ _ _ _ _ _ _ _ h
noncomputable def f_158 (R : mjR) (a0 : Nat) (a1 : Nat) (a2 : Int32) (a3 : Int32) (hp : mjH) : mjU := b_158_0 R a0 a1 a2 a3 hp
theorem c_158 {R : mjR} {d : Nat} (hR : mjC R d) {a0 : Nat} {a1 : Nat} {a2 : Int32} {a3 : Int32} {hp : mjH} {q : Option Value × mjH} (h : f_158 R a0 a1 a2 a3 hp = some q) : mjM (d + 1) 0 0 158 [.ref a0, .ref a1, .int a2, .int a3] hp (mjEq q) :=
  mjM_of Ja_158 (Nat.le_of_ble_eq_true rfl) (mjG.fg (lo' := [some (.ref a0), some (.ref a1), some (.int a2), some (.int a3), none, none, none]) (And.intro rfl (And.intro rfl (And.intro rfl (And.intro rfl True.intro)))) ((t_158_0 hR (Nat.le_refl 0) (Nat.le_refl 0)) a0 a1 a2 a3 hp q h))
def J_159 : mjI := (⟨"OwnerHeap$Tokens", "isDigit", "(I)Z"⟩, 9, prog_11_method_12_code, 1, (some .boolean), 1, true)
theorem Ja_159 : mjMt 159 = some J_159 := by rfl
theorem D_159_0 : decode J_159.2.2.1 0 = .ok (.iload_n 0, 1) := dzq_26 (by decide +kernel)
theorem D_159_1 : decode J_159.2.2.1 1 = .ok (.bipush 48, 2) := dzq_16 (by decide +kernel)
theorem D_159_3 : decode J_159.2.2.1 3 = .ok (.if_icmp .lt 13, 3) := dzq_161 (by decide +kernel)
theorem D_159_6 : decode J_159.2.2.1 6 = .ok (.iload_n 0, 1) := dzq_26 (by decide +kernel)
theorem D_159_7 : decode J_159.2.2.1 7 = .ok (.bipush 57, 2) := dzq_16 (by decide +kernel)
theorem D_159_9 : decode J_159.2.2.1 9 = .ok (.if_icmp .gt 7, 3) := dzq_163 (by decide +kernel)
theorem D_159_12 : decode J_159.2.2.1 12 = .ok (.iconst 1, 1) := dzq_4 (by decide +kernel)
theorem D_159_13 : decode J_159.2.2.1 13 = .ok (.goto 4, 3) := dzq_167 (by decide +kernel)
theorem D_159_16 : decode J_159.2.2.1 16 = .ok (.iconst 0, 1) := dzq_3 (by decide +kernel)
theorem D_159_17 : decode J_159.2.2.1 17 = .ok (.ireturn, 1) := dzq_172 (by decide +kernel)
def P_159_16 (X : mjX) (d C S kc ks : Nat) (k : mjH → mjU) : Prop := ∀  (hp : mjH) (q : Option Value × mjH), k  hp = some q → mjG X d C S J_159 (mjEq q) 16 [none] [] hp kc ks
def P_159_0 (X : mjX) (d C S kc ks : Nat) (k : Int32 → mjH → mjU) : Prop := ∀ (l0 : Int32) (hp : mjH) (q : Option Value × mjH), k l0 hp = some q → mjG X d C S J_159 (mjEq q) 0 [some (.int l0)] [] hp kc ks
noncomputable def b_159_16 (R : mjR)  (hp : mjH) : mjU := some (some (.int (0 : Int32)), hp)
theorem t_159_16 {X : mjX} {d C S kc ks : Nat} {R : mjR} (hR : mjC R d) (h1 : kc ≤ C) (h2 : ks ≤ S) : P_159_16 X (d + 1) C S kc ks (b_159_16 R) := by
  intro  hp q h
  unfold b_159_16 at h
  refine mjq_ic (v := (0 : Int32)) D_159_16 rfl ?_
  exact mjr_ireturn D_159_17 rfl rfl h1 h2 (Option.some.inj h)
noncomputable def b_159_0 (R : mjR) (l0 : Int32) (hp : mjH) : mjU := (if l0 < (48 : Int32) then b_159_16 R hp else (if (57 : Int32) < l0 then b_159_16 R hp else some (some (.int (1 : Int32)), hp)))
theorem t_159_0 {X : mjX} {d C S kc ks : Nat} {R : mjR} (hR : mjC R d) (h1 : kc ≤ C) (h2 : ks ≤ S) : P_159_0 X (d + 1) C S kc ks (b_159_0 R) := by
  intro l0 hp q h
  unfold b_159_0 at h
  refine mjr_iload_n (x := l0) D_159_0 rfl ?_
  refine mjq_bi (v := (48 : Int32)) D_159_1 rfl ?_
  refine mjq_icmp_lt (tgt := 16) D_159_3 rfl h (fun h => ?_) (fun h => ?_)
  · exact mjG.fg (lo' := [none]) True.intro ((t_159_16 hR h1 h2) _ _ h)
  · refine mjr_iload_n (x := l0) D_159_6 rfl ?_
    refine mjq_bi (v := (57 : Int32)) D_159_7 rfl ?_
    refine mjq_icmp_gt (tgt := 16) D_159_9 rfl h (fun h => ?_) (fun h => ?_)
    · exact mjG.fg (lo' := [none]) True.intro ((t_159_16 hR h1 h2) _ _ h)
    · refine mjq_ic (v := (1 : Int32)) D_159_12 rfl ?_
      refine mjr_goto (tgt := 17) D_159_13 rfl ?_
      exact mjr_ireturn D_159_17 rfl rfl h1 h2 (Option.some.inj h)
noncomputable def f_159 (R : mjR) (a0 : Int32) (hp : mjH) : mjU := b_159_0 R a0 hp
theorem c_159 {R : mjR} {d : Nat} (hR : mjC R d) {a0 : Int32} {hp : mjH} {q : Option Value × mjH} (h : f_159 R a0 hp = some q) : mjM (d + 1) 0 0 159 [.int a0] hp (mjEq q) :=
  mjM_of Ja_159 (Nat.le_of_ble_eq_true rfl) (mjG.fg (lo' := [some (.int a0)]) (And.intro rfl True.intro) ((t_159_0 hR (Nat.le_refl 0) (Nat.le_refl 0)) a0 hp q h))
def J_160 : mjI := (⟨"OwnerHeap$Tokens", "wordOrName", "(J)I"⟩, 9, prog_11_method_8_code, 4, (some .int), 1, false)
theorem Ja_160 : mjMt 160 = some J_160 := by rfl
theorem D_160_0 : decode J_160.2.2.1 0 = .ok (.iconst 0, 1) := dzq_3 (by decide +kernel)
theorem D_160_1 : decode J_160.2.2.1 1 = .ok (.istore_n 3, 1) := dzq_62 (by decide +kernel)
theorem D_160_2 : decode J_160.2.2.1 2 = .ok (.iload_n 3, 1) := dzq_29 (by decide +kernel)
theorem D_160_3 : decode J_160.2.2.1 3 = .ok (.bipush 16, 2) := dzq_16 (by decide +kernel)
theorem D_160_5 : decode J_160.2.2.1 5 = .ok (.if_icmp .ge 24, 3) := dzq_162 (by decide +kernel)
theorem D_160_8 : decode J_160.2.2.1 8 = .ok (.aload_n 0, 1) := dzq_42 (by decide +kernel)
theorem D_160_9 : decode J_160.2.2.1 9 = .ok (.getfield 11, 3) := dzq_180 (by decide +kernel)
theorem D_160_12 : decode J_160.2.2.1 12 = .ok (.iload_n 3, 1) := dzq_29 (by decide +kernel)
theorem D_160_13 : decode J_160.2.2.1 13 = .ok (.laload, 1) := dzq_47 (by decide +kernel)
theorem D_160_14 : decode J_160.2.2.1 14 = .ok (.lload_n 1, 1) := dzq_31 (by decide +kernel)
theorem D_160_15 : decode J_160.2.2.1 15 = .ok (.lcmp, 1) := by decide +kernel
theorem D_160_16 : decode J_160.2.2.1 16 = .ok (.ifCond .ne 7, 3) := dzq_154 (by decide +kernel)
theorem D_160_19 : decode J_160.2.2.1 19 = .ok (.iconst 5, 1) := dzq_8 (by decide +kernel)
theorem D_160_20 : decode J_160.2.2.1 20 = .ok (.iload_n 3, 1) := dzq_29 (by decide +kernel)
theorem D_160_21 : decode J_160.2.2.1 21 = .ok (.iadd, 1) := dzq_96 (by decide +kernel)
theorem D_160_22 : decode J_160.2.2.1 22 = .ok (.ireturn, 1) := dzq_172 (by decide +kernel)
theorem D_160_23 : decode J_160.2.2.1 23 = .ok (.iinc 3 1, 3) := dzq_132 (by decide +kernel)
theorem D_160_26 : decode J_160.2.2.1 26 = .ok (.goto (-24), 3) := dzq_167 (by decide +kernel)
theorem D_160_29 : decode J_160.2.2.1 29 = .ok (.iconst 3, 1) := dzq_6 (by decide +kernel)
theorem D_160_30 : decode J_160.2.2.1 30 = .ok (.ireturn, 1) := dzq_172 (by decide +kernel)
def P_160_2 (X : mjX) (d C S kc ks : Nat) (k : Nat → Int64 → Int32 → mjH → mjU) : Prop := ∀ (l0 : Nat) (l1 : Int64) (l3 : Int32) (hp : mjH) (q : Option Value × mjH), k l0 l1 l3 hp = some q → mjG X d C S J_160 (mjEq q) 2 [some (.ref l0), some (.long l1), none, some (.int l3)] [] hp kc ks
def P_160_0 (X : mjX) (d C S kc ks : Nat) (k : Nat → Int64 → mjH → mjU) : Prop := ∀ (l0 : Nat) (l1 : Int64) (hp : mjH) (q : Option Value × mjH), k l0 l1 hp = some q → mjG X d C S J_160 (mjEq q) 0 [some (.ref l0), some (.long l1), none, none] [] hp kc ks
noncomputable def b_160_2 (R : mjR) (k2 : Nat → Int64 → Int32 → mjH → mjU) (l0 : Nat) (l1 : Int64) (l3 : Int32) (hp : mjH) : mjU := (if (16 : Int32) ≤ l3 then some (some (.int (3 : Int32)), hp) else gR hp l0 9 0 (fun v1 => aL hp v1 l3 (fun v2 => (if (lg_cmp v2 l1) = 0 then some (some (.int ((5 : Int32) + l3)), hp) else k2 l0 l1 (l3 + (1 : Int32)) hp))))
theorem t_160_2 {X : mjX} {d C S kc ks : Nat} {R : mjR} (hR : mjC R d) (h1 : kc ≤ C) (h2 : ks ≤ S) {k2 : Nat → Int64 → Int32 → mjH → mjU} (hk2 : P_160_2 X (d + 1) C S kc ks k2) : P_160_2 X (d + 1) C S kc ks (b_160_2 R k2) := by
  intro l0 l1 l3 hp q h
  unfold b_160_2 at h
  refine mjr_iload_n (x := l3) D_160_2 rfl ?_
  refine mjq_bi (v := (16 : Int32)) D_160_3 rfl ?_
  refine mjq_icmp_ge (tgt := 29) D_160_5 rfl h (fun h => ?_) (fun h => ?_)
  · refine mjq_ic (v := (3 : Int32)) D_160_29 rfl ?_
    exact mjq_ret D_160_30 rfl h1 h2 h
  · refine mjr_aload_n (x := l0) D_160_8 rfl ?_
    refine mjq_gR D_160_9 fr_9_11 h (fun v1 h => ?_)
    refine mjr_iload_n (x := l3) D_160_12 rfl ?_
    refine mjq_aL D_160_13 h (fun v2 h => ?_)
    refine mjr_lload_n (x := l1) D_160_14 rfl ?_
    refine mjr_lcmp D_160_15 ?_
    refine mjq_if_ne (tgt := 23) D_160_16 rfl h (fun h => ?_) (fun h => ?_)
    · refine mjq_iinc (x := l3) (c := (1 : Int32)) (lo' := [some (.ref l0), some (.long l1), none, some (.int (l3 + (1 : Int32)))]) D_160_23 rfl (Nat.le_of_ble_eq_true rfl) rfl rfl ?_
      refine mjr_goto (tgt := 2) D_160_26 rfl ?_
      exact hk2 _ _ _ _ _ h
    · refine mjq_ic (v := (5 : Int32)) D_160_19 rfl ?_
      refine mjr_iload_n (x := l3) D_160_20 rfl ?_
      refine mjr_iadd D_160_21 ?_
      exact mjq_ret D_160_22 rfl h1 h2 h
noncomputable def L_160_2 (R : mjR) (n : Nat) : Nat → Int64 → Int32 → mjH → mjU := Nat.rec (motive := fun _ => Nat → Int64 → Int32 → mjH → mjU) (fun _ _ _ _ => none) (fun _ self => b_160_2 R self) n
theorem T_160_2 {X : mjX} {d C S kc ks : Nat} {R : mjR} (hR : mjC R d) (h1 : kc ≤ C) (h2 : ks ≤ S) (n : Nat) : P_160_2 X (d + 1) C S kc ks (L_160_2 R n) := by
  induction n with
  | zero => intro _ _ _ _ _ h; exact mj_no h
  | succ n ih => exact t_160_2 hR h1 h2 ih
noncomputable def b_160_0 (R : mjR) (l0 : Nat) (l1 : Int64) (hp : mjH) : mjU := L_160_2 R mjN l0 l1 (0 : Int32) hp
theorem t_160_0 {X : mjX} {d C S kc ks : Nat} {R : mjR} (hR : mjC R d) (h1 : kc ≤ C) (h2 : ks ≤ S) : P_160_0 X (d + 1) C S kc ks (b_160_0 R) := by
  intro l0 l1 hp q h
  unfold b_160_0 at h
  refine mjq_ic (v := (0 : Int32)) D_160_0 rfl ?_
  refine mjq_istore_n (lo' := [some (.ref l0), some (.long l1), none, some (.int (0 : Int32))]) D_160_1 (Nat.le_of_ble_eq_true rfl) rfl ?_
  exact (T_160_2 hR h1 h2 mjN) _ _ _ _ _ h
noncomputable def f_160 (R : mjR) (a0 : Nat) (a1 : Int64) (hp : mjH) : mjU := b_160_0 R a0 a1 hp
theorem c_160 {R : mjR} {d : Nat} (hR : mjC R d) {a0 : Nat} {a1 : Int64} {hp : mjH} {q : Option Value × mjH} (h : f_160 R a0 a1 hp = some q) : mjM (d + 1) 0 0 160 [.ref a0, .long a1] hp (mjEq q) :=
  mjM_of Ja_160 (Nat.le_of_ble_eq_true rfl) (mjG.fg (lo' := [some (.ref a0), some (.long a1), none, none]) (And.intro rfl (And.intro rfl True.intro)) ((t_160_0 hR (Nat.le_refl 0) (Nat.le_refl 0)) a0 a1 hp q h))
def J_161 : mjI := (⟨"OwnerHeap$Tokens", "put", "(IIJ)V"⟩, 9, prog_11_method_4_code, 5, none, 3, false)
theorem Ja_161 : mjMt 161 = some J_161 := by rfl
theorem D_161_0 : decode J_161.2.2.1 0 = .ok (.aload_n 0, 1) := dzq_42 (by decide +kernel)
theorem D_161_1 : decode J_161.2.2.1 1 = .ok (.getfield 46, 3) := dzq_180 (by decide +kernel)
theorem D_161_4 : decode J_161.2.2.1 4 = .ok (.aload_n 0, 1) := dzq_42 (by decide +kernel)
theorem D_161_5 : decode J_161.2.2.1 5 = .ok (.getfield 15, 3) := dzq_180 (by decide +kernel)
theorem D_161_8 : decode J_161.2.2.1 8 = .ok (.arraylength, 1) := by decide +kernel
theorem D_161_9 : decode J_161.2.2.1 9 = .ok (.if_icmp .ge 53, 3) := dzq_162 (by decide +kernel)
theorem D_161_12 : decode J_161.2.2.1 12 = .ok (.aload_n 0, 1) := dzq_42 (by decide +kernel)
theorem D_161_13 : decode J_161.2.2.1 13 = .ok (.getfield 15, 3) := dzq_180 (by decide +kernel)
theorem D_161_16 : decode J_161.2.2.1 16 = .ok (.aload_n 0, 1) := dzq_42 (by decide +kernel)
theorem D_161_17 : decode J_161.2.2.1 17 = .ok (.getfield 46, 3) := dzq_180 (by decide +kernel)
theorem D_161_20 : decode J_161.2.2.1 20 = .ok (.iload_n 1, 1) := dzq_27 (by decide +kernel)
theorem D_161_21 : decode J_161.2.2.1 21 = .ok (.iastore, 1) := dzq_79 (by decide +kernel)
theorem D_161_22 : decode J_161.2.2.1 22 = .ok (.aload_n 0, 1) := dzq_42 (by decide +kernel)
theorem D_161_23 : decode J_161.2.2.1 23 = .ok (.getfield 19, 3) := dzq_180 (by decide +kernel)
theorem D_161_26 : decode J_161.2.2.1 26 = .ok (.aload_n 0, 1) := dzq_42 (by decide +kernel)
theorem D_161_27 : decode J_161.2.2.1 27 = .ok (.getfield 46, 3) := dzq_180 (by decide +kernel)
theorem D_161_30 : decode J_161.2.2.1 30 = .ok (.iload_n 2, 1) := dzq_28 (by decide +kernel)
theorem D_161_31 : decode J_161.2.2.1 31 = .ok (.iastore, 1) := dzq_79 (by decide +kernel)
theorem D_161_32 : decode J_161.2.2.1 32 = .ok (.aload_n 0, 1) := dzq_42 (by decide +kernel)
theorem D_161_33 : decode J_161.2.2.1 33 = .ok (.getfield 22, 3) := dzq_180 (by decide +kernel)
theorem D_161_36 : decode J_161.2.2.1 36 = .ok (.aload_n 0, 1) := dzq_42 (by decide +kernel)
theorem D_161_37 : decode J_161.2.2.1 37 = .ok (.getfield 46, 3) := dzq_180 (by decide +kernel)
theorem D_161_40 : decode J_161.2.2.1 40 = .ok (.lload_n 3, 1) := dzq_33 (by decide +kernel)
theorem D_161_41 : decode J_161.2.2.1 41 = .ok (.lastore, 1) := by decide +kernel
theorem D_161_42 : decode J_161.2.2.1 42 = .ok (.aload_n 0, 1) := dzq_42 (by decide +kernel)
theorem D_161_43 : decode J_161.2.2.1 43 = .ok (.getfield 25, 3) := dzq_180 (by decide +kernel)
theorem D_161_46 : decode J_161.2.2.1 46 = .ok (.aload_n 0, 1) := dzq_42 (by decide +kernel)
theorem D_161_47 : decode J_161.2.2.1 47 = .ok (.getfield 46, 3) := dzq_180 (by decide +kernel)
theorem D_161_50 : decode J_161.2.2.1 50 = .ok (.iconst 0, 1) := dzq_3 (by decide +kernel)
theorem D_161_51 : decode J_161.2.2.1 51 = .ok (.iastore, 1) := dzq_79 (by decide +kernel)
theorem D_161_52 : decode J_161.2.2.1 52 = .ok (.aload_n 0, 1) := dzq_42 (by decide +kernel)
theorem D_161_53 : decode J_161.2.2.1 53 = .ok (.dup, 1) := dzq_89 (by decide +kernel)
theorem D_161_54 : decode J_161.2.2.1 54 = .ok (.getfield 46, 3) := dzq_180 (by decide +kernel)
theorem D_161_57 : decode J_161.2.2.1 57 = .ok (.iconst 1, 1) := dzq_4 (by decide +kernel)
theorem D_161_58 : decode J_161.2.2.1 58 = .ok (.iadd, 1) := dzq_96 (by decide +kernel)
theorem D_161_59 : decode J_161.2.2.1 59 = .ok (.putfield 46, 3) := dzq_181 (by decide +kernel)
theorem D_161_62 : decode J_161.2.2.1 62 = .ok (.return_, 1) := dzq_177 (by decide +kernel)
def P_161_0 (X : mjX) (d C S kc ks : Nat) (k : Nat → Int32 → Int32 → Int64 → mjH → mjU) : Prop := ∀ (l0 : Nat) (l1 : Int32) (l2 : Int32) (l3 : Int64) (hp : mjH) (q : Option Value × mjH), k l0 l1 l2 l3 hp = some q → mjG X d C S J_161 (mjEq q) 0 [some (.ref l0), some (.int l1), some (.int l2), some (.long l3), none] [] hp kc ks
noncomputable def b_161_0 (R : mjR) (l0 : Nat) (l1 : Int32) (l2 : Int32) (l3 : Int64) (hp : mjH) : mjU := gI hp l0 9 5 (fun v1 => gR hp l0 9 1 (fun v2 => aN hp v2 (fun v3 => (if v3 ≤ v1 then some (none, hp) else gR hp l0 9 1 (fun v4 => gI hp l0 9 5 (fun v5 => sI hp v4 v5 l1 (fun hp6 => gR hp6 l0 9 2 (fun v7 => gI hp6 l0 9 5 (fun v8 => sI hp6 v7 v8 l2 (fun hp9 => gR hp9 l0 9 3 (fun v10 => gI hp9 l0 9 5 (fun v11 => sL hp9 v10 v11 l3 (fun hp12 => gR hp12 l0 9 4 (fun v13 => gI hp12 l0 9 5 (fun v14 => sI hp12 v13 v14 (0 : Int32) (fun hp15 => gI hp15 l0 9 5 (fun v16 => pI hp15 l0 9 5 (v16 + (1 : Int32)) (fun hp17 => some (none, hp17)))))))))))))))))))
theorem t_161_0 {X : mjX} {d C S kc ks : Nat} {R : mjR} (hR : mjC R d) (h1 : kc ≤ C) (h2 : ks ≤ S) : P_161_0 X (d + 1) C S kc ks (b_161_0 R) := by
  intro l0 l1 l2 l3 hp q h
  unfold b_161_0 at h
  refine mjr_aload_n (x := l0) D_161_0 rfl ?_
  refine mjq_gI D_161_1 fr_9_46 h (fun v1 h => ?_)
  refine mjr_aload_n (x := l0) D_161_4 rfl ?_
  refine mjq_gR D_161_5 fr_9_15 h (fun v2 h => ?_)
  refine mjq_aN D_161_8 h (fun v3 h => ?_)
  refine mjq_icmp_ge (tgt := 62) D_161_9 rfl h (fun h => ?_) (fun h => ?_)
  · exact mjq_nret D_161_62 rfl h1 h2 h
  · refine mjr_aload_n (x := l0) D_161_12 rfl ?_
    refine mjq_gR D_161_13 fr_9_15 h (fun v4 h => ?_)
    refine mjr_aload_n (x := l0) D_161_16 rfl ?_
    refine mjq_gI D_161_17 fr_9_46 h (fun v5 h => ?_)
    refine mjr_iload_n (x := l1) D_161_20 rfl ?_
    refine mjq_sI D_161_21 h (fun hp6 h => ?_)
    refine mjr_aload_n (x := l0) D_161_22 rfl ?_
    refine mjq_gR D_161_23 fr_9_19 h (fun v7 h => ?_)
    refine mjr_aload_n (x := l0) D_161_26 rfl ?_
    refine mjq_gI D_161_27 fr_9_46 h (fun v8 h => ?_)
    refine mjr_iload_n (x := l2) D_161_30 rfl ?_
    refine mjq_sI D_161_31 h (fun hp9 h => ?_)
    refine mjr_aload_n (x := l0) D_161_32 rfl ?_
    refine mjq_gR D_161_33 fr_9_22 h (fun v10 h => ?_)
    refine mjr_aload_n (x := l0) D_161_36 rfl ?_
    refine mjq_gI D_161_37 fr_9_46 h (fun v11 h => ?_)
    refine mjr_lload_n (x := l3) D_161_40 rfl ?_
    refine mjq_sL D_161_41 h (fun hp12 h => ?_)
    refine mjr_aload_n (x := l0) D_161_42 rfl ?_
    refine mjq_gR D_161_43 fr_9_25 h (fun v13 h => ?_)
    refine mjr_aload_n (x := l0) D_161_46 rfl ?_
    refine mjq_gI D_161_47 fr_9_46 h (fun v14 h => ?_)
    refine mjq_ic (v := (0 : Int32)) D_161_50 rfl ?_
    refine mjq_sI D_161_51 h (fun hp15 h => ?_)
    refine mjr_aload_n (x := l0) D_161_52 rfl ?_
    refine mjr_dup D_161_53 rfl ?_
    refine mjq_gI D_161_54 fr_9_46 h (fun v16 h => ?_)
    refine mjq_ic (v := (1 : Int32)) D_161_57 rfl ?_
    refine mjr_iadd D_161_58 ?_
    refine mjq_pI D_161_59 fr_9_46 rfl rfl h (fun hp17 h => ?_)
    exact mjq_nret D_161_62 rfl h1 h2 h
noncomputable def f_161 (R : mjR) (a0 : Nat) (a1 : Int32) (a2 : Int32) (a3 : Int64) (hp : mjH) : mjU := b_161_0 R a0 a1 a2 a3 hp
theorem c_161 {R : mjR} {d : Nat} (hR : mjC R d) {a0 : Nat} {a1 : Int32} {a2 : Int32} {a3 : Int64} {hp : mjH} {q : Option Value × mjH} (h : f_161 R a0 a1 a2 a3 hp = some q) : mjM (d + 1) 0 0 161 [.ref a0, .int a1, .int a2, .long a3] hp (mjEq q) :=
  mjM_of Ja_161 (Nat.le_of_ble_eq_true rfl) (mjG.fg (lo' := [some (.ref a0), some (.int a1), some (.int a2), some (.long a3), none]) (And.intro rfl (And.intro rfl (And.intro rfl (And.intro rfl True.intro)))) ((t_161_0 hR (Nat.le_refl 0) (Nat.le_refl 0)) a0 a1 a2 a3 hp q h))
def J_162 : mjI := (⟨"OwnerHeap$Tokens", "cutNumber", "([BII)I"⟩, 9, prog_11_method_9_code, 7, (some .int), 3, false)
theorem Ja_162 : mjMt 162 = some J_162 := by rfl
theorem D_162_0 : decode J_162.2.2.1 0 = .ok (.lconst 0, 1) := by decide +kernel
theorem D_162_1 : decode J_162.2.2.1 1 = .ok (.lstore 4, 2) := by decide +kernel
theorem D_162_3 : decode J_162.2.2.1 3 = .ok (.iload_n 2, 1) := dzq_28 (by decide +kernel)
theorem D_162_4 : decode J_162.2.2.1 4 = .ok (.istore 6, 2) := dzq_54 (by decide +kernel)
theorem D_162_6 : decode J_162.2.2.1 6 = .ok (.iload 6, 2) := dzq_21 (by decide +kernel)
theorem D_162_8 : decode J_162.2.2.1 8 = .ok (.iload_n 3, 1) := dzq_29 (by decide +kernel)
theorem D_162_9 : decode J_162.2.2.1 9 = .ok (.if_icmp .ge 36, 3) := dzq_162 (by decide +kernel)
theorem D_162_12 : decode J_162.2.2.1 12 = .ok (.aload_n 1, 1) := dzq_43 (by decide +kernel)
theorem D_162_13 : decode J_162.2.2.1 13 = .ok (.iload 6, 2) := dzq_21 (by decide +kernel)
theorem D_162_15 : decode J_162.2.2.1 15 = .ok (.baload, 1) := dzq_51 (by decide +kernel)
theorem D_162_16 : decode J_162.2.2.1 16 = .ok (.invokestatic 77, 3) := dzq_184 (by decide +kernel)
theorem D_162_19 : decode J_162.2.2.1 19 = .ok (.ifCond .eq 26, 3) := dzq_153 (by decide +kernel)
theorem D_162_22 : decode J_162.2.2.1 22 = .ok (.lload 4, 2) := by decide +kernel
theorem D_162_24 : decode J_162.2.2.1 24 = .ok (.ldc2_w 90, 3) := by decide +kernel
theorem D_162_27 : decode J_162.2.2.1 27 = .ok (.lmul, 1) := by decide +kernel
theorem D_162_28 : decode J_162.2.2.1 28 = .ok (.aload_n 1, 1) := dzq_43 (by decide +kernel)
theorem D_162_29 : decode J_162.2.2.1 29 = .ok (.iload 6, 2) := dzq_21 (by decide +kernel)
theorem D_162_31 : decode J_162.2.2.1 31 = .ok (.baload, 1) := dzq_51 (by decide +kernel)
theorem D_162_32 : decode J_162.2.2.1 32 = .ok (.bipush 48, 2) := dzq_16 (by decide +kernel)
theorem D_162_34 : decode J_162.2.2.1 34 = .ok (.isub, 1) := dzq_100 (by decide +kernel)
theorem D_162_35 : decode J_162.2.2.1 35 = .ok (.i2l, 1) := by decide +kernel
theorem D_162_36 : decode J_162.2.2.1 36 = .ok (.ladd, 1) := by decide +kernel
theorem D_162_37 : decode J_162.2.2.1 37 = .ok (.lstore 4, 2) := by decide +kernel
theorem D_162_39 : decode J_162.2.2.1 39 = .ok (.iinc 6 1, 3) := dzq_132 (by decide +kernel)
theorem D_162_42 : decode J_162.2.2.1 42 = .ok (.goto (-36), 3) := dzq_167 (by decide +kernel)
theorem D_162_45 : decode J_162.2.2.1 45 = .ok (.iload 6, 2) := dzq_21 (by decide +kernel)
theorem D_162_47 : decode J_162.2.2.1 47 = .ok (.iload_n 2, 1) := dzq_28 (by decide +kernel)
theorem D_162_48 : decode J_162.2.2.1 48 = .ok (.isub, 1) := dzq_100 (by decide +kernel)
theorem D_162_49 : decode J_162.2.2.1 49 = .ok (.bipush 9, 2) := dzq_16 (by decide +kernel)
theorem D_162_51 : decode J_162.2.2.1 51 = .ok (.if_icmp .le 5, 3) := dzq_164 (by decide +kernel)
theorem D_162_54 : decode J_162.2.2.1 54 = .ok (.iconst (-1), 1) := dzq_2 (by decide +kernel)
theorem D_162_55 : decode J_162.2.2.1 55 = .ok (.ireturn, 1) := dzq_172 (by decide +kernel)
theorem D_162_56 : decode J_162.2.2.1 56 = .ok (.aload_n 0, 1) := dzq_42 (by decide +kernel)
theorem D_162_57 : decode J_162.2.2.1 57 = .ok (.iconst 4, 1) := dzq_7 (by decide +kernel)
theorem D_162_58 : decode J_162.2.2.1 58 = .ok (.iload_n 2, 1) := dzq_28 (by decide +kernel)
theorem D_162_59 : decode J_162.2.2.1 59 = .ok (.lload 4, 2) := by decide +kernel
theorem D_162_61 : decode J_162.2.2.1 61 = .ok (.invokevirtual 66, 3) := dzq_182 (by decide +kernel)
theorem D_162_64 : decode J_162.2.2.1 64 = .ok (.iload 6, 2) := dzq_21 (by decide +kernel)
theorem D_162_66 : decode J_162.2.2.1 66 = .ok (.ireturn, 1) := dzq_172 (by decide +kernel)
def P_162_45 (X : mjX) (d C S kc ks : Nat) (k : Nat → Int32 → Int64 → Int32 → mjH → mjU) : Prop := ∀ (l0 : Nat) (l2 : Int32) (l4 : Int64) (l6 : Int32) (hp : mjH) (q : Option Value × mjH), k l0 l2 l4 l6 hp = some q → mjG X d C S J_162 (mjEq q) 45 [some (.ref l0), none, some (.int l2), none, some (.long l4), none, some (.int l6)] [] hp kc ks
def P_162_6 (X : mjX) (d C S kc ks : Nat) (k : Nat → Nat → Int32 → Int32 → Int64 → Int32 → mjH → mjU) : Prop := ∀ (l0 : Nat) (l1 : Nat) (l2 : Int32) (l3 : Int32) (l4 : Int64) (l6 : Int32) (hp : mjH) (q : Option Value × mjH), k l0 l1 l2 l3 l4 l6 hp = some q → mjG X d C S J_162 (mjEq q) 6 [some (.ref l0), some (.ref l1), some (.int l2), some (.int l3), some (.long l4), none, some (.int l6)] [] hp kc ks
def P_162_0 (X : mjX) (d C S kc ks : Nat) (k : Nat → Nat → Int32 → Int32 → mjH → mjU) : Prop := ∀ (l0 : Nat) (l1 : Nat) (l2 : Int32) (l3 : Int32) (hp : mjH) (q : Option Value × mjH), k l0 l1 l2 l3 hp = some q → mjG X d C S J_162 (mjEq q) 0 [some (.ref l0), some (.ref l1), some (.int l2), some (.int l3), none, none, none] [] hp kc ks
noncomputable def b_162_45 (R : mjR) (l0 : Nat) (l2 : Int32) (l4 : Int64) (l6 : Int32) (hp : mjH) : mjU := (if (l6 - l2) ≤ (9 : Int32) then rV hp l0 9 (bN (R 161 [.ref l0, .int (4 : Int32), .int l2, .long l4] hp) (fun  hp1 => some (some (.int l6), hp1))) else some (some (.int (-1 : Int32)), hp))
theorem t_162_45 {X : mjX} {d C S kc ks : Nat} {R : mjR} (hR : mjC R d) (h1 : kc ≤ C) (h2 : ks ≤ S) : P_162_45 X (d + 1) C S kc ks (b_162_45 R) := by
  intro l0 l2 l4 l6 hp q h
  unfold b_162_45 at h
  refine mjr_iload (x := l6) D_162_45 rfl ?_
  refine mjr_iload_n (x := l2) D_162_47 rfl ?_
  refine mjr_isub D_162_48 ?_
  refine mjq_bi (v := (9 : Int32)) D_162_49 rfl ?_
  refine mjq_icmp_le (tgt := 56) D_162_51 rfl h (fun h => ?_) (fun h => ?_)
  · refine mjr_aload_n (x := l0) D_162_56 rfl ?_
    refine mjq_ic (v := (4 : Int32)) D_162_57 rfl ?_
    refine mjr_iload_n (x := l2) D_162_58 rfl ?_
    refine mjr_lload (x := l4) D_162_59 rfl ?_
    refine mjq_vN (As := [.int (4 : Int32), .int l2, .long l4]) (rest := []) D_162_61 mr_9_66 V_161 rfl rfl rfl hR (Nat.le_refl _) h1 h2 h (fun  hp1 h => ?_)
    refine mjr_iload (x := l6) D_162_64 rfl ?_
    exact mjq_ret D_162_66 rfl h1 h2 h
  · refine mjq_ic (v := (-1 : Int32)) D_162_54 rfl ?_
    exact mjq_ret D_162_55 rfl h1 h2 h
noncomputable def b_162_6 (R : mjR) (k6 : Nat → Nat → Int32 → Int32 → Int64 → Int32 → mjH → mjU) (l0 : Nat) (l1 : Nat) (l2 : Int32) (l3 : Int32) (l4 : Int64) (l6 : Int32) (hp : mjH) : mjU := (if l3 ≤ l6 then b_162_45 R l0 l2 l4 l6 hp else aB hp l1 l6 (fun v1 => bI (R 159 [.int v1] hp) (fun v2 hp3 => (if v2 = 0 then b_162_45 R l0 l2 l4 l6 hp3 else aB hp3 l1 l6 (fun v4 => k6 l0 l1 l2 l3 ((l4 * (10 : Int64)) + ((v4 - (48 : Int32))).toInt64) (l6 + (1 : Int32)) hp3)))))
theorem t_162_6 {X : mjX} {d C S kc ks : Nat} {R : mjR} (hR : mjC R d) (h1 : kc ≤ C) (h2 : ks ≤ S) {k6 : Nat → Nat → Int32 → Int32 → Int64 → Int32 → mjH → mjU} (hk6 : P_162_6 X (d + 1) C S kc ks k6) : P_162_6 X (d + 1) C S kc ks (b_162_6 R k6) := by
  intro l0 l1 l2 l3 l4 l6 hp q h
  unfold b_162_6 at h
  refine mjr_iload (x := l6) D_162_6 rfl ?_
  refine mjr_iload_n (x := l3) D_162_8 rfl ?_
  refine mjq_icmp_ge (tgt := 45) D_162_9 rfl h (fun h => ?_) (fun h => ?_)
  · exact mjG.fg (lo' := [some (.ref l0), none, some (.int l2), none, some (.long l4), none, some (.int l6)]) (And.intro rfl (And.intro rfl (And.intro rfl (And.intro rfl True.intro)))) ((t_162_45 hR h1 h2) _ _ _ _ _ _ h)
  · refine mjr_aload_n (x := l1) D_162_12 rfl ?_
    refine mjr_iload (x := l6) D_162_13 rfl ?_
    refine mjq_aB D_162_15 h (fun v1 h => ?_)
    refine mjq_scI (As := [.int v1]) (rest := []) D_162_16 mr_9_77 V_159 rfl rfl rfl hR (Nat.le_refl _) h1 h2 h (fun v2 hp3 h => ?_)
    refine mjq_if_eq (tgt := 45) D_162_19 rfl h (fun h => ?_) (fun h => ?_)
    · exact mjG.fg (lo' := [some (.ref l0), none, some (.int l2), none, some (.long l4), none, some (.int l6)]) (And.intro rfl (And.intro rfl (And.intro rfl (And.intro rfl True.intro)))) ((t_162_45 hR h1 h2) _ _ _ _ _ _ h)
    · refine mjr_lload (x := l4) D_162_22 rfl ?_
      refine mjr_ldc2 (v := (10 : Int64)) D_162_24 (by decide +kernel) ?_
      refine mjr_lmul D_162_27 ?_
      refine mjr_aload_n (x := l1) D_162_28 rfl ?_
      refine mjr_iload (x := l6) D_162_29 rfl ?_
      refine mjq_aB D_162_31 h (fun v4 h => ?_)
      refine mjq_bi (v := (48 : Int32)) D_162_32 rfl ?_
      refine mjr_isub D_162_34 ?_
      refine mjr_i2l D_162_35 ?_
      refine mjr_ladd D_162_36 ?_
      refine mjq_lstore (lo' := [some (.ref l0), some (.ref l1), some (.int l2), some (.int l3), some (.long ((l4 * (10 : Int64)) + ((v4 - (48 : Int32))).toInt64)), none, some (.int l6)]) D_162_37 (Nat.le_of_ble_eq_true rfl) rfl ?_
      refine mjq_iinc (x := l6) (c := (1 : Int32)) (lo' := [some (.ref l0), some (.ref l1), some (.int l2), some (.int l3), some (.long ((l4 * (10 : Int64)) + ((v4 - (48 : Int32))).toInt64)), none, some (.int (l6 + (1 : Int32)))]) D_162_39 rfl (Nat.le_of_ble_eq_true rfl) rfl rfl ?_
      refine mjr_goto (tgt := 6) D_162_42 rfl ?_
      exact hk6 _ _ _ _ _ _ _ _ h
noncomputable def L_162_6 (R : mjR) (n : Nat) : Nat → Nat → Int32 → Int32 → Int64 → Int32 → mjH → mjU := Nat.rec (motive := fun _ => Nat → Nat → Int32 → Int32 → Int64 → Int32 → mjH → mjU) (fun _ _ _ _ _ _ _ => none) (fun _ self => b_162_6 R self) n
theorem T_162_6 {X : mjX} {d C S kc ks : Nat} {R : mjR} (hR : mjC R d) (h1 : kc ≤ C) (h2 : ks ≤ S) (n : Nat) : P_162_6 X (d + 1) C S kc ks (L_162_6 R n) := by
  induction n with
  | zero => intro _ _ _ _ _ _ _ _ h; exact mj_no h
  | succ n ih => exact t_162_6 hR h1 h2 ih
noncomputable def b_162_0 (R : mjR) (l0 : Nat) (l1 : Nat) (l2 : Int32) (l3 : Int32) (hp : mjH) : mjU := L_162_6 R mjN l0 l1 l2 l3 (0 : Int64) l2 hp
theorem t_162_0 {X : mjX} {d C S kc ks : Nat} {R : mjR} (hR : mjC R d) (h1 : kc ≤ C) (h2 : ks ≤ S) : P_162_0 X (d + 1) C S kc ks (b_162_0 R) := by
  intro l0 l1 l2 l3 hp q h
  unfold b_162_0 at h
  refine mjq_lc (v := (0 : Int64)) D_162_0 rfl ?_
  refine mjq_lstore (lo' := [some (.ref l0), some (.ref l1), some (.int l2), some (.int l3), some (.long (0 : Int64)), none, none]) D_162_1 (Nat.le_of_ble_eq_true rfl) rfl ?_
  refine mjr_iload_n (x := l2) D_162_3 rfl ?_
  refine mjq_istore (lo' := [some (.ref l0), some (.ref l1), some (.int l2), some (.int l3), some (.long (0 : Int64)), none, some (.int l2)]) D_162_4 (Nat.le_of_ble_eq_true rfl) rfl ?_
  exact (T_162_6 hR h1 h2 mjN) _ _ _ _ _ _ _ _ h
noncomputable def f_162 (R : mjR) (a0 : Nat) (a1 : Nat) (a2 : Int32) (a3 : Int32) (hp : mjH) : mjU := b_162_0 R a0 a1 a2 a3 hp
theorem c_162 {R : mjR} {d : Nat} (hR : mjC R d) {a0 : Nat} {a1 : Nat} {a2 : Int32} {a3 : Int32} {hp : mjH} {q : Option Value × mjH} (h : f_162 R a0 a1 a2 a3 hp = some q) : mjM (d + 1) 0 0 162 [.ref a0, .ref a1, .int a2, .int a3] hp (mjEq q) :=
  mjM_of Ja_162 (Nat.le_of_ble_eq_true rfl) (mjG.fg (lo' := [some (.ref a0), some (.ref a1), some (.int a2), some (.int a3), none, none, none]) (And.intro rfl (And.intro rfl (And.intro rfl (And.intro rfl True.intro)))) ((t_162_0 hR (Nat.le_refl 0) (Nat.le_refl 0)) a0 a1 a2 a3 hp q h))
def J_163 : mjI := (⟨"OwnerHeap$Tokens", "cutSign", "([BII)I"⟩, 9, prog_11_method_10_code, 6, (some .int), 3, false)
theorem Ja_163 : mjMt 163 = some J_163 := by rfl
theorem D_163_0 : decode J_163.2.2.1 0 = .ok (.aload_n 1, 1) := dzq_43 (by decide +kernel)
theorem D_163_1 : decode J_163.2.2.1 1 = .ok (.iload_n 2, 1) := dzq_28 (by decide +kernel)
theorem D_163_2 : decode J_163.2.2.1 2 = .ok (.baload, 1) := dzq_51 (by decide +kernel)
theorem D_163_3 : decode J_163.2.2.1 3 = .ok (.istore 4, 2) := dzq_54 (by decide +kernel)
theorem D_163_5 : decode J_163.2.2.1 5 = .ok (.iload_n 2, 1) := dzq_28 (by decide +kernel)
theorem D_163_6 : decode J_163.2.2.1 6 = .ok (.iconst 1, 1) := dzq_4 (by decide +kernel)
theorem D_163_7 : decode J_163.2.2.1 7 = .ok (.iadd, 1) := dzq_96 (by decide +kernel)
theorem D_163_8 : decode J_163.2.2.1 8 = .ok (.iload_n 3, 1) := dzq_29 (by decide +kernel)
theorem D_163_9 : decode J_163.2.2.1 9 = .ok (.if_icmp .ge 17, 3) := dzq_162 (by decide +kernel)
theorem D_163_12 : decode J_163.2.2.1 12 = .ok (.aload_n 1, 1) := dzq_43 (by decide +kernel)
theorem D_163_13 : decode J_163.2.2.1 13 = .ok (.iload_n 2, 1) := dzq_28 (by decide +kernel)
theorem D_163_14 : decode J_163.2.2.1 14 = .ok (.iconst 1, 1) := dzq_4 (by decide +kernel)
theorem D_163_15 : decode J_163.2.2.1 15 = .ok (.iadd, 1) := dzq_96 (by decide +kernel)
theorem D_163_16 : decode J_163.2.2.1 16 = .ok (.baload, 1) := dzq_51 (by decide +kernel)
theorem D_163_17 : decode J_163.2.2.1 17 = .ok (.bipush 61, 2) := dzq_16 (by decide +kernel)
theorem D_163_19 : decode J_163.2.2.1 19 = .ok (.if_icmp .ne 7, 3) := dzq_160 (by decide +kernel)
theorem D_163_22 : decode J_163.2.2.1 22 = .ok (.iconst 1, 1) := dzq_4 (by decide +kernel)
theorem D_163_23 : decode J_163.2.2.1 23 = .ok (.goto 4, 3) := dzq_167 (by decide +kernel)
theorem D_163_26 : decode J_163.2.2.1 26 = .ok (.iconst 0, 1) := dzq_3 (by decide +kernel)
theorem D_163_27 : decode J_163.2.2.1 27 = .ok (.istore 5, 2) := dzq_54 (by decide +kernel)
theorem D_163_29 : decode J_163.2.2.1 29 = .ok (.iload 5, 2) := dzq_21 (by decide +kernel)
theorem D_163_31 : decode J_163.2.2.1 31 = .ok (.ifCond .eq 43, 3) := dzq_153 (by decide +kernel)
theorem D_163_34 : decode J_163.2.2.1 34 = .ok (.iload 4, 2) := dzq_21 (by decide +kernel)
theorem D_163_36 : decode J_163.2.2.1 36 = .ok (.bipush 61, 2) := dzq_16 (by decide +kernel)
theorem D_163_38 : decode J_163.2.2.1 38 = .ok (.if_icmp .eq 10, 3) := dzq_159 (by decide +kernel)
theorem D_163_41 : decode J_163.2.2.1 41 = .ok (.iload 4, 2) := dzq_21 (by decide +kernel)
theorem D_163_43 : decode J_163.2.2.1 43 = .ok (.bipush 33, 2) := dzq_16 (by decide +kernel)
theorem D_163_45 : decode J_163.2.2.1 45 = .ok (.if_icmp .ne 29, 3) := dzq_160 (by decide +kernel)
theorem D_163_48 : decode J_163.2.2.1 48 = .ok (.aload_n 0, 1) := dzq_42 (by decide +kernel)
theorem D_163_49 : decode J_163.2.2.1 49 = .ok (.iload 4, 2) := dzq_21 (by decide +kernel)
theorem D_163_51 : decode J_163.2.2.1 51 = .ok (.bipush 61, 2) := dzq_16 (by decide +kernel)
theorem D_163_53 : decode J_163.2.2.1 53 = .ok (.if_icmp .ne 9, 3) := dzq_160 (by decide +kernel)
theorem D_163_56 : decode J_163.2.2.1 56 = .ok (.sipush 200, 3) := dzq_17 (by decide +kernel)
theorem D_163_59 : decode J_163.2.2.1 59 = .ok (.goto 6, 3) := dzq_167 (by decide +kernel)
theorem D_163_62 : decode J_163.2.2.1 62 = .ok (.sipush 201, 3) := dzq_17 (by decide +kernel)
theorem D_163_65 : decode J_163.2.2.1 65 = .ok (.iload_n 2, 1) := dzq_28 (by decide +kernel)
theorem D_163_66 : decode J_163.2.2.1 66 = .ok (.lconst 0, 1) := by decide +kernel
theorem D_163_67 : decode J_163.2.2.1 67 = .ok (.invokevirtual 66, 3) := dzq_182 (by decide +kernel)
theorem D_163_70 : decode J_163.2.2.1 70 = .ok (.iload_n 2, 1) := dzq_28 (by decide +kernel)
theorem D_163_71 : decode J_163.2.2.1 71 = .ok (.iconst 2, 1) := dzq_5 (by decide +kernel)
theorem D_163_72 : decode J_163.2.2.1 72 = .ok (.iadd, 1) := dzq_96 (by decide +kernel)
theorem D_163_73 : decode J_163.2.2.1 73 = .ok (.ireturn, 1) := dzq_172 (by decide +kernel)
theorem D_163_74 : decode J_163.2.2.1 74 = .ok (.iload 4, 2) := dzq_21 (by decide +kernel)
theorem D_163_76 : decode J_163.2.2.1 76 = .ok (.ifCond .le 14, 3) := dzq_158 (by decide +kernel)
theorem D_163_79 : decode J_163.2.2.1 79 = .ok (.ldc 92, 2) := by decide +kernel
theorem D_163_81 : decode J_163.2.2.1 81 = .ok (.iload 4, 2) := dzq_21 (by decide +kernel)
theorem D_163_83 : decode J_163.2.2.1 83 = .ok (.i2c, 1) := by decide +kernel
theorem D_163_84 : decode J_163.2.2.1 84 = .ok (.invokevirtual 94, 3) := dzq_182 (by decide +kernel)
theorem D_163_87 : decode J_163.2.2.1 87 = .ok (.ifCond .ge 5, 3) := dzq_156 (by decide +kernel)
theorem D_163_90 : decode J_163.2.2.1 90 = .ok (.iconst (-1), 1) := dzq_2 (by decide +kernel)
theorem D_163_91 : decode J_163.2.2.1 91 = .ok (.ireturn, 1) := dzq_172 (by decide +kernel)
theorem D_163_92 : decode J_163.2.2.1 92 = .ok (.aload_n 0, 1) := dzq_42 (by decide +kernel)
theorem D_163_93 : decode J_163.2.2.1 93 = .ok (.iload 4, 2) := dzq_21 (by decide +kernel)
theorem D_163_95 : decode J_163.2.2.1 95 = .ok (.iload_n 2, 1) := dzq_28 (by decide +kernel)
theorem D_163_96 : decode J_163.2.2.1 96 = .ok (.lconst 0, 1) := by decide +kernel
theorem D_163_97 : decode J_163.2.2.1 97 = .ok (.invokevirtual 66, 3) := dzq_182 (by decide +kernel)
theorem D_163_100 : decode J_163.2.2.1 100 = .ok (.iload_n 2, 1) := dzq_28 (by decide +kernel)
theorem D_163_101 : decode J_163.2.2.1 101 = .ok (.iconst 1, 1) := dzq_4 (by decide +kernel)
theorem D_163_102 : decode J_163.2.2.1 102 = .ok (.iadd, 1) := dzq_96 (by decide +kernel)
theorem D_163_103 : decode J_163.2.2.1 103 = .ok (.ireturn, 1) := dzq_172 (by decide +kernel)
def P_163_90 (X : mjX) (d C S kc ks : Nat) (k : mjH → mjU) : Prop := ∀  (hp : mjH) (q : Option Value × mjH), k  hp = some q → mjG X d C S J_163 (mjEq q) 90 [none, none, none, none, none, none] [] hp kc ks
def P_163_74 (X : mjX) (d C S kc ks : Nat) (k : Nat → Int32 → Int32 → mjH → mjU) : Prop := ∀ (l0 : Nat) (l2 : Int32) (l4 : Int32) (hp : mjH) (q : Option Value × mjH), k l0 l2 l4 hp = some q → mjG X d C S J_163 (mjEq q) 74 [some (.ref l0), none, some (.int l2), none, some (.int l4), none] [] hp kc ks
def P_163_65 (X : mjX) (d C S kc ks : Nat) (k : Int32 → Nat → Int32 → mjH → mjU) : Prop := ∀ (l2 : Int32) (s0 : Nat) (s1 : Int32) (hp : mjH) (q : Option Value × mjH), k l2 s0 s1 hp = some q → mjG X d C S J_163 (mjEq q) 65 [none, none, some (.int l2), none, none, none] [.int s1, .ref s0] hp kc ks
def P_163_48 (X : mjX) (d C S kc ks : Nat) (k : Nat → Int32 → Int32 → mjH → mjU) : Prop := ∀ (l0 : Nat) (l2 : Int32) (l4 : Int32) (hp : mjH) (q : Option Value × mjH), k l0 l2 l4 hp = some q → mjG X d C S J_163 (mjEq q) 48 [some (.ref l0), none, some (.int l2), none, some (.int l4), none] [] hp kc ks
def P_163_27 (X : mjX) (d C S kc ks : Nat) (k : Nat → Int32 → Int32 → Int32 → mjH → mjU) : Prop := ∀ (l0 : Nat) (l2 : Int32) (l4 : Int32) (s0 : Int32) (hp : mjH) (q : Option Value × mjH), k l0 l2 l4 s0 hp = some q → mjG X d C S J_163 (mjEq q) 27 [some (.ref l0), none, some (.int l2), none, some (.int l4), none] [.int s0] hp kc ks
def P_163_26 (X : mjX) (d C S kc ks : Nat) (k : Nat → Int32 → Int32 → mjH → mjU) : Prop := ∀ (l0 : Nat) (l2 : Int32) (l4 : Int32) (hp : mjH) (q : Option Value × mjH), k l0 l2 l4 hp = some q → mjG X d C S J_163 (mjEq q) 26 [some (.ref l0), none, some (.int l2), none, some (.int l4), none] [] hp kc ks
def P_163_0 (X : mjX) (d C S kc ks : Nat) (k : Nat → Nat → Int32 → Int32 → mjH → mjU) : Prop := ∀ (l0 : Nat) (l1 : Nat) (l2 : Int32) (l3 : Int32) (hp : mjH) (q : Option Value × mjH), k l0 l1 l2 l3 hp = some q → mjG X d C S J_163 (mjEq q) 0 [some (.ref l0), some (.ref l1), some (.int l2), some (.int l3), none, none] [] hp kc ks
noncomputable def b_163_90 (R : mjR)  (hp : mjH) : mjU := some (some (.int (-1 : Int32)), hp)
theorem t_163_90 {X : mjX} {d C S kc ks : Nat} {R : mjR} (hR : mjC R d) (h1 : kc ≤ C) (h2 : ks ≤ S) : P_163_90 X (d + 1) C S kc ks (b_163_90 R) := by
  intro  hp q h
  unfold b_163_90 at h
  refine mjq_ic (v := (-1 : Int32)) D_163_90 rfl ?_
  exact mjq_ret D_163_91 rfl h1 h2 h
noncomputable def b_163_74 (R : mjR) (l0 : Nat) (l2 : Int32) (l4 : Int32) (hp : mjH) : mjU := (if l4 ≤ 0 then b_163_90 R hp else rS 1000002 (bI (R 361 [.ref 1000002, .int ((l4).toUInt32 % 65536).toInt32] hp) (fun v1 hp2 => (if 0 ≤ v1 then rV hp2 l0 9 (bN (R 161 [.ref l0, .int l4, .int l2, .long (0 : Int64)] hp2) (fun  hp3 => some (some (.int (l2 + (1 : Int32))), hp3))) else b_163_90 R hp2))))
theorem t_163_74 {X : mjX} {d C S kc ks : Nat} {R : mjR} (hR : mjC R d) (h1 : kc ≤ C) (h2 : ks ≤ S) : P_163_74 X (d + 1) C S kc ks (b_163_74 R) := by
  intro l0 l2 l4 hp q h
  unfold b_163_74 at h
  refine mjr_iload (x := l4) D_163_74 rfl ?_
  refine mjq_if_le (tgt := 90) D_163_76 rfl h (fun h => ?_) (fun h => ?_)
  · exact mjG.fg (lo' := [none, none, none, none, none, none]) True.intro ((t_163_90 hR h1 h2) _ _ h)
  · refine mjq_ldS (i := 1) (v := 1000002) D_163_79 (by decide +kernel) rfl ?_
    refine mjr_iload (x := l4) D_163_81 rfl ?_
    refine mjr_i2c D_163_83 ?_
    refine mjq_wI (As := [.int ((l4).toUInt32 % 65536).toInt32]) (rest := []) D_163_84 mr_9_94 V_361 rfl rfl rfl hR (Nat.le_refl _) h1 h2 h (fun v1 hp2 h => ?_)
    refine mjq_if_ge (tgt := 92) D_163_87 rfl h (fun h => ?_) (fun h => ?_)
    · refine mjr_aload_n (x := l0) D_163_92 rfl ?_
      refine mjr_iload (x := l4) D_163_93 rfl ?_
      refine mjr_iload_n (x := l2) D_163_95 rfl ?_
      refine mjq_lc (v := (0 : Int64)) D_163_96 rfl ?_
      refine mjq_vN (As := [.int l4, .int l2, .long (0 : Int64)]) (rest := []) D_163_97 mr_9_66 V_161 rfl rfl rfl hR (Nat.le_refl _) h1 h2 h (fun  hp3 h => ?_)
      refine mjr_iload_n (x := l2) D_163_100 rfl ?_
      refine mjq_ic (v := (1 : Int32)) D_163_101 rfl ?_
      refine mjr_iadd D_163_102 ?_
      exact mjq_ret D_163_103 rfl h1 h2 h
    · exact mjG.fg (lo' := [none, none, none, none, none, none]) True.intro ((t_163_90 hR h1 h2) _ _ h)
noncomputable def b_163_65 (R : mjR) (l2 : Int32) (s0 : Nat) (s1 : Int32) (hp : mjH) : mjU := rV hp s0 9 (bN (R 161 [.ref s0, .int s1, .int l2, .long (0 : Int64)] hp) (fun  hp1 => some (some (.int (l2 + (2 : Int32))), hp1)))
theorem t_163_65 {X : mjX} {d C S kc ks : Nat} {R : mjR} (hR : mjC R d) (h1 : kc ≤ C) (h2 : ks ≤ S) : P_163_65 X (d + 1) C S kc ks (b_163_65 R) := by
  intro l2 s0 s1 hp q h
  unfold b_163_65 at h
  refine mjr_iload_n (x := l2) D_163_65 rfl ?_
  refine mjq_lc (v := (0 : Int64)) D_163_66 rfl ?_
  refine mjq_vN (As := [.int s1, .int l2, .long (0 : Int64)]) (rest := []) D_163_67 mr_9_66 V_161 rfl rfl rfl hR (Nat.le_refl _) h1 h2 h (fun  hp1 h => ?_)
  refine mjr_iload_n (x := l2) D_163_70 rfl ?_
  refine mjq_ic (v := (2 : Int32)) D_163_71 rfl ?_
  refine mjr_iadd D_163_72 ?_
  exact mjq_ret D_163_73 rfl h1 h2 h
noncomputable def b_163_48 (R : mjR) (l0 : Nat) (l2 : Int32) (l4 : Int32) (hp : mjH) : mjU := (if l4 = (61 : Int32) then b_163_65 R l2 l0 (200 : Int32) hp else b_163_65 R l2 l0 (201 : Int32) hp)
theorem t_163_48 {X : mjX} {d C S kc ks : Nat} {R : mjR} (hR : mjC R d) (h1 : kc ≤ C) (h2 : ks ≤ S) : P_163_48 X (d + 1) C S kc ks (b_163_48 R) := by
  intro l0 l2 l4 hp q h
  unfold b_163_48 at h
  refine mjr_aload_n (x := l0) D_163_48 rfl ?_
  refine mjr_iload (x := l4) D_163_49 rfl ?_
  refine mjq_bi (v := (61 : Int32)) D_163_51 rfl ?_
  refine mjq_icmp_ne (tgt := 62) D_163_53 rfl h (fun h => ?_) (fun h => ?_)
  · refine mjq_si (v := (201 : Int32)) D_163_62 rfl ?_
    exact mjG.fg (lo' := [none, none, some (.int l2), none, none, none]) (And.intro rfl True.intro) ((t_163_65 hR h1 h2) _ _ _ _ _ h)
  · refine mjq_si (v := (200 : Int32)) D_163_56 rfl ?_
    refine mjr_goto (tgt := 65) D_163_59 rfl ?_
    exact mjG.fg (lo' := [none, none, some (.int l2), none, none, none]) (And.intro rfl True.intro) ((t_163_65 hR h1 h2) _ _ _ _ _ h)
noncomputable def b_163_27 (R : mjR) (l0 : Nat) (l2 : Int32) (l4 : Int32) (s0 : Int32) (hp : mjH) : mjU := (if s0 = 0 then b_163_74 R l0 l2 l4 hp else (if l4 = (61 : Int32) then b_163_48 R l0 l2 l4 hp else (if l4 = (33 : Int32) then b_163_48 R l0 l2 l4 hp else b_163_74 R l0 l2 l4 hp)))
theorem t_163_27 {X : mjX} {d C S kc ks : Nat} {R : mjR} (hR : mjC R d) (h1 : kc ≤ C) (h2 : ks ≤ S) : P_163_27 X (d + 1) C S kc ks (b_163_27 R) := by
  intro l0 l2 l4 s0 hp q h
  unfold b_163_27 at h
  refine mjq_istore (lo' := [some (.ref l0), none, some (.int l2), none, some (.int l4), some (.int s0)]) D_163_27 (Nat.le_of_ble_eq_true rfl) rfl ?_
  refine mjr_iload (x := s0) D_163_29 rfl ?_
  refine mjq_if_eq (tgt := 74) D_163_31 rfl h (fun h => ?_) (fun h => ?_)
  · exact mjG.fg (lo' := [some (.ref l0), none, some (.int l2), none, some (.int l4), none]) (And.intro rfl (And.intro rfl (And.intro rfl True.intro))) ((t_163_74 hR h1 h2) _ _ _ _ _ h)
  · refine mjr_iload (x := l4) D_163_34 rfl ?_
    refine mjq_bi (v := (61 : Int32)) D_163_36 rfl ?_
    refine mjq_icmp_eq (tgt := 48) D_163_38 rfl h (fun h => ?_) (fun h => ?_)
    · exact mjG.fg (lo' := [some (.ref l0), none, some (.int l2), none, some (.int l4), none]) (And.intro rfl (And.intro rfl (And.intro rfl True.intro))) ((t_163_48 hR h1 h2) _ _ _ _ _ h)
    · refine mjr_iload (x := l4) D_163_41 rfl ?_
      refine mjq_bi (v := (33 : Int32)) D_163_43 rfl ?_
      refine mjq_icmp_ne (tgt := 74) D_163_45 rfl h (fun h => ?_) (fun h => ?_)
      · exact mjG.fg (lo' := [some (.ref l0), none, some (.int l2), none, some (.int l4), none]) (And.intro rfl (And.intro rfl (And.intro rfl True.intro))) ((t_163_74 hR h1 h2) _ _ _ _ _ h)
      · exact mjG.fg (lo' := [some (.ref l0), none, some (.int l2), none, some (.int l4), none]) (And.intro rfl (And.intro rfl (And.intro rfl True.intro))) ((t_163_48 hR h1 h2) _ _ _ _ _ h)
noncomputable def b_163_26 (R : mjR) (l0 : Nat) (l2 : Int32) (l4 : Int32) (hp : mjH) : mjU := b_163_27 R l0 l2 l4 (0 : Int32) hp
theorem t_163_26 {X : mjX} {d C S kc ks : Nat} {R : mjR} (hR : mjC R d) (h1 : kc ≤ C) (h2 : ks ≤ S) : P_163_26 X (d + 1) C S kc ks (b_163_26 R) := by
  intro l0 l2 l4 hp q h
  unfold b_163_26 at h
  refine mjq_ic (v := (0 : Int32)) D_163_26 rfl ?_
  exact (t_163_27 hR h1 h2) _ _ _ _ _ _ h
noncomputable def b_163_0 (R : mjR) (l0 : Nat) (l1 : Nat) (l2 : Int32) (l3 : Int32) (hp : mjH) : mjU := aB hp l1 l2 (fun v1 => (if l3 ≤ (l2 + (1 : Int32)) then b_163_26 R l0 l2 v1 hp else aB hp l1 (l2 + (1 : Int32)) (fun v2 => (if v2 = (61 : Int32) then b_163_27 R l0 l2 v1 (1 : Int32) hp else b_163_26 R l0 l2 v1 hp))))
theorem t_163_0 {X : mjX} {d C S kc ks : Nat} {R : mjR} (hR : mjC R d) (h1 : kc ≤ C) (h2 : ks ≤ S) : P_163_0 X (d + 1) C S kc ks (b_163_0 R) := by
  intro l0 l1 l2 l3 hp q h
  unfold b_163_0 at h
  refine mjr_aload_n (x := l1) D_163_0 rfl ?_
  refine mjr_iload_n (x := l2) D_163_1 rfl ?_
  refine mjq_aB D_163_2 h (fun v1 h => ?_)
  refine mjq_istore (lo' := [some (.ref l0), some (.ref l1), some (.int l2), some (.int l3), some (.int v1), none]) D_163_3 (Nat.le_of_ble_eq_true rfl) rfl ?_
  refine mjr_iload_n (x := l2) D_163_5 rfl ?_
  refine mjq_ic (v := (1 : Int32)) D_163_6 rfl ?_
  refine mjr_iadd D_163_7 ?_
  refine mjr_iload_n (x := l3) D_163_8 rfl ?_
  refine mjq_icmp_ge (tgt := 26) D_163_9 rfl h (fun h => ?_) (fun h => ?_)
  · exact mjG.fg (lo' := [some (.ref l0), none, some (.int l2), none, some (.int v1), none]) (And.intro rfl (And.intro rfl (And.intro rfl True.intro))) ((t_163_26 hR h1 h2) _ _ _ _ _ h)
  · refine mjr_aload_n (x := l1) D_163_12 rfl ?_
    refine mjr_iload_n (x := l2) D_163_13 rfl ?_
    refine mjq_ic (v := (1 : Int32)) D_163_14 rfl ?_
    refine mjr_iadd D_163_15 ?_
    refine mjq_aB D_163_16 h (fun v2 h => ?_)
    refine mjq_bi (v := (61 : Int32)) D_163_17 rfl ?_
    refine mjq_icmp_ne (tgt := 26) D_163_19 rfl h (fun h => ?_) (fun h => ?_)
    · exact mjG.fg (lo' := [some (.ref l0), none, some (.int l2), none, some (.int v1), none]) (And.intro rfl (And.intro rfl (And.intro rfl True.intro))) ((t_163_26 hR h1 h2) _ _ _ _ _ h)
    · refine mjq_ic (v := (1 : Int32)) D_163_22 rfl ?_
      refine mjr_goto (tgt := 27) D_163_23 rfl ?_
      exact mjG.fg (lo' := [some (.ref l0), none, some (.int l2), none, some (.int v1), none]) (And.intro rfl (And.intro rfl (And.intro rfl True.intro))) ((t_163_27 hR h1 h2) _ _ _ _ _ _ h)
noncomputable def f_163 (R : mjR) (a0 : Nat) (a1 : Nat) (a2 : Int32) (a3 : Int32) (hp : mjH) : mjU := b_163_0 R a0 a1 a2 a3 hp
theorem c_163 {R : mjR} {d : Nat} (hR : mjC R d) {a0 : Nat} {a1 : Nat} {a2 : Int32} {a3 : Int32} {hp : mjH} {q : Option Value × mjH} (h : f_163 R a0 a1 a2 a3 hp = some q) : mjM (d + 1) 0 0 163 [.ref a0, .ref a1, .int a2, .int a3] hp (mjEq q) :=
  mjM_of Ja_163 (Nat.le_of_ble_eq_true rfl) (mjG.fg (lo' := [some (.ref a0), some (.ref a1), some (.int a2), some (.int a3), none, none]) (And.intro rfl (And.intro rfl (And.intro rfl (And.intro rfl True.intro)))) ((t_163_0 hR (Nat.le_refl 0) (Nat.le_refl 0)) a0 a1 a2 a3 hp q h))
def J_164 : mjI := (⟨"OwnerHeap$Tokens", "is", "(I)Z"⟩, 9, prog_11_method_15_code, 2, (some .boolean), 1, false)
theorem Ja_164 : mjMt 164 = some J_164 := by rfl
theorem D_164_0 : decode J_164.2.2.1 0 = .ok (.aload_n 0, 1) := dzq_42 (by decide +kernel)
theorem D_164_1 : decode J_164.2.2.1 1 = .ok (.getfield 15, 3) := dzq_180 (by decide +kernel)
theorem D_164_4 : decode J_164.2.2.1 4 = .ok (.aload_n 0, 1) := dzq_42 (by decide +kernel)
theorem D_164_5 : decode J_164.2.2.1 5 = .ok (.getfield 50, 3) := dzq_180 (by decide +kernel)
theorem D_164_8 : decode J_164.2.2.1 8 = .ok (.iaload, 1) := dzq_46 (by decide +kernel)
theorem D_164_9 : decode J_164.2.2.1 9 = .ok (.iload_n 1, 1) := dzq_27 (by decide +kernel)
theorem D_164_10 : decode J_164.2.2.1 10 = .ok (.if_icmp .ne 7, 3) := dzq_160 (by decide +kernel)
theorem D_164_13 : decode J_164.2.2.1 13 = .ok (.iconst 1, 1) := dzq_4 (by decide +kernel)
theorem D_164_14 : decode J_164.2.2.1 14 = .ok (.goto 4, 3) := dzq_167 (by decide +kernel)
theorem D_164_17 : decode J_164.2.2.1 17 = .ok (.iconst 0, 1) := dzq_3 (by decide +kernel)
theorem D_164_18 : decode J_164.2.2.1 18 = .ok (.ireturn, 1) := dzq_172 (by decide +kernel)
def P_164_0 (X : mjX) (d C S kc ks : Nat) (k : Nat → Int32 → mjH → mjU) : Prop := ∀ (l0 : Nat) (l1 : Int32) (hp : mjH) (q : Option Value × mjH), k l0 l1 hp = some q → mjG X d C S J_164 (mjEq q) 0 [some (.ref l0), some (.int l1)] [] hp kc ks
noncomputable def b_164_0 (R : mjR) (l0 : Nat) (l1 : Int32) (hp : mjH) : mjU := gR hp l0 9 1 (fun v1 => gI hp l0 9 6 (fun v2 => aI hp v1 v2 (fun v3 => (if v3 = l1 then some (some (.int (1 : Int32)), hp) else some (some (.int (0 : Int32)), hp)))))
theorem t_164_0 {X : mjX} {d C S kc ks : Nat} {R : mjR} (hR : mjC R d) (h1 : kc ≤ C) (h2 : ks ≤ S) : P_164_0 X (d + 1) C S kc ks (b_164_0 R) := by
  intro l0 l1 hp q h
  unfold b_164_0 at h
  refine mjr_aload_n (x := l0) D_164_0 rfl ?_
  refine mjq_gR D_164_1 fr_9_15 h (fun v1 h => ?_)
  refine mjr_aload_n (x := l0) D_164_4 rfl ?_
  refine mjq_gI D_164_5 fr_9_50 h (fun v2 h => ?_)
  refine mjq_aI D_164_8 h (fun v3 h => ?_)
  refine mjr_iload_n (x := l1) D_164_9 rfl ?_
  refine mjq_icmp_ne (tgt := 17) D_164_10 rfl h (fun h => ?_) (fun h => ?_)
  · refine mjq_ic (v := (0 : Int32)) D_164_17 rfl ?_
    exact mjr_ireturn D_164_18 rfl rfl h1 h2 (Option.some.inj h)
  · refine mjq_ic (v := (1 : Int32)) D_164_13 rfl ?_
    refine mjr_goto (tgt := 18) D_164_14 rfl ?_
    exact mjr_ireturn D_164_18 rfl rfl h1 h2 (Option.some.inj h)
noncomputable def f_164 (R : mjR) (a0 : Nat) (a1 : Int32) (hp : mjH) : mjU := b_164_0 R a0 a1 hp
theorem c_164 {R : mjR} {d : Nat} (hR : mjC R d) {a0 : Nat} {a1 : Int32} {hp : mjH} {q : Option Value × mjH} (h : f_164 R a0 a1 hp = some q) : mjM (d + 1) 0 0 164 [.ref a0, .int a1] hp (mjEq q) :=
  mjM_of Ja_164 (Nat.le_of_ble_eq_true rfl) (mjG.fg (lo' := [some (.ref a0), some (.int a1)]) (And.intro rfl (And.intro rfl True.intro)) ((t_164_0 hR (Nat.le_refl 0) (Nat.le_refl 0)) a0 a1 hp q h))
def J_165 : mjI := (⟨"OwnerHeap$Tokens", "refuse", "(I)V"⟩, 9, prog_11_method_29_code, 2, none, 1, false)
theorem Ja_165 : mjMt 165 = some J_165 := by rfl
theorem D_165_0 : decode J_165.2.2.1 0 = .ok (.aload_n 0, 1) := dzq_42 (by decide +kernel)
theorem D_165_1 : decode J_165.2.2.1 1 = .ok (.getfield 53, 3) := dzq_180 (by decide +kernel)
theorem D_165_4 : decode J_165.2.2.1 4 = .ok (.ifCond .ne 38, 3) := dzq_154 (by decide +kernel)
theorem D_165_7 : decode J_165.2.2.1 7 = .ok (.aload_n 0, 1) := dzq_42 (by decide +kernel)
theorem D_165_8 : decode J_165.2.2.1 8 = .ok (.aload_n 0, 1) := dzq_42 (by decide +kernel)
theorem D_165_9 : decode J_165.2.2.1 9 = .ok (.getfield 15, 3) := dzq_180 (by decide +kernel)
theorem D_165_12 : decode J_165.2.2.1 12 = .ok (.aload_n 0, 1) := dzq_42 (by decide +kernel)
theorem D_165_13 : decode J_165.2.2.1 13 = .ok (.getfield 50, 3) := dzq_180 (by decide +kernel)
theorem D_165_16 : decode J_165.2.2.1 16 = .ok (.iaload, 1) := dzq_46 (by decide +kernel)
theorem D_165_17 : decode J_165.2.2.1 17 = .ok (.iconst 1, 1) := dzq_4 (by decide +kernel)
theorem D_165_18 : decode J_165.2.2.1 18 = .ok (.if_icmp .ne 7, 3) := dzq_160 (by decide +kernel)
theorem D_165_21 : decode J_165.2.2.1 21 = .ok (.iconst 1, 1) := dzq_4 (by decide +kernel)
theorem D_165_22 : decode J_165.2.2.1 22 = .ok (.goto 4, 3) := dzq_167 (by decide +kernel)
theorem D_165_25 : decode J_165.2.2.1 25 = .ok (.iload_n 1, 1) := dzq_27 (by decide +kernel)
theorem D_165_26 : decode J_165.2.2.1 26 = .ok (.putfield 53, 3) := dzq_181 (by decide +kernel)
theorem D_165_29 : decode J_165.2.2.1 29 = .ok (.aload_n 0, 1) := dzq_42 (by decide +kernel)
theorem D_165_30 : decode J_165.2.2.1 30 = .ok (.aload_n 0, 1) := dzq_42 (by decide +kernel)
theorem D_165_31 : decode J_165.2.2.1 31 = .ok (.getfield 19, 3) := dzq_180 (by decide +kernel)
theorem D_165_34 : decode J_165.2.2.1 34 = .ok (.aload_n 0, 1) := dzq_42 (by decide +kernel)
theorem D_165_35 : decode J_165.2.2.1 35 = .ok (.getfield 50, 3) := dzq_180 (by decide +kernel)
theorem D_165_38 : decode J_165.2.2.1 38 = .ok (.iaload, 1) := dzq_46 (by decide +kernel)
theorem D_165_39 : decode J_165.2.2.1 39 = .ok (.putfield 56, 3) := dzq_181 (by decide +kernel)
theorem D_165_42 : decode J_165.2.2.1 42 = .ok (.aload_n 0, 1) := dzq_42 (by decide +kernel)
theorem D_165_43 : decode J_165.2.2.1 43 = .ok (.aload_n 0, 1) := dzq_42 (by decide +kernel)
theorem D_165_44 : decode J_165.2.2.1 44 = .ok (.getfield 46, 3) := dzq_180 (by decide +kernel)
theorem D_165_47 : decode J_165.2.2.1 47 = .ok (.iconst 1, 1) := dzq_4 (by decide +kernel)
theorem D_165_48 : decode J_165.2.2.1 48 = .ok (.isub, 1) := dzq_100 (by decide +kernel)
theorem D_165_49 : decode J_165.2.2.1 49 = .ok (.putfield 50, 3) := dzq_181 (by decide +kernel)
theorem D_165_52 : decode J_165.2.2.1 52 = .ok (.return_, 1) := dzq_177 (by decide +kernel)
def P_165_42 (X : mjX) (d C S kc ks : Nat) (k : Nat → mjH → mjU) : Prop := ∀ (l0 : Nat) (hp : mjH) (q : Option Value × mjH), k l0 hp = some q → mjG X d C S J_165 (mjEq q) 42 [some (.ref l0), none] [] hp kc ks
def P_165_26 (X : mjX) (d C S kc ks : Nat) (k : Nat → Nat → Int32 → mjH → mjU) : Prop := ∀ (l0 : Nat) (s0 : Nat) (s1 : Int32) (hp : mjH) (q : Option Value × mjH), k l0 s0 s1 hp = some q → mjG X d C S J_165 (mjEq q) 26 [some (.ref l0), none] [.int s1, .ref s0] hp kc ks
def P_165_0 (X : mjX) (d C S kc ks : Nat) (k : Nat → Int32 → mjH → mjU) : Prop := ∀ (l0 : Nat) (l1 : Int32) (hp : mjH) (q : Option Value × mjH), k l0 l1 hp = some q → mjG X d C S J_165 (mjEq q) 0 [some (.ref l0), some (.int l1)] [] hp kc ks
noncomputable def b_165_42 (R : mjR) (l0 : Nat) (hp : mjH) : mjU := gI hp l0 9 5 (fun v1 => pI hp l0 9 6 (v1 - (1 : Int32)) (fun hp2 => some (none, hp2)))
theorem t_165_42 {X : mjX} {d C S kc ks : Nat} {R : mjR} (hR : mjC R d) (h1 : kc ≤ C) (h2 : ks ≤ S) : P_165_42 X (d + 1) C S kc ks (b_165_42 R) := by
  intro l0 hp q h
  unfold b_165_42 at h
  refine mjr_aload_n (x := l0) D_165_42 rfl ?_
  refine mjr_aload_n (x := l0) D_165_43 rfl ?_
  refine mjq_gI D_165_44 fr_9_46 h (fun v1 h => ?_)
  refine mjq_ic (v := (1 : Int32)) D_165_47 rfl ?_
  refine mjr_isub D_165_48 ?_
  refine mjq_pI D_165_49 fr_9_50 rfl rfl h (fun hp2 h => ?_)
  exact mjq_nret D_165_52 rfl h1 h2 h
noncomputable def b_165_26 (R : mjR) (l0 : Nat) (s0 : Nat) (s1 : Int32) (hp : mjH) : mjU := pI hp s0 9 7 s1 (fun hp1 => gR hp1 l0 9 2 (fun v2 => gI hp1 l0 9 6 (fun v3 => aI hp1 v2 v3 (fun v4 => pI hp1 l0 9 8 v4 (fun hp5 => b_165_42 R l0 hp5)))))
theorem t_165_26 {X : mjX} {d C S kc ks : Nat} {R : mjR} (hR : mjC R d) (h1 : kc ≤ C) (h2 : ks ≤ S) : P_165_26 X (d + 1) C S kc ks (b_165_26 R) := by
  intro l0 s0 s1 hp q h
  unfold b_165_26 at h
  refine mjq_pI D_165_26 fr_9_53 rfl rfl h (fun hp1 h => ?_)
  refine mjr_aload_n (x := l0) D_165_29 rfl ?_
  refine mjr_aload_n (x := l0) D_165_30 rfl ?_
  refine mjq_gR D_165_31 fr_9_19 h (fun v2 h => ?_)
  refine mjr_aload_n (x := l0) D_165_34 rfl ?_
  refine mjq_gI D_165_35 fr_9_50 h (fun v3 h => ?_)
  refine mjq_aI D_165_38 h (fun v4 h => ?_)
  refine mjq_pI D_165_39 fr_9_56 rfl rfl h (fun hp5 h => ?_)
  exact (t_165_42 hR h1 h2) _ _ _ h
noncomputable def b_165_0 (R : mjR) (l0 : Nat) (l1 : Int32) (hp : mjH) : mjU := gI hp l0 9 7 (fun v1 => (if v1 = 0 then gR hp l0 9 1 (fun v2 => gI hp l0 9 6 (fun v3 => aI hp v2 v3 (fun v4 => (if v4 = (1 : Int32) then b_165_26 R l0 l0 (1 : Int32) hp else b_165_26 R l0 l0 l1 hp)))) else b_165_42 R l0 hp))
theorem t_165_0 {X : mjX} {d C S kc ks : Nat} {R : mjR} (hR : mjC R d) (h1 : kc ≤ C) (h2 : ks ≤ S) : P_165_0 X (d + 1) C S kc ks (b_165_0 R) := by
  intro l0 l1 hp q h
  unfold b_165_0 at h
  refine mjr_aload_n (x := l0) D_165_0 rfl ?_
  refine mjq_gI D_165_1 fr_9_53 h (fun v1 h => ?_)
  refine mjq_if_ne (tgt := 42) D_165_4 rfl h (fun h => ?_) (fun h => ?_)
  · exact mjG.fg (lo' := [some (.ref l0), none]) (And.intro rfl True.intro) ((t_165_42 hR h1 h2) _ _ _ h)
  · refine mjr_aload_n (x := l0) D_165_7 rfl ?_
    refine mjr_aload_n (x := l0) D_165_8 rfl ?_
    refine mjq_gR D_165_9 fr_9_15 h (fun v2 h => ?_)
    refine mjr_aload_n (x := l0) D_165_12 rfl ?_
    refine mjq_gI D_165_13 fr_9_50 h (fun v3 h => ?_)
    refine mjq_aI D_165_16 h (fun v4 h => ?_)
    refine mjq_ic (v := (1 : Int32)) D_165_17 rfl ?_
    refine mjq_icmp_ne (tgt := 25) D_165_18 rfl h (fun h => ?_) (fun h => ?_)
    · refine mjr_iload_n (x := l1) D_165_25 rfl ?_
      exact mjG.fg (lo' := [some (.ref l0), none]) (And.intro rfl True.intro) ((t_165_26 hR h1 h2) _ _ _ _ _ h)
    · refine mjq_ic (v := (1 : Int32)) D_165_21 rfl ?_
      refine mjr_goto (tgt := 26) D_165_22 rfl ?_
      exact mjG.fg (lo' := [some (.ref l0), none]) (And.intro rfl True.intro) ((t_165_26 hR h1 h2) _ _ _ _ _ h)
noncomputable def f_165 (R : mjR) (a0 : Nat) (a1 : Int32) (hp : mjH) : mjU := b_165_0 R a0 a1 hp
theorem c_165 {R : mjR} {d : Nat} (hR : mjC R d) {a0 : Nat} {a1 : Int32} {hp : mjH} {q : Option Value × mjH} (h : f_165 R a0 a1 hp = some q) : mjM (d + 1) 0 0 165 [.ref a0, .int a1] hp (mjEq q) :=
  mjM_of Ja_165 (Nat.le_of_ble_eq_true rfl) (mjG.fg (lo' := [some (.ref a0), some (.int a1)]) (And.intro rfl (And.intro rfl True.intro)) ((t_165_0 hR (Nat.le_refl 0) (Nat.le_refl 0)) a0 a1 hp q h))
def J_166 : mjI := (⟨"OwnerHeap$Tokens", "skip", "()V"⟩, 9, prog_11_method_22_code, 1, none, 0, false)
theorem Ja_166 : mjMt 166 = some J_166 := by rfl
theorem D_166_0 : decode J_166.2.2.1 0 = .ok (.aload_n 0, 1) := dzq_42 (by decide +kernel)
theorem D_166_1 : decode J_166.2.2.1 1 = .ok (.getfield 50, 3) := dzq_180 (by decide +kernel)
theorem D_166_4 : decode J_166.2.2.1 4 = .ok (.aload_n 0, 1) := dzq_42 (by decide +kernel)
theorem D_166_5 : decode J_166.2.2.1 5 = .ok (.getfield 46, 3) := dzq_180 (by decide +kernel)
theorem D_166_8 : decode J_166.2.2.1 8 = .ok (.iconst 1, 1) := dzq_4 (by decide +kernel)
theorem D_166_9 : decode J_166.2.2.1 9 = .ok (.isub, 1) := dzq_100 (by decide +kernel)
theorem D_166_10 : decode J_166.2.2.1 10 = .ok (.if_icmp .ge 13, 3) := dzq_162 (by decide +kernel)
theorem D_166_13 : decode J_166.2.2.1 13 = .ok (.aload_n 0, 1) := dzq_42 (by decide +kernel)
theorem D_166_14 : decode J_166.2.2.1 14 = .ok (.dup, 1) := dzq_89 (by decide +kernel)
theorem D_166_15 : decode J_166.2.2.1 15 = .ok (.getfield 50, 3) := dzq_180 (by decide +kernel)
theorem D_166_18 : decode J_166.2.2.1 18 = .ok (.iconst 1, 1) := dzq_4 (by decide +kernel)
theorem D_166_19 : decode J_166.2.2.1 19 = .ok (.iadd, 1) := dzq_96 (by decide +kernel)
theorem D_166_20 : decode J_166.2.2.1 20 = .ok (.putfield 50, 3) := dzq_181 (by decide +kernel)
theorem D_166_23 : decode J_166.2.2.1 23 = .ok (.return_, 1) := dzq_177 (by decide +kernel)
def P_166_0 (X : mjX) (d C S kc ks : Nat) (k : Nat → mjH → mjU) : Prop := ∀ (l0 : Nat) (hp : mjH) (q : Option Value × mjH), k l0 hp = some q → mjG X d C S J_166 (mjEq q) 0 [some (.ref l0)] [] hp kc ks
noncomputable def b_166_0 (R : mjR) (l0 : Nat) (hp : mjH) : mjU := gI hp l0 9 6 (fun v1 => gI hp l0 9 5 (fun v2 => (if (v2 - (1 : Int32)) ≤ v1 then some (none, hp) else gI hp l0 9 6 (fun v3 => pI hp l0 9 6 (v3 + (1 : Int32)) (fun hp4 => some (none, hp4))))))
theorem t_166_0 {X : mjX} {d C S kc ks : Nat} {R : mjR} (hR : mjC R d) (h1 : kc ≤ C) (h2 : ks ≤ S) : P_166_0 X (d + 1) C S kc ks (b_166_0 R) := by
  intro l0 hp q h
  unfold b_166_0 at h
  refine mjr_aload_n (x := l0) D_166_0 rfl ?_
  refine mjq_gI D_166_1 fr_9_50 h (fun v1 h => ?_)
  refine mjr_aload_n (x := l0) D_166_4 rfl ?_
  refine mjq_gI D_166_5 fr_9_46 h (fun v2 h => ?_)
  refine mjq_ic (v := (1 : Int32)) D_166_8 rfl ?_
  refine mjr_isub D_166_9 ?_
  refine mjq_icmp_ge (tgt := 23) D_166_10 rfl h (fun h => ?_) (fun h => ?_)
  · exact mjq_nret D_166_23 rfl h1 h2 h
  · refine mjr_aload_n (x := l0) D_166_13 rfl ?_
    refine mjr_dup D_166_14 rfl ?_
    refine mjq_gI D_166_15 fr_9_50 h (fun v3 h => ?_)
    refine mjq_ic (v := (1 : Int32)) D_166_18 rfl ?_
    refine mjr_iadd D_166_19 ?_
    refine mjq_pI D_166_20 fr_9_50 rfl rfl h (fun hp4 h => ?_)
    exact mjq_nret D_166_23 rfl h1 h2 h
noncomputable def f_166 (R : mjR) (a0 : Nat) (hp : mjH) : mjU := b_166_0 R a0 hp
theorem c_166 {R : mjR} {d : Nat} (hR : mjC R d) {a0 : Nat} {hp : mjH} {q : Option Value × mjH} (h : f_166 R a0 hp = some q) : mjM (d + 1) 0 0 166 [.ref a0] hp (mjEq q) :=
  mjM_of Ja_166 (Nat.le_of_ble_eq_true rfl) (mjG.fg (lo' := [some (.ref a0)]) (And.intro rfl True.intro) ((t_166_0 hR (Nat.le_refl 0) (Nat.le_refl 0)) a0 hp q h))
def J_167 : mjI := (⟨"OwnerHeap$Tokens", "now", "()I"⟩, 9, prog_11_method_14_code, 1, (some .int), 0, false)
theorem Ja_167 : mjMt 167 = some J_167 := by rfl
theorem D_167_0 : decode J_167.2.2.1 0 = .ok (.aload_n 0, 1) := dzq_42 (by decide +kernel)
theorem D_167_1 : decode J_167.2.2.1 1 = .ok (.getfield 50, 3) := dzq_180 (by decide +kernel)
theorem D_167_4 : decode J_167.2.2.1 4 = .ok (.ireturn, 1) := dzq_172 (by decide +kernel)
def P_167_0 (X : mjX) (d C S kc ks : Nat) (k : Nat → mjH → mjU) : Prop := ∀ (l0 : Nat) (hp : mjH) (q : Option Value × mjH), k l0 hp = some q → mjG X d C S J_167 (mjEq q) 0 [some (.ref l0)] [] hp kc ks
noncomputable def b_167_0 (R : mjR) (l0 : Nat) (hp : mjH) : mjU := gI hp l0 9 6 (fun v1 => some (some (.int v1), hp))
theorem t_167_0 {X : mjX} {d C S kc ks : Nat} {R : mjR} (hR : mjC R d) (h1 : kc ≤ C) (h2 : ks ≤ S) : P_167_0 X (d + 1) C S kc ks (b_167_0 R) := by
  intro l0 hp q h
  unfold b_167_0 at h
  refine mjr_aload_n (x := l0) D_167_0 rfl ?_
  refine mjq_gI D_167_1 fr_9_50 h (fun v1 h => ?_)
  exact mjq_ret D_167_4 rfl h1 h2 h
noncomputable def f_167 (R : mjR) (a0 : Nat) (hp : mjH) : mjU := b_167_0 R a0 hp
theorem c_167 {R : mjR} {d : Nat} (hR : mjC R d) {a0 : Nat} {hp : mjH} {q : Option Value × mjH} (h : f_167 R a0 hp = some q) : mjM (d + 1) 0 0 167 [.ref a0] hp (mjEq q) :=
  mjM_of Ja_167 (Nat.le_of_ble_eq_true rfl) (mjG.fg (lo' := [some (.ref a0)]) (And.intro rfl True.intro) ((t_167_0 hR (Nat.le_refl 0) (Nat.le_refl 0)) a0 hp q h))
def J_168 : mjI := (⟨"OwnerHeap$Tokens", "placeAt", "(I)I"⟩, 9, prog_11_method_19_code, 2, (some .int), 1, false)
theorem Ja_168 : mjMt 168 = some J_168 := by rfl
theorem D_168_0 : decode J_168.2.2.1 0 = .ok (.iload_n 1, 1) := dzq_27 (by decide +kernel)
theorem D_168_1 : decode J_168.2.2.1 1 = .ok (.ifCond .lt 20, 3) := dzq_155 (by decide +kernel)
theorem D_168_4 : decode J_168.2.2.1 4 = .ok (.iload_n 1, 1) := dzq_27 (by decide +kernel)
theorem D_168_5 : decode J_168.2.2.1 5 = .ok (.aload_n 0, 1) := dzq_42 (by decide +kernel)
theorem D_168_6 : decode J_168.2.2.1 6 = .ok (.getfield 46, 3) := dzq_180 (by decide +kernel)
theorem D_168_9 : decode J_168.2.2.1 9 = .ok (.if_icmp .ge 12, 3) := dzq_162 (by decide +kernel)
theorem D_168_12 : decode J_168.2.2.1 12 = .ok (.aload_n 0, 1) := dzq_42 (by decide +kernel)
theorem D_168_13 : decode J_168.2.2.1 13 = .ok (.getfield 19, 3) := dzq_180 (by decide +kernel)
theorem D_168_16 : decode J_168.2.2.1 16 = .ok (.iload_n 1, 1) := dzq_27 (by decide +kernel)
theorem D_168_17 : decode J_168.2.2.1 17 = .ok (.iaload, 1) := dzq_46 (by decide +kernel)
theorem D_168_18 : decode J_168.2.2.1 18 = .ok (.goto 4, 3) := dzq_167 (by decide +kernel)
theorem D_168_21 : decode J_168.2.2.1 21 = .ok (.iconst (-1), 1) := dzq_2 (by decide +kernel)
theorem D_168_22 : decode J_168.2.2.1 22 = .ok (.ireturn, 1) := dzq_172 (by decide +kernel)
def P_168_21 (X : mjX) (d C S kc ks : Nat) (k : mjH → mjU) : Prop := ∀  (hp : mjH) (q : Option Value × mjH), k  hp = some q → mjG X d C S J_168 (mjEq q) 21 [none, none] [] hp kc ks
def P_168_0 (X : mjX) (d C S kc ks : Nat) (k : Nat → Int32 → mjH → mjU) : Prop := ∀ (l0 : Nat) (l1 : Int32) (hp : mjH) (q : Option Value × mjH), k l0 l1 hp = some q → mjG X d C S J_168 (mjEq q) 0 [some (.ref l0), some (.int l1)] [] hp kc ks
noncomputable def b_168_21 (R : mjR)  (hp : mjH) : mjU := some (some (.int (-1 : Int32)), hp)
theorem t_168_21 {X : mjX} {d C S kc ks : Nat} {R : mjR} (hR : mjC R d) (h1 : kc ≤ C) (h2 : ks ≤ S) : P_168_21 X (d + 1) C S kc ks (b_168_21 R) := by
  intro  hp q h
  unfold b_168_21 at h
  refine mjq_ic (v := (-1 : Int32)) D_168_21 rfl ?_
  exact mjq_ret D_168_22 rfl h1 h2 h
noncomputable def b_168_0 (R : mjR) (l0 : Nat) (l1 : Int32) (hp : mjH) : mjU := (if l1 < 0 then b_168_21 R hp else gI hp l0 9 5 (fun v1 => (if v1 ≤ l1 then b_168_21 R hp else gR hp l0 9 2 (fun v2 => aI hp v2 l1 (fun v3 => some (some (.int v3), hp))))))
theorem t_168_0 {X : mjX} {d C S kc ks : Nat} {R : mjR} (hR : mjC R d) (h1 : kc ≤ C) (h2 : ks ≤ S) : P_168_0 X (d + 1) C S kc ks (b_168_0 R) := by
  intro l0 l1 hp q h
  unfold b_168_0 at h
  refine mjr_iload_n (x := l1) D_168_0 rfl ?_
  refine mjq_if_lt (tgt := 21) D_168_1 rfl h (fun h => ?_) (fun h => ?_)
  · exact mjG.fg (lo' := [none, none]) True.intro ((t_168_21 hR h1 h2) _ _ h)
  · refine mjr_iload_n (x := l1) D_168_4 rfl ?_
    refine mjr_aload_n (x := l0) D_168_5 rfl ?_
    refine mjq_gI D_168_6 fr_9_46 h (fun v1 h => ?_)
    refine mjq_icmp_ge (tgt := 21) D_168_9 rfl h (fun h => ?_) (fun h => ?_)
    · exact mjG.fg (lo' := [none, none]) True.intro ((t_168_21 hR h1 h2) _ _ h)
    · refine mjr_aload_n (x := l0) D_168_12 rfl ?_
      refine mjq_gR D_168_13 fr_9_19 h (fun v2 h => ?_)
      refine mjr_iload_n (x := l1) D_168_16 rfl ?_
      refine mjq_aI D_168_17 h (fun v3 h => ?_)
      refine mjr_goto (tgt := 22) D_168_18 rfl ?_
      exact mjq_ret D_168_22 rfl h1 h2 h
noncomputable def f_168 (R : mjR) (a0 : Nat) (a1 : Int32) (hp : mjH) : mjU := b_168_0 R a0 a1 hp
theorem c_168 {R : mjR} {d : Nat} (hR : mjC R d) {a0 : Nat} {a1 : Int32} {hp : mjH} {q : Option Value × mjH} (h : f_168 R a0 a1 hp = some q) : mjM (d + 1) 0 0 168 [.ref a0, .int a1] hp (mjEq q) :=
  mjM_of Ja_168 (Nat.le_of_ble_eq_true rfl) (mjG.fg (lo' := [some (.ref a0), some (.int a1)]) (And.intro rfl (And.intro rfl True.intro)) ((t_168_0 hR (Nat.le_refl 0) (Nat.le_refl 0)) a0 a1 hp q h))
def J_169 : mjI := (⟨"OwnerHeap$Tokens", "need", "(I)V"⟩, 9, prog_11_method_24_code, 2, none, 1, false)
theorem Ja_169 : mjMt 169 = some J_169 := by rfl
theorem D_169_0 : decode J_169.2.2.1 0 = .ok (.aload_n 0, 1) := dzq_42 (by decide +kernel)
theorem D_169_1 : decode J_169.2.2.1 1 = .ok (.getfield 15, 3) := dzq_180 (by decide +kernel)
theorem D_169_4 : decode J_169.2.2.1 4 = .ok (.aload_n 0, 1) := dzq_42 (by decide +kernel)
theorem D_169_5 : decode J_169.2.2.1 5 = .ok (.getfield 50, 3) := dzq_180 (by decide +kernel)
theorem D_169_8 : decode J_169.2.2.1 8 = .ok (.iaload, 1) := dzq_46 (by decide +kernel)
theorem D_169_9 : decode J_169.2.2.1 9 = .ok (.iload_n 1, 1) := dzq_27 (by decide +kernel)
theorem D_169_10 : decode J_169.2.2.1 10 = .ok (.if_icmp .ne 20, 3) := dzq_160 (by decide +kernel)
theorem D_169_13 : decode J_169.2.2.1 13 = .ok (.iload_n 1, 1) := dzq_27 (by decide +kernel)
theorem D_169_14 : decode J_169.2.2.1 14 = .ok (.ifCond .eq 16, 3) := dzq_153 (by decide +kernel)
theorem D_169_17 : decode J_169.2.2.1 17 = .ok (.aload_n 0, 1) := dzq_42 (by decide +kernel)
theorem D_169_18 : decode J_169.2.2.1 18 = .ok (.dup, 1) := dzq_89 (by decide +kernel)
theorem D_169_19 : decode J_169.2.2.1 19 = .ok (.getfield 50, 3) := dzq_180 (by decide +kernel)
theorem D_169_22 : decode J_169.2.2.1 22 = .ok (.iconst 1, 1) := dzq_4 (by decide +kernel)
theorem D_169_23 : decode J_169.2.2.1 23 = .ok (.iadd, 1) := dzq_96 (by decide +kernel)
theorem D_169_24 : decode J_169.2.2.1 24 = .ok (.putfield 50, 3) := dzq_181 (by decide +kernel)
theorem D_169_27 : decode J_169.2.2.1 27 = .ok (.goto 8, 3) := dzq_167 (by decide +kernel)
theorem D_169_30 : decode J_169.2.2.1 30 = .ok (.aload_n 0, 1) := dzq_42 (by decide +kernel)
theorem D_169_31 : decode J_169.2.2.1 31 = .ok (.iconst 2, 1) := dzq_5 (by decide +kernel)
theorem D_169_32 : decode J_169.2.2.1 32 = .ok (.invokevirtual 98, 3) := dzq_182 (by decide +kernel)
theorem D_169_35 : decode J_169.2.2.1 35 = .ok (.return_, 1) := dzq_177 (by decide +kernel)
def P_169_30 (X : mjX) (d C S kc ks : Nat) (k : Nat → mjH → mjU) : Prop := ∀ (l0 : Nat) (hp : mjH) (q : Option Value × mjH), k l0 hp = some q → mjG X d C S J_169 (mjEq q) 30 [some (.ref l0), none] [] hp kc ks
def P_169_0 (X : mjX) (d C S kc ks : Nat) (k : Nat → Int32 → mjH → mjU) : Prop := ∀ (l0 : Nat) (l1 : Int32) (hp : mjH) (q : Option Value × mjH), k l0 l1 hp = some q → mjG X d C S J_169 (mjEq q) 0 [some (.ref l0), some (.int l1)] [] hp kc ks
noncomputable def b_169_30 (R : mjR) (l0 : Nat) (hp : mjH) : mjU := rV hp l0 9 (bN (R 165 [.ref l0, .int (2 : Int32)] hp) (fun  hp1 => some (none, hp1)))
theorem t_169_30 {X : mjX} {d C S kc ks : Nat} {R : mjR} (hR : mjC R d) (h1 : kc ≤ C) (h2 : ks ≤ S) : P_169_30 X (d + 1) C S kc ks (b_169_30 R) := by
  intro l0 hp q h
  unfold b_169_30 at h
  refine mjr_aload_n (x := l0) D_169_30 rfl ?_
  refine mjq_ic (v := (2 : Int32)) D_169_31 rfl ?_
  refine mjq_vN (As := [.int (2 : Int32)]) (rest := []) D_169_32 mr_9_98 V_165 rfl rfl rfl hR (Nat.le_refl _) h1 h2 h (fun  hp1 h => ?_)
  exact mjq_nret D_169_35 rfl h1 h2 h
noncomputable def b_169_0 (R : mjR) (l0 : Nat) (l1 : Int32) (hp : mjH) : mjU := gR hp l0 9 1 (fun v1 => gI hp l0 9 6 (fun v2 => aI hp v1 v2 (fun v3 => (if v3 = l1 then (if l1 = 0 then b_169_30 R l0 hp else gI hp l0 9 6 (fun v4 => pI hp l0 9 6 (v4 + (1 : Int32)) (fun hp5 => some (none, hp5)))) else b_169_30 R l0 hp))))
theorem t_169_0 {X : mjX} {d C S kc ks : Nat} {R : mjR} (hR : mjC R d) (h1 : kc ≤ C) (h2 : ks ≤ S) : P_169_0 X (d + 1) C S kc ks (b_169_0 R) := by
  intro l0 l1 hp q h
  unfold b_169_0 at h
  refine mjr_aload_n (x := l0) D_169_0 rfl ?_
  refine mjq_gR D_169_1 fr_9_15 h (fun v1 h => ?_)
  refine mjr_aload_n (x := l0) D_169_4 rfl ?_
  refine mjq_gI D_169_5 fr_9_50 h (fun v2 h => ?_)
  refine mjq_aI D_169_8 h (fun v3 h => ?_)
  refine mjr_iload_n (x := l1) D_169_9 rfl ?_
  refine mjq_icmp_ne (tgt := 30) D_169_10 rfl h (fun h => ?_) (fun h => ?_)
  · exact mjG.fg (lo' := [some (.ref l0), none]) (And.intro rfl True.intro) ((t_169_30 hR h1 h2) _ _ _ h)
  · refine mjr_iload_n (x := l1) D_169_13 rfl ?_
    refine mjq_if_eq (tgt := 30) D_169_14 rfl h (fun h => ?_) (fun h => ?_)
    · exact mjG.fg (lo' := [some (.ref l0), none]) (And.intro rfl True.intro) ((t_169_30 hR h1 h2) _ _ _ h)
    · refine mjr_aload_n (x := l0) D_169_17 rfl ?_
      refine mjr_dup D_169_18 rfl ?_
      refine mjq_gI D_169_19 fr_9_50 h (fun v4 h => ?_)
      refine mjq_ic (v := (1 : Int32)) D_169_22 rfl ?_
      refine mjr_iadd D_169_23 ?_
      refine mjq_pI D_169_24 fr_9_50 rfl rfl h (fun hp5 h => ?_)
      refine mjr_goto (tgt := 35) D_169_27 rfl ?_
      exact mjq_nret D_169_35 rfl h1 h2 h
noncomputable def f_169 (R : mjR) (a0 : Nat) (a1 : Int32) (hp : mjH) : mjU := b_169_0 R a0 a1 hp
theorem c_169 {R : mjR} {d : Nat} (hR : mjC R d) {a0 : Nat} {a1 : Int32} {hp : mjH} {q : Option Value × mjH} (h : f_169 R a0 a1 hp = some q) : mjM (d + 1) 0 0 169 [.ref a0, .int a1] hp (mjEq q) :=
  mjM_of Ja_169 (Nat.le_of_ble_eq_true rfl) (mjG.fg (lo' := [some (.ref a0), some (.int a1)]) (And.intro rfl (And.intro rfl True.intro)) ((t_169_0 hR (Nat.le_refl 0) (Nat.le_refl 0)) a0 a1 hp q h))
def J_170 : mjI := (⟨"OwnerHeap$Tokens", "keyAt", "(I)J"⟩, 9, prog_11_method_18_code, 2, (some .long), 1, false)
theorem Ja_170 : mjMt 170 = some J_170 := by rfl
theorem D_170_0 : decode J_170.2.2.1 0 = .ok (.iload_n 1, 1) := dzq_27 (by decide +kernel)
theorem D_170_1 : decode J_170.2.2.1 1 = .ok (.ifCond .lt 20, 3) := dzq_155 (by decide +kernel)
theorem D_170_4 : decode J_170.2.2.1 4 = .ok (.iload_n 1, 1) := dzq_27 (by decide +kernel)
theorem D_170_5 : decode J_170.2.2.1 5 = .ok (.aload_n 0, 1) := dzq_42 (by decide +kernel)
theorem D_170_6 : decode J_170.2.2.1 6 = .ok (.getfield 46, 3) := dzq_180 (by decide +kernel)
theorem D_170_9 : decode J_170.2.2.1 9 = .ok (.if_icmp .ge 12, 3) := dzq_162 (by decide +kernel)
theorem D_170_12 : decode J_170.2.2.1 12 = .ok (.aload_n 0, 1) := dzq_42 (by decide +kernel)
theorem D_170_13 : decode J_170.2.2.1 13 = .ok (.getfield 22, 3) := dzq_180 (by decide +kernel)
theorem D_170_16 : decode J_170.2.2.1 16 = .ok (.iload_n 1, 1) := dzq_27 (by decide +kernel)
theorem D_170_17 : decode J_170.2.2.1 17 = .ok (.laload, 1) := dzq_47 (by decide +kernel)
theorem D_170_18 : decode J_170.2.2.1 18 = .ok (.goto 4, 3) := dzq_167 (by decide +kernel)
theorem D_170_21 : decode J_170.2.2.1 21 = .ok (.lconst 0, 1) := by decide +kernel
theorem D_170_22 : decode J_170.2.2.1 22 = .ok (.lreturn, 1) := by decide +kernel
def P_170_21 (X : mjX) (d C S kc ks : Nat) (k : mjH → mjU) : Prop := ∀  (hp : mjH) (q : Option Value × mjH), k  hp = some q → mjG X d C S J_170 (mjEq q) 21 [none, none] [] hp kc ks
def P_170_0 (X : mjX) (d C S kc ks : Nat) (k : Nat → Int32 → mjH → mjU) : Prop := ∀ (l0 : Nat) (l1 : Int32) (hp : mjH) (q : Option Value × mjH), k l0 l1 hp = some q → mjG X d C S J_170 (mjEq q) 0 [some (.ref l0), some (.int l1)] [] hp kc ks
noncomputable def b_170_21 (R : mjR)  (hp : mjH) : mjU := some (some (.long (0 : Int64)), hp)
theorem t_170_21 {X : mjX} {d C S kc ks : Nat} {R : mjR} (hR : mjC R d) (h1 : kc ≤ C) (h2 : ks ≤ S) : P_170_21 X (d + 1) C S kc ks (b_170_21 R) := by
  intro  hp q h
  unfold b_170_21 at h
  refine mjq_lc (v := (0 : Int64)) D_170_21 rfl ?_
  exact mjq_lret D_170_22 rfl h1 h2 h
noncomputable def b_170_0 (R : mjR) (l0 : Nat) (l1 : Int32) (hp : mjH) : mjU := (if l1 < 0 then b_170_21 R hp else gI hp l0 9 5 (fun v1 => (if v1 ≤ l1 then b_170_21 R hp else gR hp l0 9 3 (fun v2 => aL hp v2 l1 (fun v3 => some (some (.long v3), hp))))))
theorem t_170_0 {X : mjX} {d C S kc ks : Nat} {R : mjR} (hR : mjC R d) (h1 : kc ≤ C) (h2 : ks ≤ S) : P_170_0 X (d + 1) C S kc ks (b_170_0 R) := by
  intro l0 l1 hp q h
  unfold b_170_0 at h
  refine mjr_iload_n (x := l1) D_170_0 rfl ?_
  refine mjq_if_lt (tgt := 21) D_170_1 rfl h (fun h => ?_) (fun h => ?_)
  · exact mjG.fg (lo' := [none, none]) True.intro ((t_170_21 hR h1 h2) _ _ h)
  · refine mjr_iload_n (x := l1) D_170_4 rfl ?_
    refine mjr_aload_n (x := l0) D_170_5 rfl ?_
    refine mjq_gI D_170_6 fr_9_46 h (fun v1 h => ?_)
    refine mjq_icmp_ge (tgt := 21) D_170_9 rfl h (fun h => ?_) (fun h => ?_)
    · exact mjG.fg (lo' := [none, none]) True.intro ((t_170_21 hR h1 h2) _ _ h)
    · refine mjr_aload_n (x := l0) D_170_12 rfl ?_
      refine mjq_gR D_170_13 fr_9_22 h (fun v2 h => ?_)
      refine mjr_iload_n (x := l1) D_170_16 rfl ?_
      refine mjq_aL D_170_17 h (fun v3 h => ?_)
      refine mjr_goto (tgt := 22) D_170_18 rfl ?_
      exact mjq_lret D_170_22 rfl h1 h2 h
noncomputable def f_170 (R : mjR) (a0 : Nat) (a1 : Int32) (hp : mjH) : mjU := b_170_0 R a0 a1 hp
theorem c_170 {R : mjR} {d : Nat} (hR : mjC R d) {a0 : Nat} {a1 : Int32} {hp : mjH} {q : Option Value × mjH} (h : f_170 R a0 a1 hp = some q) : mjM (d + 1) 0 0 170 [.ref a0, .int a1] hp (mjEq q) :=
  mjM_of Ja_170 (Nat.le_of_ble_eq_true rfl) (mjG.fg (lo' := [some (.ref a0), some (.int a1)]) (And.intro rfl (And.intro rfl True.intro)) ((t_170_0 hR (Nat.le_refl 0) (Nat.le_refl 0)) a0 a1 hp q h))
def J_171 : mjI := (⟨"OwnerHeap$Tokens", "size", "()I"⟩, 9, prog_11_method_13_code, 1, (some .int), 0, false)
theorem Ja_171 : mjMt 171 = some J_171 := by rfl
theorem D_171_0 : decode J_171.2.2.1 0 = .ok (.aload_n 0, 1) := dzq_42 (by decide +kernel)
theorem D_171_1 : decode J_171.2.2.1 1 = .ok (.getfield 46, 3) := dzq_180 (by decide +kernel)
theorem D_171_4 : decode J_171.2.2.1 4 = .ok (.ireturn, 1) := dzq_172 (by decide +kernel)
def P_171_0 (X : mjX) (d C S kc ks : Nat) (k : Nat → mjH → mjU) : Prop := ∀ (l0 : Nat) (hp : mjH) (q : Option Value × mjH), k l0 hp = some q → mjG X d C S J_171 (mjEq q) 0 [some (.ref l0)] [] hp kc ks
noncomputable def b_171_0 (R : mjR) (l0 : Nat) (hp : mjH) : mjU := gI hp l0 9 5 (fun v1 => some (some (.int v1), hp))
theorem t_171_0 {X : mjX} {d C S kc ks : Nat} {R : mjR} (hR : mjC R d) (h1 : kc ≤ C) (h2 : ks ≤ S) : P_171_0 X (d + 1) C S kc ks (b_171_0 R) := by
  intro l0 hp q h
  unfold b_171_0 at h
  refine mjr_aload_n (x := l0) D_171_0 rfl ?_
  refine mjq_gI D_171_1 fr_9_46 h (fun v1 h => ?_)
  exact mjq_ret D_171_4 rfl h1 h2 h
noncomputable def f_171 (R : mjR) (a0 : Nat) (hp : mjH) : mjU := b_171_0 R a0 hp
theorem c_171 {R : mjR} {d : Nat} (hR : mjC R d) {a0 : Nat} {hp : mjH} {q : Option Value × mjH} (h : f_171 R a0 hp = some q) : mjM (d + 1) 0 0 171 [.ref a0] hp (mjEq q) :=
  mjM_of Ja_171 (Nat.le_of_ble_eq_true rfl) (mjG.fg (lo' := [some (.ref a0)]) (And.intro rfl True.intro) ((t_171_0 hR (Nat.le_refl 0) (Nat.le_refl 0)) a0 hp q h))
def J_172 : mjI := (⟨"OwnerHeap$Tokens", "isFine", "()Z"⟩, 9, prog_11_method_28_code, 1, (some .boolean), 0, false)
theorem Ja_172 : mjMt 172 = some J_172 := by rfl
theorem D_172_0 : decode J_172.2.2.1 0 = .ok (.aload_n 0, 1) := dzq_42 (by decide +kernel)
theorem D_172_1 : decode J_172.2.2.1 1 = .ok (.getfield 53, 3) := dzq_180 (by decide +kernel)
theorem D_172_4 : decode J_172.2.2.1 4 = .ok (.ifCond .ne 7, 3) := dzq_154 (by decide +kernel)
theorem D_172_7 : decode J_172.2.2.1 7 = .ok (.iconst 1, 1) := dzq_4 (by decide +kernel)
theorem D_172_8 : decode J_172.2.2.1 8 = .ok (.goto 4, 3) := dzq_167 (by decide +kernel)
theorem D_172_11 : decode J_172.2.2.1 11 = .ok (.iconst 0, 1) := dzq_3 (by decide +kernel)
theorem D_172_12 : decode J_172.2.2.1 12 = .ok (.ireturn, 1) := dzq_172 (by decide +kernel)
def P_172_0 (X : mjX) (d C S kc ks : Nat) (k : Nat → mjH → mjU) : Prop := ∀ (l0 : Nat) (hp : mjH) (q : Option Value × mjH), k l0 hp = some q → mjG X d C S J_172 (mjEq q) 0 [some (.ref l0)] [] hp kc ks
noncomputable def b_172_0 (R : mjR) (l0 : Nat) (hp : mjH) : mjU := gI hp l0 9 7 (fun v1 => (if v1 = 0 then some (some (.int (1 : Int32)), hp) else some (some (.int (0 : Int32)), hp)))
theorem t_172_0 {X : mjX} {d C S kc ks : Nat} {R : mjR} (hR : mjC R d) (h1 : kc ≤ C) (h2 : ks ≤ S) : P_172_0 X (d + 1) C S kc ks (b_172_0 R) := by
  intro l0 hp q h
  unfold b_172_0 at h
  refine mjr_aload_n (x := l0) D_172_0 rfl ?_
  refine mjq_gI D_172_1 fr_9_53 h (fun v1 h => ?_)
  refine mjq_if_ne (tgt := 11) D_172_4 rfl h (fun h => ?_) (fun h => ?_)
  · refine mjq_ic (v := (0 : Int32)) D_172_11 rfl ?_
    exact mjr_ireturn D_172_12 rfl rfl h1 h2 (Option.some.inj h)
  · refine mjq_ic (v := (1 : Int32)) D_172_7 rfl ?_
    refine mjr_goto (tgt := 12) D_172_8 rfl ?_
    exact mjr_ireturn D_172_12 rfl rfl h1 h2 (Option.some.inj h)
noncomputable def f_172 (R : mjR) (a0 : Nat) (hp : mjH) : mjU := b_172_0 R a0 hp
theorem c_172 {R : mjR} {d : Nat} (hR : mjC R d) {a0 : Nat} {hp : mjH} {q : Option Value × mjH} (h : f_172 R a0 hp = some q) : mjM (d + 1) 0 0 172 [.ref a0] hp (mjEq q) :=
  mjM_of Ja_172 (Nat.le_of_ble_eq_true rfl) (mjG.fg (lo' := [some (.ref a0)]) (And.intro rfl True.intro) ((t_172_0 hR (Nat.le_refl 0) (Nat.le_refl 0)) a0 hp q h))
def J_173 : mjI := (⟨"OwnerHeap$Tokens", "kindNow", "()I"⟩, 9, prog_11_method_16_code, 1, (some .int), 0, false)
theorem Ja_173 : mjMt 173 = some J_173 := by rfl
theorem D_173_0 : decode J_173.2.2.1 0 = .ok (.aload_n 0, 1) := dzq_42 (by decide +kernel)
theorem D_173_1 : decode J_173.2.2.1 1 = .ok (.getfield 15, 3) := dzq_180 (by decide +kernel)
theorem D_173_4 : decode J_173.2.2.1 4 = .ok (.aload_n 0, 1) := dzq_42 (by decide +kernel)
theorem D_173_5 : decode J_173.2.2.1 5 = .ok (.getfield 50, 3) := dzq_180 (by decide +kernel)
theorem D_173_8 : decode J_173.2.2.1 8 = .ok (.iaload, 1) := dzq_46 (by decide +kernel)
theorem D_173_9 : decode J_173.2.2.1 9 = .ok (.ireturn, 1) := dzq_172 (by decide +kernel)
def P_173_0 (X : mjX) (d C S kc ks : Nat) (k : Nat → mjH → mjU) : Prop := ∀ (l0 : Nat) (hp : mjH) (q : Option Value × mjH), k l0 hp = some q → mjG X d C S J_173 (mjEq q) 0 [some (.ref l0)] [] hp kc ks
noncomputable def b_173_0 (R : mjR) (l0 : Nat) (hp : mjH) : mjU := gR hp l0 9 1 (fun v1 => gI hp l0 9 6 (fun v2 => aI hp v1 v2 (fun v3 => some (some (.int v3), hp))))
theorem t_173_0 {X : mjX} {d C S kc ks : Nat} {R : mjR} (hR : mjC R d) (h1 : kc ≤ C) (h2 : ks ≤ S) : P_173_0 X (d + 1) C S kc ks (b_173_0 R) := by
  intro l0 hp q h
  unfold b_173_0 at h
  refine mjr_aload_n (x := l0) D_173_0 rfl ?_
  refine mjq_gR D_173_1 fr_9_15 h (fun v1 h => ?_)
  refine mjr_aload_n (x := l0) D_173_4 rfl ?_
  refine mjq_gI D_173_5 fr_9_50 h (fun v2 h => ?_)
  refine mjq_aI D_173_8 h (fun v3 h => ?_)
  exact mjq_ret D_173_9 rfl h1 h2 h
noncomputable def f_173 (R : mjR) (a0 : Nat) (hp : mjH) : mjU := b_173_0 R a0 hp
theorem c_173 {R : mjR} {d : Nat} (hR : mjC R d) {a0 : Nat} {hp : mjH} {q : Option Value × mjH} (h : f_173 R a0 hp = some q) : mjM (d + 1) 0 0 173 [.ref a0] hp (mjEq q) :=
  mjM_of Ja_173 (Nat.le_of_ble_eq_true rfl) (mjG.fg (lo' := [some (.ref a0)]) (And.intro rfl True.intro) ((t_173_0 hR (Nat.le_refl 0) (Nat.le_refl 0)) a0 hp q h))
def J_174 : mjI := (⟨"OwnerHeap$Tokens", "setArguments", "(II)V"⟩, 9, prog_11_method_21_code, 3, none, 2, false)
theorem Ja_174 : mjMt 174 = some J_174 := by rfl
theorem D_174_0 : decode J_174.2.2.1 0 = .ok (.iload_n 1, 1) := dzq_27 (by decide +kernel)
theorem D_174_1 : decode J_174.2.2.1 1 = .ok (.ifCond .lt 18, 3) := dzq_155 (by decide +kernel)
theorem D_174_4 : decode J_174.2.2.1 4 = .ok (.iload_n 1, 1) := dzq_27 (by decide +kernel)
theorem D_174_5 : decode J_174.2.2.1 5 = .ok (.aload_n 0, 1) := dzq_42 (by decide +kernel)
theorem D_174_6 : decode J_174.2.2.1 6 = .ok (.getfield 46, 3) := dzq_180 (by decide +kernel)
theorem D_174_9 : decode J_174.2.2.1 9 = .ok (.if_icmp .ge 10, 3) := dzq_162 (by decide +kernel)
theorem D_174_12 : decode J_174.2.2.1 12 = .ok (.aload_n 0, 1) := dzq_42 (by decide +kernel)
theorem D_174_13 : decode J_174.2.2.1 13 = .ok (.getfield 25, 3) := dzq_180 (by decide +kernel)
theorem D_174_16 : decode J_174.2.2.1 16 = .ok (.iload_n 1, 1) := dzq_27 (by decide +kernel)
theorem D_174_17 : decode J_174.2.2.1 17 = .ok (.iload_n 2, 1) := dzq_28 (by decide +kernel)
theorem D_174_18 : decode J_174.2.2.1 18 = .ok (.iastore, 1) := dzq_79 (by decide +kernel)
theorem D_174_19 : decode J_174.2.2.1 19 = .ok (.return_, 1) := dzq_177 (by decide +kernel)
def P_174_0 (X : mjX) (d C S kc ks : Nat) (k : Nat → Int32 → Int32 → mjH → mjU) : Prop := ∀ (l0 : Nat) (l1 : Int32) (l2 : Int32) (hp : mjH) (q : Option Value × mjH), k l0 l1 l2 hp = some q → mjG X d C S J_174 (mjEq q) 0 [some (.ref l0), some (.int l1), some (.int l2)] [] hp kc ks
noncomputable def b_174_0 (R : mjR) (l0 : Nat) (l1 : Int32) (l2 : Int32) (hp : mjH) : mjU := (if l1 < 0 then some (none, hp) else gI hp l0 9 5 (fun v1 => (if v1 ≤ l1 then some (none, hp) else gR hp l0 9 4 (fun v2 => sI hp v2 l1 l2 (fun hp3 => some (none, hp3))))))
theorem t_174_0 {X : mjX} {d C S kc ks : Nat} {R : mjR} (hR : mjC R d) (h1 : kc ≤ C) (h2 : ks ≤ S) : P_174_0 X (d + 1) C S kc ks (b_174_0 R) := by
  intro l0 l1 l2 hp q h
  unfold b_174_0 at h
  refine mjr_iload_n (x := l1) D_174_0 rfl ?_
  refine mjq_if_lt (tgt := 19) D_174_1 rfl h (fun h => ?_) (fun h => ?_)
  · exact mjq_nret D_174_19 rfl h1 h2 h
  · refine mjr_iload_n (x := l1) D_174_4 rfl ?_
    refine mjr_aload_n (x := l0) D_174_5 rfl ?_
    refine mjq_gI D_174_6 fr_9_46 h (fun v1 h => ?_)
    refine mjq_icmp_ge (tgt := 19) D_174_9 rfl h (fun h => ?_) (fun h => ?_)
    · exact mjq_nret D_174_19 rfl h1 h2 h
    · refine mjr_aload_n (x := l0) D_174_12 rfl ?_
      refine mjq_gR D_174_13 fr_9_25 h (fun v2 h => ?_)
      refine mjr_iload_n (x := l1) D_174_16 rfl ?_
      refine mjr_iload_n (x := l2) D_174_17 rfl ?_
      refine mjq_sI D_174_18 h (fun hp3 h => ?_)
      exact mjq_nret D_174_19 rfl h1 h2 h
noncomputable def f_174 (R : mjR) (a0 : Nat) (a1 : Int32) (a2 : Int32) (hp : mjH) : mjU := b_174_0 R a0 a1 a2 hp
theorem c_174 {R : mjR} {d : Nat} (hR : mjC R d) {a0 : Nat} {a1 : Int32} {a2 : Int32} {hp : mjH} {q : Option Value × mjH} (h : f_174 R a0 a1 a2 hp = some q) : mjM (d + 1) 0 0 174 [.ref a0, .int a1, .int a2] hp (mjEq q) :=
  mjM_of Ja_174 (Nat.le_of_ble_eq_true rfl) (mjG.fg (lo' := [some (.ref a0), some (.int a1), some (.int a2)]) (And.intro rfl (And.intro rfl (And.intro rfl True.intro))) ((t_174_0 hR (Nat.le_refl 0) (Nat.le_refl 0)) a0 a1 a2 hp q h))
def J_175 : mjI := (⟨"OwnerHeap$Tokens", "isProductSign", "()Z"⟩, 9, prog_11_method_27_code, 1, (some .boolean), 0, false)
theorem Ja_175 : mjMt 175 = some J_175 := by rfl
theorem D_175_0 : decode J_175.2.2.1 0 = .ok (.aload_n 0, 1) := dzq_42 (by decide +kernel)
theorem D_175_1 : decode J_175.2.2.1 1 = .ok (.bipush 42, 2) := dzq_16 (by decide +kernel)
theorem D_175_3 : decode J_175.2.2.1 3 = .ok (.invokevirtual 102, 3) := dzq_182 (by decide +kernel)
theorem D_175_6 : decode J_175.2.2.1 6 = .ok (.ifCond .ne 21, 3) := dzq_154 (by decide +kernel)
theorem D_175_9 : decode J_175.2.2.1 9 = .ok (.aload_n 0, 1) := dzq_42 (by decide +kernel)
theorem D_175_10 : decode J_175.2.2.1 10 = .ok (.bipush 47, 2) := dzq_16 (by decide +kernel)
theorem D_175_12 : decode J_175.2.2.1 12 = .ok (.invokevirtual 102, 3) := dzq_182 (by decide +kernel)
theorem D_175_15 : decode J_175.2.2.1 15 = .ok (.ifCond .ne 12, 3) := dzq_154 (by decide +kernel)
theorem D_175_18 : decode J_175.2.2.1 18 = .ok (.aload_n 0, 1) := dzq_42 (by decide +kernel)
theorem D_175_19 : decode J_175.2.2.1 19 = .ok (.bipush 37, 2) := dzq_16 (by decide +kernel)
theorem D_175_21 : decode J_175.2.2.1 21 = .ok (.invokevirtual 102, 3) := dzq_182 (by decide +kernel)
theorem D_175_24 : decode J_175.2.2.1 24 = .ok (.ifCond .eq 7, 3) := dzq_153 (by decide +kernel)
theorem D_175_27 : decode J_175.2.2.1 27 = .ok (.iconst 1, 1) := dzq_4 (by decide +kernel)
theorem D_175_28 : decode J_175.2.2.1 28 = .ok (.goto 4, 3) := dzq_167 (by decide +kernel)
theorem D_175_31 : decode J_175.2.2.1 31 = .ok (.iconst 0, 1) := dzq_3 (by decide +kernel)
theorem D_175_32 : decode J_175.2.2.1 32 = .ok (.ireturn, 1) := dzq_172 (by decide +kernel)
def P_175_27 (X : mjX) (d C S kc ks : Nat) (k : mjH → mjU) : Prop := ∀  (hp : mjH) (q : Option Value × mjH), k  hp = some q → mjG X d C S J_175 (mjEq q) 27 [none] [] hp kc ks
def P_175_0 (X : mjX) (d C S kc ks : Nat) (k : Nat → mjH → mjU) : Prop := ∀ (l0 : Nat) (hp : mjH) (q : Option Value × mjH), k l0 hp = some q → mjG X d C S J_175 (mjEq q) 0 [some (.ref l0)] [] hp kc ks
noncomputable def b_175_27 (R : mjR)  (hp : mjH) : mjU := some (some (.int (1 : Int32)), hp)
theorem t_175_27 {X : mjX} {d C S kc ks : Nat} {R : mjR} (hR : mjC R d) (h1 : kc ≤ C) (h2 : ks ≤ S) : P_175_27 X (d + 1) C S kc ks (b_175_27 R) := by
  intro  hp q h
  unfold b_175_27 at h
  refine mjq_ic (v := (1 : Int32)) D_175_27 rfl ?_
  refine mjr_goto (tgt := 32) D_175_28 rfl ?_
  exact mjr_ireturn D_175_32 rfl rfl h1 h2 (Option.some.inj h)
noncomputable def b_175_0 (R : mjR) (l0 : Nat) (hp : mjH) : mjU := rV hp l0 9 (bI (R 164 [.ref l0, .int (42 : Int32)] hp) (fun v1 hp2 => (if v1 = 0 then rV hp2 l0 9 (bI (R 164 [.ref l0, .int (47 : Int32)] hp2) (fun v3 hp4 => (if v3 = 0 then rV hp4 l0 9 (bI (R 164 [.ref l0, .int (37 : Int32)] hp4) (fun v5 hp6 => (if v5 = 0 then some (some (.int (0 : Int32)), hp6) else b_175_27 R hp6))) else b_175_27 R hp4))) else b_175_27 R hp2)))
theorem t_175_0 {X : mjX} {d C S kc ks : Nat} {R : mjR} (hR : mjC R d) (h1 : kc ≤ C) (h2 : ks ≤ S) : P_175_0 X (d + 1) C S kc ks (b_175_0 R) := by
  intro l0 hp q h
  unfold b_175_0 at h
  refine mjr_aload_n (x := l0) D_175_0 rfl ?_
  refine mjq_bi (v := (42 : Int32)) D_175_1 rfl ?_
  refine mjq_vI (As := [.int (42 : Int32)]) (rest := []) D_175_3 mr_9_102 V_164 rfl rfl rfl hR (Nat.le_refl _) h1 h2 h (fun v1 hp2 h => ?_)
  refine mjq_if_ne (tgt := 27) D_175_6 rfl h (fun h => ?_) (fun h => ?_)
  · exact mjG.fg (lo' := [none]) True.intro ((t_175_27 hR h1 h2) _ _ h)
  · refine mjr_aload_n (x := l0) D_175_9 rfl ?_
    refine mjq_bi (v := (47 : Int32)) D_175_10 rfl ?_
    refine mjq_vI (As := [.int (47 : Int32)]) (rest := []) D_175_12 mr_9_102 V_164 rfl rfl rfl hR (Nat.le_refl _) h1 h2 h (fun v3 hp4 h => ?_)
    refine mjq_if_ne (tgt := 27) D_175_15 rfl h (fun h => ?_) (fun h => ?_)
    · exact mjG.fg (lo' := [none]) True.intro ((t_175_27 hR h1 h2) _ _ h)
    · refine mjr_aload_n (x := l0) D_175_18 rfl ?_
      refine mjq_bi (v := (37 : Int32)) D_175_19 rfl ?_
      refine mjq_vI (As := [.int (37 : Int32)]) (rest := []) D_175_21 mr_9_102 V_164 rfl rfl rfl hR (Nat.le_refl _) h1 h2 h (fun v5 hp6 h => ?_)
      refine mjq_if_eq (tgt := 31) D_175_24 rfl h (fun h => ?_) (fun h => ?_)
      · refine mjq_ic (v := (0 : Int32)) D_175_31 rfl ?_
        exact mjr_ireturn D_175_32 rfl rfl h1 h2 (Option.some.inj h)
      · exact mjG.fg (lo' := [none]) True.intro ((t_175_27 hR h1 h2) _ _ h)
noncomputable def f_175 (R : mjR) (a0 : Nat) (hp : mjH) : mjU := b_175_0 R a0 hp
theorem c_175 {R : mjR} {d : Nat} (hR : mjC R d) {a0 : Nat} {hp : mjH} {q : Option Value × mjH} (h : f_175 R a0 hp = some q) : mjM (d + 1) 0 0 175 [.ref a0] hp (mjEq q) :=
  mjM_of Ja_175 (Nat.le_of_ble_eq_true rfl) (mjG.fg (lo' := [some (.ref a0)]) (And.intro rfl True.intro) ((t_175_0 hR (Nat.le_refl 0) (Nat.le_refl 0)) a0 hp q h))
def J_176 : mjI := (⟨"OwnerHeap$Tokens", "isSumSign", "()Z"⟩, 9, prog_11_method_26_code, 1, (some .boolean), 0, false)
theorem Ja_176 : mjMt 176 = some J_176 := by rfl
theorem D_176_0 : decode J_176.2.2.1 0 = .ok (.aload_n 0, 1) := dzq_42 (by decide +kernel)
theorem D_176_1 : decode J_176.2.2.1 1 = .ok (.bipush 43, 2) := dzq_16 (by decide +kernel)
theorem D_176_3 : decode J_176.2.2.1 3 = .ok (.invokevirtual 102, 3) := dzq_182 (by decide +kernel)
theorem D_176_6 : decode J_176.2.2.1 6 = .ok (.ifCond .ne 12, 3) := dzq_154 (by decide +kernel)
theorem D_176_9 : decode J_176.2.2.1 9 = .ok (.aload_n 0, 1) := dzq_42 (by decide +kernel)
theorem D_176_10 : decode J_176.2.2.1 10 = .ok (.bipush 45, 2) := dzq_16 (by decide +kernel)
theorem D_176_12 : decode J_176.2.2.1 12 = .ok (.invokevirtual 102, 3) := dzq_182 (by decide +kernel)
theorem D_176_15 : decode J_176.2.2.1 15 = .ok (.ifCond .eq 7, 3) := dzq_153 (by decide +kernel)
theorem D_176_18 : decode J_176.2.2.1 18 = .ok (.iconst 1, 1) := dzq_4 (by decide +kernel)
theorem D_176_19 : decode J_176.2.2.1 19 = .ok (.goto 4, 3) := dzq_167 (by decide +kernel)
theorem D_176_22 : decode J_176.2.2.1 22 = .ok (.iconst 0, 1) := dzq_3 (by decide +kernel)
theorem D_176_23 : decode J_176.2.2.1 23 = .ok (.ireturn, 1) := dzq_172 (by decide +kernel)
def P_176_18 (X : mjX) (d C S kc ks : Nat) (k : mjH → mjU) : Prop := ∀  (hp : mjH) (q : Option Value × mjH), k  hp = some q → mjG X d C S J_176 (mjEq q) 18 [none] [] hp kc ks
def P_176_0 (X : mjX) (d C S kc ks : Nat) (k : Nat → mjH → mjU) : Prop := ∀ (l0 : Nat) (hp : mjH) (q : Option Value × mjH), k l0 hp = some q → mjG X d C S J_176 (mjEq q) 0 [some (.ref l0)] [] hp kc ks
noncomputable def b_176_18 (R : mjR)  (hp : mjH) : mjU := some (some (.int (1 : Int32)), hp)
theorem t_176_18 {X : mjX} {d C S kc ks : Nat} {R : mjR} (hR : mjC R d) (h1 : kc ≤ C) (h2 : ks ≤ S) : P_176_18 X (d + 1) C S kc ks (b_176_18 R) := by
  intro  hp q h
  unfold b_176_18 at h
  refine mjq_ic (v := (1 : Int32)) D_176_18 rfl ?_
  refine mjr_goto (tgt := 23) D_176_19 rfl ?_
  exact mjr_ireturn D_176_23 rfl rfl h1 h2 (Option.some.inj h)
noncomputable def b_176_0 (R : mjR) (l0 : Nat) (hp : mjH) : mjU := rV hp l0 9 (bI (R 164 [.ref l0, .int (43 : Int32)] hp) (fun v1 hp2 => (if v1 = 0 then rV hp2 l0 9 (bI (R 164 [.ref l0, .int (45 : Int32)] hp2) (fun v3 hp4 => (if v3 = 0 then some (some (.int (0 : Int32)), hp4) else b_176_18 R hp4))) else b_176_18 R hp2)))
theorem t_176_0 {X : mjX} {d C S kc ks : Nat} {R : mjR} (hR : mjC R d) (h1 : kc ≤ C) (h2 : ks ≤ S) : P_176_0 X (d + 1) C S kc ks (b_176_0 R) := by
  intro l0 hp q h
  unfold b_176_0 at h
  refine mjr_aload_n (x := l0) D_176_0 rfl ?_
  refine mjq_bi (v := (43 : Int32)) D_176_1 rfl ?_
  refine mjq_vI (As := [.int (43 : Int32)]) (rest := []) D_176_3 mr_9_102 V_164 rfl rfl rfl hR (Nat.le_refl _) h1 h2 h (fun v1 hp2 h => ?_)
  refine mjq_if_ne (tgt := 18) D_176_6 rfl h (fun h => ?_) (fun h => ?_)
  · exact mjG.fg (lo' := [none]) True.intro ((t_176_18 hR h1 h2) _ _ h)
  · refine mjr_aload_n (x := l0) D_176_9 rfl ?_
    refine mjq_bi (v := (45 : Int32)) D_176_10 rfl ?_
    refine mjq_vI (As := [.int (45 : Int32)]) (rest := []) D_176_12 mr_9_102 V_164 rfl rfl rfl hR (Nat.le_refl _) h1 h2 h (fun v3 hp4 h => ?_)
    refine mjq_if_eq (tgt := 22) D_176_15 rfl h (fun h => ?_) (fun h => ?_)
    · refine mjq_ic (v := (0 : Int32)) D_176_22 rfl ?_
      exact mjr_ireturn D_176_23 rfl rfl h1 h2 (Option.some.inj h)
    · exact mjG.fg (lo' := [none]) True.intro ((t_176_18 hR h1 h2) _ _ h)
noncomputable def f_176 (R : mjR) (a0 : Nat) (hp : mjH) : mjU := b_176_0 R a0 hp
theorem c_176 {R : mjR} {d : Nat} (hR : mjC R d) {a0 : Nat} {hp : mjH} {q : Option Value × mjH} (h : f_176 R a0 hp = some q) : mjM (d + 1) 0 0 176 [.ref a0] hp (mjEq q) :=
  mjM_of Ja_176 (Nat.le_of_ble_eq_true rfl) (mjG.fg (lo' := [some (.ref a0)]) (And.intro rfl True.intro) ((t_176_0 hR (Nat.le_refl 0) (Nat.le_refl 0)) a0 hp q h))
def J_177 : mjI := (⟨"OwnerHeap$Tokens", "isCompareSign", "()Z"⟩, 9, prog_11_method_25_code, 1, (some .boolean), 0, false)
theorem Ja_177 : mjMt 177 = some J_177 := by rfl
theorem D_177_0 : decode J_177.2.2.1 0 = .ok (.aload_n 0, 1) := dzq_42 (by decide +kernel)
theorem D_177_1 : decode J_177.2.2.1 1 = .ok (.sipush 200, 3) := dzq_17 (by decide +kernel)
theorem D_177_4 : decode J_177.2.2.1 4 = .ok (.invokevirtual 102, 3) := dzq_182 (by decide +kernel)
theorem D_177_7 : decode J_177.2.2.1 7 = .ok (.ifCond .ne 22, 3) := dzq_154 (by decide +kernel)
theorem D_177_10 : decode J_177.2.2.1 10 = .ok (.aload_n 0, 1) := dzq_42 (by decide +kernel)
theorem D_177_11 : decode J_177.2.2.1 11 = .ok (.sipush 201, 3) := dzq_17 (by decide +kernel)
theorem D_177_14 : decode J_177.2.2.1 14 = .ok (.invokevirtual 102, 3) := dzq_182 (by decide +kernel)
theorem D_177_17 : decode J_177.2.2.1 17 = .ok (.ifCond .ne 12, 3) := dzq_154 (by decide +kernel)
theorem D_177_20 : decode J_177.2.2.1 20 = .ok (.aload_n 0, 1) := dzq_42 (by decide +kernel)
theorem D_177_21 : decode J_177.2.2.1 21 = .ok (.bipush 60, 2) := dzq_16 (by decide +kernel)
theorem D_177_23 : decode J_177.2.2.1 23 = .ok (.invokevirtual 102, 3) := dzq_182 (by decide +kernel)
theorem D_177_26 : decode J_177.2.2.1 26 = .ok (.ifCond .eq 7, 3) := dzq_153 (by decide +kernel)
theorem D_177_29 : decode J_177.2.2.1 29 = .ok (.iconst 1, 1) := dzq_4 (by decide +kernel)
theorem D_177_30 : decode J_177.2.2.1 30 = .ok (.goto 4, 3) := dzq_167 (by decide +kernel)
theorem D_177_33 : decode J_177.2.2.1 33 = .ok (.iconst 0, 1) := dzq_3 (by decide +kernel)
theorem D_177_34 : decode J_177.2.2.1 34 = .ok (.ireturn, 1) := dzq_172 (by decide +kernel)
def P_177_29 (X : mjX) (d C S kc ks : Nat) (k : mjH → mjU) : Prop := ∀  (hp : mjH) (q : Option Value × mjH), k  hp = some q → mjG X d C S J_177 (mjEq q) 29 [none] [] hp kc ks
def P_177_0 (X : mjX) (d C S kc ks : Nat) (k : Nat → mjH → mjU) : Prop := ∀ (l0 : Nat) (hp : mjH) (q : Option Value × mjH), k l0 hp = some q → mjG X d C S J_177 (mjEq q) 0 [some (.ref l0)] [] hp kc ks
noncomputable def b_177_29 (R : mjR)  (hp : mjH) : mjU := some (some (.int (1 : Int32)), hp)
theorem t_177_29 {X : mjX} {d C S kc ks : Nat} {R : mjR} (hR : mjC R d) (h1 : kc ≤ C) (h2 : ks ≤ S) : P_177_29 X (d + 1) C S kc ks (b_177_29 R) := by
  intro  hp q h
  unfold b_177_29 at h
  refine mjq_ic (v := (1 : Int32)) D_177_29 rfl ?_
  refine mjr_goto (tgt := 34) D_177_30 rfl ?_
  exact mjr_ireturn D_177_34 rfl rfl h1 h2 (Option.some.inj h)
noncomputable def b_177_0 (R : mjR) (l0 : Nat) (hp : mjH) : mjU := rV hp l0 9 (bI (R 164 [.ref l0, .int (200 : Int32)] hp) (fun v1 hp2 => (if v1 = 0 then rV hp2 l0 9 (bI (R 164 [.ref l0, .int (201 : Int32)] hp2) (fun v3 hp4 => (if v3 = 0 then rV hp4 l0 9 (bI (R 164 [.ref l0, .int (60 : Int32)] hp4) (fun v5 hp6 => (if v5 = 0 then some (some (.int (0 : Int32)), hp6) else b_177_29 R hp6))) else b_177_29 R hp4))) else b_177_29 R hp2)))
theorem t_177_0 {X : mjX} {d C S kc ks : Nat} {R : mjR} (hR : mjC R d) (h1 : kc ≤ C) (h2 : ks ≤ S) : P_177_0 X (d + 1) C S kc ks (b_177_0 R) := by
  intro l0 hp q h
  unfold b_177_0 at h
  refine mjr_aload_n (x := l0) D_177_0 rfl ?_
  refine mjq_si (v := (200 : Int32)) D_177_1 rfl ?_
  refine mjq_vI (As := [.int (200 : Int32)]) (rest := []) D_177_4 mr_9_102 V_164 rfl rfl rfl hR (Nat.le_refl _) h1 h2 h (fun v1 hp2 h => ?_)
  refine mjq_if_ne (tgt := 29) D_177_7 rfl h (fun h => ?_) (fun h => ?_)
  · exact mjG.fg (lo' := [none]) True.intro ((t_177_29 hR h1 h2) _ _ h)
  · refine mjr_aload_n (x := l0) D_177_10 rfl ?_
    refine mjq_si (v := (201 : Int32)) D_177_11 rfl ?_
    refine mjq_vI (As := [.int (201 : Int32)]) (rest := []) D_177_14 mr_9_102 V_164 rfl rfl rfl hR (Nat.le_refl _) h1 h2 h (fun v3 hp4 h => ?_)
    refine mjq_if_ne (tgt := 29) D_177_17 rfl h (fun h => ?_) (fun h => ?_)
    · exact mjG.fg (lo' := [none]) True.intro ((t_177_29 hR h1 h2) _ _ h)
    · refine mjr_aload_n (x := l0) D_177_20 rfl ?_
      refine mjq_bi (v := (60 : Int32)) D_177_21 rfl ?_
      refine mjq_vI (As := [.int (60 : Int32)]) (rest := []) D_177_23 mr_9_102 V_164 rfl rfl rfl hR (Nat.le_refl _) h1 h2 h (fun v5 hp6 h => ?_)
      refine mjq_if_eq (tgt := 33) D_177_26 rfl h (fun h => ?_) (fun h => ?_)
      · refine mjq_ic (v := (0 : Int32)) D_177_33 rfl ?_
        exact mjr_ireturn D_177_34 rfl rfl h1 h2 (Option.some.inj h)
      · exact mjG.fg (lo' := [none]) True.intro ((t_177_29 hR h1 h2) _ _ h)
noncomputable def f_177 (R : mjR) (a0 : Nat) (hp : mjH) : mjU := b_177_0 R a0 hp
theorem c_177 {R : mjR} {d : Nat} (hR : mjC R d) {a0 : Nat} {hp : mjH} {q : Option Value × mjH} (h : f_177 R a0 hp = some q) : mjM (d + 1) 0 0 177 [.ref a0] hp (mjEq q) :=
  mjM_of Ja_177 (Nat.le_of_ble_eq_true rfl) (mjG.fg (lo' := [some (.ref a0)]) (And.intro rfl True.intro) ((t_177_0 hR (Nat.le_refl 0) (Nat.le_refl 0)) a0 hp q h))
def J_178 : mjI := (⟨"OwnerHeap$Tokens", "refuseAt", "(II)V"⟩, 9, prog_11_method_30_code, 3, none, 2, false)
theorem Ja_178 : mjMt 178 = some J_178 := by rfl
theorem D_178_0 : decode J_178.2.2.1 0 = .ok (.aload_n 0, 1) := dzq_42 (by decide +kernel)
theorem D_178_1 : decode J_178.2.2.1 1 = .ok (.getfield 53, 3) := dzq_180 (by decide +kernel)
theorem D_178_4 : decode J_178.2.2.1 4 = .ok (.ifCond .ne 30, 3) := dzq_154 (by decide +kernel)
theorem D_178_7 : decode J_178.2.2.1 7 = .ok (.iload_n 2, 1) := dzq_28 (by decide +kernel)
theorem D_178_8 : decode J_178.2.2.1 8 = .ok (.ifCond .lt 26, 3) := dzq_155 (by decide +kernel)
theorem D_178_11 : decode J_178.2.2.1 11 = .ok (.iload_n 2, 1) := dzq_28 (by decide +kernel)
theorem D_178_12 : decode J_178.2.2.1 12 = .ok (.aload_n 0, 1) := dzq_42 (by decide +kernel)
theorem D_178_13 : decode J_178.2.2.1 13 = .ok (.getfield 46, 3) := dzq_180 (by decide +kernel)
theorem D_178_16 : decode J_178.2.2.1 16 = .ok (.if_icmp .ge 18, 3) := dzq_162 (by decide +kernel)
theorem D_178_19 : decode J_178.2.2.1 19 = .ok (.aload_n 0, 1) := dzq_42 (by decide +kernel)
theorem D_178_20 : decode J_178.2.2.1 20 = .ok (.iload_n 1, 1) := dzq_27 (by decide +kernel)
theorem D_178_21 : decode J_178.2.2.1 21 = .ok (.putfield 53, 3) := dzq_181 (by decide +kernel)
theorem D_178_24 : decode J_178.2.2.1 24 = .ok (.aload_n 0, 1) := dzq_42 (by decide +kernel)
theorem D_178_25 : decode J_178.2.2.1 25 = .ok (.aload_n 0, 1) := dzq_42 (by decide +kernel)
theorem D_178_26 : decode J_178.2.2.1 26 = .ok (.getfield 19, 3) := dzq_180 (by decide +kernel)
theorem D_178_29 : decode J_178.2.2.1 29 = .ok (.iload_n 2, 1) := dzq_28 (by decide +kernel)
theorem D_178_30 : decode J_178.2.2.1 30 = .ok (.iaload, 1) := dzq_46 (by decide +kernel)
theorem D_178_31 : decode J_178.2.2.1 31 = .ok (.putfield 56, 3) := dzq_181 (by decide +kernel)
theorem D_178_34 : decode J_178.2.2.1 34 = .ok (.aload_n 0, 1) := dzq_42 (by decide +kernel)
theorem D_178_35 : decode J_178.2.2.1 35 = .ok (.aload_n 0, 1) := dzq_42 (by decide +kernel)
theorem D_178_36 : decode J_178.2.2.1 36 = .ok (.getfield 46, 3) := dzq_180 (by decide +kernel)
theorem D_178_39 : decode J_178.2.2.1 39 = .ok (.iconst 1, 1) := dzq_4 (by decide +kernel)
theorem D_178_40 : decode J_178.2.2.1 40 = .ok (.isub, 1) := dzq_100 (by decide +kernel)
theorem D_178_41 : decode J_178.2.2.1 41 = .ok (.putfield 50, 3) := dzq_181 (by decide +kernel)
theorem D_178_44 : decode J_178.2.2.1 44 = .ok (.return_, 1) := dzq_177 (by decide +kernel)
def P_178_34 (X : mjX) (d C S kc ks : Nat) (k : Nat → mjH → mjU) : Prop := ∀ (l0 : Nat) (hp : mjH) (q : Option Value × mjH), k l0 hp = some q → mjG X d C S J_178 (mjEq q) 34 [some (.ref l0), none, none] [] hp kc ks
def P_178_0 (X : mjX) (d C S kc ks : Nat) (k : Nat → Int32 → Int32 → mjH → mjU) : Prop := ∀ (l0 : Nat) (l1 : Int32) (l2 : Int32) (hp : mjH) (q : Option Value × mjH), k l0 l1 l2 hp = some q → mjG X d C S J_178 (mjEq q) 0 [some (.ref l0), some (.int l1), some (.int l2)] [] hp kc ks
noncomputable def b_178_34 (R : mjR) (l0 : Nat) (hp : mjH) : mjU := gI hp l0 9 5 (fun v1 => pI hp l0 9 6 (v1 - (1 : Int32)) (fun hp2 => some (none, hp2)))
theorem t_178_34 {X : mjX} {d C S kc ks : Nat} {R : mjR} (hR : mjC R d) (h1 : kc ≤ C) (h2 : ks ≤ S) : P_178_34 X (d + 1) C S kc ks (b_178_34 R) := by
  intro l0 hp q h
  unfold b_178_34 at h
  refine mjr_aload_n (x := l0) D_178_34 rfl ?_
  refine mjr_aload_n (x := l0) D_178_35 rfl ?_
  refine mjq_gI D_178_36 fr_9_46 h (fun v1 h => ?_)
  refine mjq_ic (v := (1 : Int32)) D_178_39 rfl ?_
  refine mjr_isub D_178_40 ?_
  refine mjq_pI D_178_41 fr_9_50 rfl rfl h (fun hp2 h => ?_)
  exact mjq_nret D_178_44 rfl h1 h2 h
noncomputable def b_178_0 (R : mjR) (l0 : Nat) (l1 : Int32) (l2 : Int32) (hp : mjH) : mjU := gI hp l0 9 7 (fun v1 => (if v1 = 0 then (if l2 < 0 then b_178_34 R l0 hp else gI hp l0 9 5 (fun v2 => (if v2 ≤ l2 then b_178_34 R l0 hp else pI hp l0 9 7 l1 (fun hp3 => gR hp3 l0 9 2 (fun v4 => aI hp3 v4 l2 (fun v5 => pI hp3 l0 9 8 v5 (fun hp6 => b_178_34 R l0 hp6))))))) else b_178_34 R l0 hp))
theorem t_178_0 {X : mjX} {d C S kc ks : Nat} {R : mjR} (hR : mjC R d) (h1 : kc ≤ C) (h2 : ks ≤ S) : P_178_0 X (d + 1) C S kc ks (b_178_0 R) := by
  intro l0 l1 l2 hp q h
  unfold b_178_0 at h
  refine mjr_aload_n (x := l0) D_178_0 rfl ?_
  refine mjq_gI D_178_1 fr_9_53 h (fun v1 h => ?_)
  refine mjq_if_ne (tgt := 34) D_178_4 rfl h (fun h => ?_) (fun h => ?_)
  · exact mjG.fg (lo' := [some (.ref l0), none, none]) (And.intro rfl True.intro) ((t_178_34 hR h1 h2) _ _ _ h)
  · refine mjr_iload_n (x := l2) D_178_7 rfl ?_
    refine mjq_if_lt (tgt := 34) D_178_8 rfl h (fun h => ?_) (fun h => ?_)
    · exact mjG.fg (lo' := [some (.ref l0), none, none]) (And.intro rfl True.intro) ((t_178_34 hR h1 h2) _ _ _ h)
    · refine mjr_iload_n (x := l2) D_178_11 rfl ?_
      refine mjr_aload_n (x := l0) D_178_12 rfl ?_
      refine mjq_gI D_178_13 fr_9_46 h (fun v2 h => ?_)
      refine mjq_icmp_ge (tgt := 34) D_178_16 rfl h (fun h => ?_) (fun h => ?_)
      · exact mjG.fg (lo' := [some (.ref l0), none, none]) (And.intro rfl True.intro) ((t_178_34 hR h1 h2) _ _ _ h)
      · refine mjr_aload_n (x := l0) D_178_19 rfl ?_
        refine mjr_iload_n (x := l1) D_178_20 rfl ?_
        refine mjq_pI D_178_21 fr_9_53 rfl rfl h (fun hp3 h => ?_)
        refine mjr_aload_n (x := l0) D_178_24 rfl ?_
        refine mjr_aload_n (x := l0) D_178_25 rfl ?_
        refine mjq_gR D_178_26 fr_9_19 h (fun v4 h => ?_)
        refine mjr_iload_n (x := l2) D_178_29 rfl ?_
        refine mjq_aI D_178_30 h (fun v5 h => ?_)
        refine mjq_pI D_178_31 fr_9_56 rfl rfl h (fun hp6 h => ?_)
        exact mjG.fg (lo' := [some (.ref l0), none, none]) (And.intro rfl True.intro) ((t_178_34 hR h1 h2) _ _ _ h)
noncomputable def f_178 (R : mjR) (a0 : Nat) (a1 : Int32) (a2 : Int32) (hp : mjH) : mjU := b_178_0 R a0 a1 a2 hp
theorem c_178 {R : mjR} {d : Nat} (hR : mjC R d) {a0 : Nat} {a1 : Int32} {a2 : Int32} {hp : mjH} {q : Option Value × mjH} (h : f_178 R a0 a1 a2 hp = some q) : mjM (d + 1) 0 0 178 [.ref a0, .int a1, .int a2] hp (mjEq q) :=
  mjM_of Ja_178 (Nat.le_of_ble_eq_true rfl) (mjG.fg (lo' := [some (.ref a0), some (.int a1), some (.int a2)]) (And.intro rfl (And.intro rfl (And.intro rfl True.intro))) ((t_178_0 hR (Nat.le_refl 0) (Nat.le_refl 0)) a0 a1 a2 hp q h))
def J_179 : mjI := (⟨"OwnerHeap$Tokens", "goTo", "(I)V"⟩, 9, prog_11_method_23_code, 2, none, 1, false)
theorem Ja_179 : mjMt 179 = some J_179 := by rfl
theorem D_179_0 : decode J_179.2.2.1 0 = .ok (.aload_n 0, 1) := dzq_42 (by decide +kernel)
theorem D_179_1 : decode J_179.2.2.1 1 = .ok (.getfield 53, 3) := dzq_180 (by decide +kernel)
theorem D_179_4 : decode J_179.2.2.1 4 = .ok (.ifCond .ne 20, 3) := dzq_154 (by decide +kernel)
theorem D_179_7 : decode J_179.2.2.1 7 = .ok (.iload_n 1, 1) := dzq_27 (by decide +kernel)
theorem D_179_8 : decode J_179.2.2.1 8 = .ok (.ifCond .lt 16, 3) := dzq_155 (by decide +kernel)
theorem D_179_11 : decode J_179.2.2.1 11 = .ok (.iload_n 1, 1) := dzq_27 (by decide +kernel)
theorem D_179_12 : decode J_179.2.2.1 12 = .ok (.aload_n 0, 1) := dzq_42 (by decide +kernel)
theorem D_179_13 : decode J_179.2.2.1 13 = .ok (.getfield 46, 3) := dzq_180 (by decide +kernel)
theorem D_179_16 : decode J_179.2.2.1 16 = .ok (.if_icmp .ge 8, 3) := dzq_162 (by decide +kernel)
theorem D_179_19 : decode J_179.2.2.1 19 = .ok (.aload_n 0, 1) := dzq_42 (by decide +kernel)
theorem D_179_20 : decode J_179.2.2.1 20 = .ok (.iload_n 1, 1) := dzq_27 (by decide +kernel)
theorem D_179_21 : decode J_179.2.2.1 21 = .ok (.putfield 50, 3) := dzq_181 (by decide +kernel)
theorem D_179_24 : decode J_179.2.2.1 24 = .ok (.return_, 1) := dzq_177 (by decide +kernel)
def P_179_0 (X : mjX) (d C S kc ks : Nat) (k : Nat → Int32 → mjH → mjU) : Prop := ∀ (l0 : Nat) (l1 : Int32) (hp : mjH) (q : Option Value × mjH), k l0 l1 hp = some q → mjG X d C S J_179 (mjEq q) 0 [some (.ref l0), some (.int l1)] [] hp kc ks
noncomputable def b_179_0 (R : mjR) (l0 : Nat) (l1 : Int32) (hp : mjH) : mjU := gI hp l0 9 7 (fun v1 => (if v1 = 0 then (if l1 < 0 then some (none, hp) else gI hp l0 9 5 (fun v2 => (if v2 ≤ l1 then some (none, hp) else pI hp l0 9 6 l1 (fun hp3 => some (none, hp3))))) else some (none, hp)))
theorem t_179_0 {X : mjX} {d C S kc ks : Nat} {R : mjR} (hR : mjC R d) (h1 : kc ≤ C) (h2 : ks ≤ S) : P_179_0 X (d + 1) C S kc ks (b_179_0 R) := by
  intro l0 l1 hp q h
  unfold b_179_0 at h
  refine mjr_aload_n (x := l0) D_179_0 rfl ?_
  refine mjq_gI D_179_1 fr_9_53 h (fun v1 h => ?_)
  refine mjq_if_ne (tgt := 24) D_179_4 rfl h (fun h => ?_) (fun h => ?_)
  · exact mjq_nret D_179_24 rfl h1 h2 h
  · refine mjr_iload_n (x := l1) D_179_7 rfl ?_
    refine mjq_if_lt (tgt := 24) D_179_8 rfl h (fun h => ?_) (fun h => ?_)
    · exact mjq_nret D_179_24 rfl h1 h2 h
    · refine mjr_iload_n (x := l1) D_179_11 rfl ?_
      refine mjr_aload_n (x := l0) D_179_12 rfl ?_
      refine mjq_gI D_179_13 fr_9_46 h (fun v2 h => ?_)
      refine mjq_icmp_ge (tgt := 24) D_179_16 rfl h (fun h => ?_) (fun h => ?_)
      · exact mjq_nret D_179_24 rfl h1 h2 h
      · refine mjr_aload_n (x := l0) D_179_19 rfl ?_
        refine mjr_iload_n (x := l1) D_179_20 rfl ?_
        refine mjq_pI D_179_21 fr_9_50 rfl rfl h (fun hp3 h => ?_)
        exact mjq_nret D_179_24 rfl h1 h2 h
noncomputable def f_179 (R : mjR) (a0 : Nat) (a1 : Int32) (hp : mjH) : mjU := b_179_0 R a0 a1 hp
theorem c_179 {R : mjR} {d : Nat} (hR : mjC R d) {a0 : Nat} {a1 : Int32} {hp : mjH} {q : Option Value × mjH} (h : f_179 R a0 a1 hp = some q) : mjM (d + 1) 0 0 179 [.ref a0, .int a1] hp (mjEq q) :=
  mjM_of Ja_179 (Nat.le_of_ble_eq_true rfl) (mjG.fg (lo' := [some (.ref a0), some (.int a1)]) (And.intro rfl (And.intro rfl True.intro)) ((t_179_0 hR (Nat.le_refl 0) (Nat.le_refl 0)) a0 a1 hp q h))
def J_180 : mjI := (⟨"OwnerHeap$Tokens", "kindAt", "(I)I"⟩, 9, prog_11_method_17_code, 2, (some .int), 1, false)
theorem Ja_180 : mjMt 180 = some J_180 := by rfl
theorem D_180_0 : decode J_180.2.2.1 0 = .ok (.iload_n 1, 1) := dzq_27 (by decide +kernel)
theorem D_180_1 : decode J_180.2.2.1 1 = .ok (.ifCond .lt 20, 3) := dzq_155 (by decide +kernel)
theorem D_180_4 : decode J_180.2.2.1 4 = .ok (.iload_n 1, 1) := dzq_27 (by decide +kernel)
theorem D_180_5 : decode J_180.2.2.1 5 = .ok (.aload_n 0, 1) := dzq_42 (by decide +kernel)
theorem D_180_6 : decode J_180.2.2.1 6 = .ok (.getfield 46, 3) := dzq_180 (by decide +kernel)
theorem D_180_9 : decode J_180.2.2.1 9 = .ok (.if_icmp .ge 12, 3) := dzq_162 (by decide +kernel)
theorem D_180_12 : decode J_180.2.2.1 12 = .ok (.aload_n 0, 1) := dzq_42 (by decide +kernel)
theorem D_180_13 : decode J_180.2.2.1 13 = .ok (.getfield 15, 3) := dzq_180 (by decide +kernel)
theorem D_180_16 : decode J_180.2.2.1 16 = .ok (.iload_n 1, 1) := dzq_27 (by decide +kernel)
theorem D_180_17 : decode J_180.2.2.1 17 = .ok (.iaload, 1) := dzq_46 (by decide +kernel)
theorem D_180_18 : decode J_180.2.2.1 18 = .ok (.goto 4, 3) := dzq_167 (by decide +kernel)
theorem D_180_21 : decode J_180.2.2.1 21 = .ok (.iconst 0, 1) := dzq_3 (by decide +kernel)
theorem D_180_22 : decode J_180.2.2.1 22 = .ok (.ireturn, 1) := dzq_172 (by decide +kernel)
def P_180_21 (X : mjX) (d C S kc ks : Nat) (k : mjH → mjU) : Prop := ∀  (hp : mjH) (q : Option Value × mjH), k  hp = some q → mjG X d C S J_180 (mjEq q) 21 [none, none] [] hp kc ks
def P_180_0 (X : mjX) (d C S kc ks : Nat) (k : Nat → Int32 → mjH → mjU) : Prop := ∀ (l0 : Nat) (l1 : Int32) (hp : mjH) (q : Option Value × mjH), k l0 l1 hp = some q → mjG X d C S J_180 (mjEq q) 0 [some (.ref l0), some (.int l1)] [] hp kc ks
noncomputable def b_180_21 (R : mjR)  (hp : mjH) : mjU := some (some (.int (0 : Int32)), hp)
theorem t_180_21 {X : mjX} {d C S kc ks : Nat} {R : mjR} (hR : mjC R d) (h1 : kc ≤ C) (h2 : ks ≤ S) : P_180_21 X (d + 1) C S kc ks (b_180_21 R) := by
  intro  hp q h
  unfold b_180_21 at h
  refine mjq_ic (v := (0 : Int32)) D_180_21 rfl ?_
  exact mjq_ret D_180_22 rfl h1 h2 h
noncomputable def b_180_0 (R : mjR) (l0 : Nat) (l1 : Int32) (hp : mjH) : mjU := (if l1 < 0 then b_180_21 R hp else gI hp l0 9 5 (fun v1 => (if v1 ≤ l1 then b_180_21 R hp else gR hp l0 9 1 (fun v2 => aI hp v2 l1 (fun v3 => some (some (.int v3), hp))))))
theorem t_180_0 {X : mjX} {d C S kc ks : Nat} {R : mjR} (hR : mjC R d) (h1 : kc ≤ C) (h2 : ks ≤ S) : P_180_0 X (d + 1) C S kc ks (b_180_0 R) := by
  intro l0 l1 hp q h
  unfold b_180_0 at h
  refine mjr_iload_n (x := l1) D_180_0 rfl ?_
  refine mjq_if_lt (tgt := 21) D_180_1 rfl h (fun h => ?_) (fun h => ?_)
  · exact mjG.fg (lo' := [none, none]) True.intro ((t_180_21 hR h1 h2) _ _ h)
  · refine mjr_iload_n (x := l1) D_180_4 rfl ?_
    refine mjr_aload_n (x := l0) D_180_5 rfl ?_
    refine mjq_gI D_180_6 fr_9_46 h (fun v1 h => ?_)
    refine mjq_icmp_ge (tgt := 21) D_180_9 rfl h (fun h => ?_) (fun h => ?_)
    · exact mjG.fg (lo' := [none, none]) True.intro ((t_180_21 hR h1 h2) _ _ h)
    · refine mjr_aload_n (x := l0) D_180_12 rfl ?_
      refine mjq_gR D_180_13 fr_9_15 h (fun v2 h => ?_)
      refine mjr_iload_n (x := l1) D_180_16 rfl ?_
      refine mjq_aI D_180_17 h (fun v3 h => ?_)
      refine mjr_goto (tgt := 22) D_180_18 rfl ?_
      exact mjq_ret D_180_22 rfl h1 h2 h
noncomputable def f_180 (R : mjR) (a0 : Nat) (a1 : Int32) (hp : mjH) : mjU := b_180_0 R a0 a1 hp
theorem c_180 {R : mjR} {d : Nat} (hR : mjC R d) {a0 : Nat} {a1 : Int32} {hp : mjH} {q : Option Value × mjH} (h : f_180 R a0 a1 hp = some q) : mjM (d + 1) 0 0 180 [.ref a0, .int a1] hp (mjEq q) :=
  mjM_of Ja_180 (Nat.le_of_ble_eq_true rfl) (mjG.fg (lo' := [some (.ref a0), some (.int a1)]) (And.intro rfl (And.intro rfl True.intro)) ((t_180_0 hR (Nat.le_refl 0) (Nat.le_refl 0)) a0 a1 hp q h))
def J_181 : mjI := (⟨"OwnerHeap$Tokens", "argumentsAt", "(I)I"⟩, 9, prog_11_method_20_code, 2, (some .int), 1, false)
theorem Ja_181 : mjMt 181 = some J_181 := by rfl
theorem D_181_0 : decode J_181.2.2.1 0 = .ok (.iload_n 1, 1) := dzq_27 (by decide +kernel)
theorem D_181_1 : decode J_181.2.2.1 1 = .ok (.ifCond .lt 20, 3) := dzq_155 (by decide +kernel)
theorem D_181_4 : decode J_181.2.2.1 4 = .ok (.iload_n 1, 1) := dzq_27 (by decide +kernel)
theorem D_181_5 : decode J_181.2.2.1 5 = .ok (.aload_n 0, 1) := dzq_42 (by decide +kernel)
theorem D_181_6 : decode J_181.2.2.1 6 = .ok (.getfield 46, 3) := dzq_180 (by decide +kernel)
theorem D_181_9 : decode J_181.2.2.1 9 = .ok (.if_icmp .ge 12, 3) := dzq_162 (by decide +kernel)
theorem D_181_12 : decode J_181.2.2.1 12 = .ok (.aload_n 0, 1) := dzq_42 (by decide +kernel)
theorem D_181_13 : decode J_181.2.2.1 13 = .ok (.getfield 25, 3) := dzq_180 (by decide +kernel)
theorem D_181_16 : decode J_181.2.2.1 16 = .ok (.iload_n 1, 1) := dzq_27 (by decide +kernel)
theorem D_181_17 : decode J_181.2.2.1 17 = .ok (.iaload, 1) := dzq_46 (by decide +kernel)
theorem D_181_18 : decode J_181.2.2.1 18 = .ok (.goto 4, 3) := dzq_167 (by decide +kernel)
theorem D_181_21 : decode J_181.2.2.1 21 = .ok (.iconst 0, 1) := dzq_3 (by decide +kernel)
theorem D_181_22 : decode J_181.2.2.1 22 = .ok (.ireturn, 1) := dzq_172 (by decide +kernel)
def P_181_21 (X : mjX) (d C S kc ks : Nat) (k : mjH → mjU) : Prop := ∀  (hp : mjH) (q : Option Value × mjH), k  hp = some q → mjG X d C S J_181 (mjEq q) 21 [none, none] [] hp kc ks
def P_181_0 (X : mjX) (d C S kc ks : Nat) (k : Nat → Int32 → mjH → mjU) : Prop := ∀ (l0 : Nat) (l1 : Int32) (hp : mjH) (q : Option Value × mjH), k l0 l1 hp = some q → mjG X d C S J_181 (mjEq q) 0 [some (.ref l0), some (.int l1)] [] hp kc ks
noncomputable def b_181_21 (R : mjR)  (hp : mjH) : mjU := some (some (.int (0 : Int32)), hp)
theorem t_181_21 {X : mjX} {d C S kc ks : Nat} {R : mjR} (hR : mjC R d) (h1 : kc ≤ C) (h2 : ks ≤ S) : P_181_21 X (d + 1) C S kc ks (b_181_21 R) := by
  intro  hp q h
  unfold b_181_21 at h
  refine mjq_ic (v := (0 : Int32)) D_181_21 rfl ?_
  exact mjq_ret D_181_22 rfl h1 h2 h
noncomputable def b_181_0 (R : mjR) (l0 : Nat) (l1 : Int32) (hp : mjH) : mjU := (if l1 < 0 then b_181_21 R hp else gI hp l0 9 5 (fun v1 => (if v1 ≤ l1 then b_181_21 R hp else gR hp l0 9 4 (fun v2 => aI hp v2 l1 (fun v3 => some (some (.int v3), hp))))))
theorem t_181_0 {X : mjX} {d C S kc ks : Nat} {R : mjR} (hR : mjC R d) (h1 : kc ≤ C) (h2 : ks ≤ S) : P_181_0 X (d + 1) C S kc ks (b_181_0 R) := by
  intro l0 l1 hp q h
  unfold b_181_0 at h
  refine mjr_iload_n (x := l1) D_181_0 rfl ?_
  refine mjq_if_lt (tgt := 21) D_181_1 rfl h (fun h => ?_) (fun h => ?_)
  · exact mjG.fg (lo' := [none, none]) True.intro ((t_181_21 hR h1 h2) _ _ h)
  · refine mjr_iload_n (x := l1) D_181_4 rfl ?_
    refine mjr_aload_n (x := l0) D_181_5 rfl ?_
    refine mjq_gI D_181_6 fr_9_46 h (fun v1 h => ?_)
    refine mjq_icmp_ge (tgt := 21) D_181_9 rfl h (fun h => ?_) (fun h => ?_)
    · exact mjG.fg (lo' := [none, none]) True.intro ((t_181_21 hR h1 h2) _ _ h)
    · refine mjr_aload_n (x := l0) D_181_12 rfl ?_
      refine mjq_gR D_181_13 fr_9_25 h (fun v2 h => ?_)
      refine mjr_iload_n (x := l1) D_181_16 rfl ?_
      refine mjq_aI D_181_17 h (fun v3 h => ?_)
      refine mjr_goto (tgt := 22) D_181_18 rfl ?_
      exact mjq_ret D_181_22 rfl h1 h2 h
noncomputable def f_181 (R : mjR) (a0 : Nat) (a1 : Int32) (hp : mjH) : mjU := b_181_0 R a0 a1 hp
theorem c_181 {R : mjR} {d : Nat} (hR : mjC R d) {a0 : Nat} {a1 : Int32} {hp : mjH} {q : Option Value × mjH} (h : f_181 R a0 a1 hp = some q) : mjM (d + 1) 0 0 181 [.ref a0, .int a1] hp (mjEq q) :=
  mjM_of Ja_181 (Nat.le_of_ble_eq_true rfl) (mjG.fg (lo' := [some (.ref a0), some (.int a1)]) (And.intro rfl (And.intro rfl True.intro)) ((t_181_0 hR (Nat.le_refl 0) (Nat.le_refl 0)) a0 a1 hp q h))
def J_183 : mjI := (⟨"OwnerHeap$Walker", "forget", "()V"⟩, 10, prog_12_method_3_code, 1, none, 0, false)
theorem Ja_183 : mjMt 183 = some J_183 := by rfl
theorem D_183_0 : decode J_183.2.2.1 0 = .ok (.aload_n 0, 1) := dzq_42 (by decide +kernel)
theorem D_183_1 : decode J_183.2.2.1 1 = .ok (.iconst 0, 1) := dzq_3 (by decide +kernel)
theorem D_183_2 : decode J_183.2.2.1 2 = .ok (.putfield 37, 3) := dzq_181 (by decide +kernel)
theorem D_183_5 : decode J_183.2.2.1 5 = .ok (.return_, 1) := dzq_177 (by decide +kernel)
def P_183_0 (X : mjX) (d C S kc ks : Nat) (k : Nat → mjH → mjU) : Prop := ∀ (l0 : Nat) (hp : mjH) (q : Option Value × mjH), k l0 hp = some q → mjG X d C S J_183 (mjEq q) 0 [some (.ref l0)] [] hp kc ks
noncomputable def b_183_0 (R : mjR) (l0 : Nat) (hp : mjH) : mjU := pZ hp l0 10 5 (0 : Int32) (fun hp1 => some (none, hp1))
theorem t_183_0 {X : mjX} {d C S kc ks : Nat} {R : mjR} (hR : mjC R d) (h1 : kc ≤ C) (h2 : ks ≤ S) : P_183_0 X (d + 1) C S kc ks (b_183_0 R) := by
  intro l0 hp q h
  unfold b_183_0 at h
  refine mjr_aload_n (x := l0) D_183_0 rfl ?_
  refine mjq_ic (v := (0 : Int32)) D_183_1 rfl ?_
  refine mjq_pZ D_183_2 fr_10_37 rfl rfl h (fun hp1 h => ?_)
  exact mjq_nret D_183_5 rfl h1 h2 h
noncomputable def f_183 (R : mjR) (a0 : Nat) (hp : mjH) : mjU := b_183_0 R a0 hp
theorem c_183 {R : mjR} {d : Nat} (hR : mjC R d) {a0 : Nat} {hp : mjH} {q : Option Value × mjH} (h : f_183 R a0 hp = some q) : mjM (d + 1) 0 0 183 [.ref a0] hp (mjEq q) :=
  mjM_of Ja_183 (Nat.le_of_ble_eq_true rfl) (mjG.fg (lo' := [some (.ref a0)]) (And.intro rfl True.intro) ((t_183_0 hR (Nat.le_refl 0) (Nat.le_refl 0)) a0 hp q h))
def J_184 : mjI := (⟨"OwnerHeap$Walker", "look", "(LOwnerHeap$Program;)V"⟩, 10, prog_12_method_2_code, 2, none, 1, false)
theorem Ja_184 : mjMt 184 = some J_184 := by rfl
theorem D_184_0 : decode J_184.2.2.1 0 = .ok (.aload_n 0, 1) := dzq_42 (by decide +kernel)
theorem D_184_1 : decode J_184.2.2.1 1 = .ok (.aload_n 1, 1) := dzq_43 (by decide +kernel)
theorem D_184_2 : decode J_184.2.2.1 2 = .ok (.putfield 15, 3) := dzq_181 (by decide +kernel)
theorem D_184_5 : decode J_184.2.2.1 5 = .ok (.aload_n 0, 1) := dzq_42 (by decide +kernel)
theorem D_184_6 : decode J_184.2.2.1 6 = .ok (.iconst 0, 1) := dzq_3 (by decide +kernel)
theorem D_184_7 : decode J_184.2.2.1 7 = .ok (.putfield 37, 3) := dzq_181 (by decide +kernel)
theorem D_184_10 : decode J_184.2.2.1 10 = .ok (.return_, 1) := dzq_177 (by decide +kernel)
def P_184_0 (X : mjX) (d C S kc ks : Nat) (k : Nat → Nat → mjH → mjU) : Prop := ∀ (l0 : Nat) (l1 : Nat) (hp : mjH) (q : Option Value × mjH), k l0 l1 hp = some q → mjG X d C S J_184 (mjEq q) 0 [some (.ref l0), some (.ref l1)] [] hp kc ks
noncomputable def b_184_0 (R : mjR) (l0 : Nat) (l1 : Nat) (hp : mjH) : mjU := pR hp l0 10 1 l1 (fun hp1 => pZ hp1 l0 10 5 (0 : Int32) (fun hp2 => some (none, hp2)))
theorem t_184_0 {X : mjX} {d C S kc ks : Nat} {R : mjR} (hR : mjC R d) (h1 : kc ≤ C) (h2 : ks ≤ S) : P_184_0 X (d + 1) C S kc ks (b_184_0 R) := by
  intro l0 l1 hp q h
  unfold b_184_0 at h
  refine mjr_aload_n (x := l0) D_184_0 rfl ?_
  refine mjr_aload_n (x := l1) D_184_1 rfl ?_
  refine mjq_pR D_184_2 fr_10_15 rfl (fun _ => ⟨rfl, rfl⟩) h (fun hp1 h => ?_)
  refine mjr_aload_n (x := l0) D_184_5 rfl ?_
  refine mjq_ic (v := (0 : Int32)) D_184_6 rfl ?_
  refine mjq_pZ D_184_7 fr_10_37 rfl rfl h (fun hp2 h => ?_)
  exact mjq_nret D_184_10 rfl h1 h2 h
noncomputable def f_184 (R : mjR) (a0 : Nat) (a1 : Nat) (hp : mjH) : mjU := b_184_0 R a0 a1 hp
theorem c_184 {R : mjR} {d : Nat} (hR : mjC R d) {a0 : Nat} {a1 : Nat} {hp : mjH} {q : Option Value × mjH} (h : f_184 R a0 a1 hp = some q) : mjM (d + 1) 0 0 184 [.ref a0, .ref a1] hp (mjEq q) :=
  mjM_of Ja_184 (Nat.le_of_ble_eq_true rfl) (mjG.fg (lo' := [some (.ref a0), some (.ref a1)]) (And.intro rfl (And.intro rfl True.intro)) ((t_184_0 hR (Nat.le_refl 0) (Nat.le_refl 0)) a0 a1 hp q h))
def J_185 : mjI := (⟨"OwnerHeap$Walker", "hopsBetween", "(II)I"⟩, 10, prog_12_method_10_code, 3, (some .int), 2, false)
theorem Ja_185 : mjMt 185 = some J_185 := by rfl
theorem D_185_0 : decode J_185.2.2.1 0 = .ok (.aload_n 0, 1) := dzq_42 (by decide +kernel)
theorem D_185_1 : decode J_185.2.2.1 1 = .ok (.iload_n 1, 1) := dzq_27 (by decide +kernel)
theorem D_185_2 : decode J_185.2.2.1 2 = .ok (.iconst 0, 1) := dzq_3 (by decide +kernel)
theorem D_185_3 : decode J_185.2.2.1 3 = .ok (.invokevirtual 87, 3) := dzq_182 (by decide +kernel)
theorem D_185_6 : decode J_185.2.2.1 6 = .ok (.aload_n 0, 1) := dzq_42 (by decide +kernel)
theorem D_185_7 : decode J_185.2.2.1 7 = .ok (.getfield 25, 3) := dzq_180 (by decide +kernel)
theorem D_185_10 : decode J_185.2.2.1 10 = .ok (.iload_n 2, 1) := dzq_28 (by decide +kernel)
theorem D_185_11 : decode J_185.2.2.1 11 = .ok (.iaload, 1) := dzq_46 (by decide +kernel)
theorem D_185_12 : decode J_185.2.2.1 12 = .ok (.iconst (-1), 1) := dzq_2 (by decide +kernel)
theorem D_185_13 : decode J_185.2.2.1 13 = .ok (.if_icmp .ne 7, 3) := dzq_160 (by decide +kernel)
theorem D_185_16 : decode J_185.2.2.1 16 = .ok (.iconst (-1), 1) := dzq_2 (by decide +kernel)
theorem D_185_17 : decode J_185.2.2.1 17 = .ok (.goto 8, 3) := dzq_167 (by decide +kernel)
theorem D_185_20 : decode J_185.2.2.1 20 = .ok (.aload_n 0, 1) := dzq_42 (by decide +kernel)
theorem D_185_21 : decode J_185.2.2.1 21 = .ok (.iload_n 2, 1) := dzq_28 (by decide +kernel)
theorem D_185_22 : decode J_185.2.2.1 22 = .ok (.invokevirtual 90, 3) := dzq_182 (by decide +kernel)
theorem D_185_25 : decode J_185.2.2.1 25 = .ok (.ireturn, 1) := dzq_172 (by decide +kernel)
def P_185_0 (X : mjX) (d C S kc ks : Nat) (k : Nat → Int32 → Int32 → mjH → mjU) : Prop := ∀ (l0 : Nat) (l1 : Int32) (l2 : Int32) (hp : mjH) (q : Option Value × mjH), k l0 l1 l2 hp = some q → mjG X d C S J_185 (mjEq q) 0 [some (.ref l0), some (.int l1), some (.int l2)] [] hp kc ks
noncomputable def b_185_0 (R : mjR) (l0 : Nat) (l1 : Int32) (l2 : Int32) (hp : mjH) : mjU := rV hp l0 10 (bN (R 186 [.ref l0, .int l1, .int (0 : Int32)] hp) (fun  hp1 => gR hp1 l0 10 4 (fun v2 => aI hp1 v2 l2 (fun v3 => (if v3 = (-1 : Int32) then some (some (.int (-1 : Int32)), hp1) else rV hp1 l0 10 (bI (R 191 [.ref l0, .int l2] hp1) (fun v4 hp5 => some (some (.int v4), hp5))))))))
theorem t_185_0 {X : mjX} {d C S kc ks : Nat} {R : mjR} (hR : mjC R d) (h1 : kc ≤ C) (h2 : ks ≤ S) : P_185_0 X (d + 1) C S kc ks (b_185_0 R) := by
  intro l0 l1 l2 hp q h
  unfold b_185_0 at h
  refine mjr_aload_n (x := l0) D_185_0 rfl ?_
  refine mjr_iload_n (x := l1) D_185_1 rfl ?_
  refine mjq_ic (v := (0 : Int32)) D_185_2 rfl ?_
  refine mjq_vN (As := [.int l1, .int (0 : Int32)]) (rest := []) D_185_3 mr_10_87 V_186 rfl rfl rfl hR (Nat.le_refl _) h1 h2 h (fun  hp1 h => ?_)
  refine mjr_aload_n (x := l0) D_185_6 rfl ?_
  refine mjq_gR D_185_7 fr_10_25 h (fun v2 h => ?_)
  refine mjr_iload_n (x := l2) D_185_10 rfl ?_
  refine mjq_aI D_185_11 h (fun v3 h => ?_)
  refine mjq_ic (v := (-1 : Int32)) D_185_12 rfl ?_
  refine mjq_icmp_ne (tgt := 20) D_185_13 rfl h (fun h => ?_) (fun h => ?_)
  · refine mjr_aload_n (x := l0) D_185_20 rfl ?_
    refine mjr_iload_n (x := l2) D_185_21 rfl ?_
    refine mjq_vI (As := [.int l2]) (rest := []) D_185_22 mr_10_90 V_191 rfl rfl rfl hR (Nat.le_refl _) h1 h2 h (fun v4 hp5 h => ?_)
    exact mjq_ret D_185_25 rfl h1 h2 h
  · refine mjq_ic (v := (-1 : Int32)) D_185_16 rfl ?_
    refine mjr_goto (tgt := 25) D_185_17 rfl ?_
    exact mjq_ret D_185_25 rfl h1 h2 h
noncomputable def f_185 (R : mjR) (a0 : Nat) (a1 : Int32) (a2 : Int32) (hp : mjH) : mjU := b_185_0 R a0 a1 a2 hp
theorem c_185 {R : mjR} {d : Nat} (hR : mjC R d) {a0 : Nat} {a1 : Int32} {a2 : Int32} {hp : mjH} {q : Option Value × mjH} (h : f_185 R a0 a1 a2 hp = some q) : mjM (d + 1) 0 0 185 [.ref a0, .int a1, .int a2] hp (mjEq q) :=
  mjM_of Ja_185 (Nat.le_of_ble_eq_true rfl) (mjG.fg (lo' := [some (.ref a0), some (.int a1), some (.int a2)]) (And.intro rfl (And.intro rfl (And.intro rfl True.intro))) ((t_185_0 hR (Nat.le_refl 0) (Nat.le_refl 0)) a0 a1 a2 hp q h))
def J_186 : mjI := (⟨"OwnerHeap$Walker", "spread", "(II)V"⟩, 10, prog_12_method_4_code, 4, none, 2, false)
theorem Ja_186 : mjMt 186 = some J_186 := by rfl
theorem D_186_0 : decode J_186.2.2.1 0 = .ok (.aload_n 0, 1) := dzq_42 (by decide +kernel)
theorem D_186_1 : decode J_186.2.2.1 1 = .ok (.iconst 0, 1) := dzq_3 (by decide +kernel)
theorem D_186_2 : decode J_186.2.2.1 2 = .ok (.putfield 41, 3) := dzq_181 (by decide +kernel)
theorem D_186_5 : decode J_186.2.2.1 5 = .ok (.aload_n 0, 1) := dzq_42 (by decide +kernel)
theorem D_186_6 : decode J_186.2.2.1 6 = .ok (.getfield 25, 3) := dzq_180 (by decide +kernel)
theorem D_186_9 : decode J_186.2.2.1 9 = .ok (.iconst 0, 1) := dzq_3 (by decide +kernel)
theorem D_186_10 : decode J_186.2.2.1 10 = .ok (.aload_n 0, 1) := dzq_42 (by decide +kernel)
theorem D_186_11 : decode J_186.2.2.1 11 = .ok (.getfield 9, 3) := dzq_180 (by decide +kernel)
theorem D_186_14 : decode J_186.2.2.1 14 = .ok (.getfield 45, 3) := dzq_180 (by decide +kernel)
theorem D_186_17 : decode J_186.2.2.1 17 = .ok (.iconst 1, 1) := dzq_4 (by decide +kernel)
theorem D_186_18 : decode J_186.2.2.1 18 = .ok (.iadd, 1) := dzq_96 (by decide +kernel)
theorem D_186_19 : decode J_186.2.2.1 19 = .ok (.iconst (-1), 1) := dzq_2 (by decide +kernel)
theorem D_186_20 : decode J_186.2.2.1 20 = .ok (.invokestatic 48, 3) := dzq_184 (by decide +kernel)
theorem D_186_23 : decode J_186.2.2.1 23 = .ok (.iload_n 1, 1) := dzq_27 (by decide +kernel)
theorem D_186_24 : decode J_186.2.2.1 24 = .ok (.ifCond .eq 9, 3) := dzq_153 (by decide +kernel)
theorem D_186_27 : decode J_186.2.2.1 27 = .ok (.aload_n 0, 1) := dzq_42 (by decide +kernel)
theorem D_186_28 : decode J_186.2.2.1 28 = .ok (.iload_n 1, 1) := dzq_27 (by decide +kernel)
theorem D_186_29 : decode J_186.2.2.1 29 = .ok (.iconst 0, 1) := dzq_3 (by decide +kernel)
theorem D_186_30 : decode J_186.2.2.1 30 = .ok (.invokevirtual 54, 3) := dzq_182 (by decide +kernel)
theorem D_186_33 : decode J_186.2.2.1 33 = .ok (.iconst 1, 1) := dzq_4 (by decide +kernel)
theorem D_186_34 : decode J_186.2.2.1 34 = .ok (.istore_n 3, 1) := dzq_62 (by decide +kernel)
theorem D_186_35 : decode J_186.2.2.1 35 = .ok (.iload_n 3, 1) := dzq_29 (by decide +kernel)
theorem D_186_36 : decode J_186.2.2.1 36 = .ok (.aload_n 0, 1) := dzq_42 (by decide +kernel)
theorem D_186_37 : decode J_186.2.2.1 37 = .ok (.getfield 9, 3) := dzq_180 (by decide +kernel)
theorem D_186_40 : decode J_186.2.2.1 40 = .ok (.getfield 45, 3) := dzq_180 (by decide +kernel)
theorem D_186_43 : decode J_186.2.2.1 43 = .ok (.if_icmp .gt 36, 3) := dzq_163 (by decide +kernel)
theorem D_186_46 : decode J_186.2.2.1 46 = .ok (.iload_n 1, 1) := dzq_27 (by decide +kernel)
theorem D_186_47 : decode J_186.2.2.1 47 = .ok (.ifCond .ne 32, 3) := dzq_154 (by decide +kernel)
theorem D_186_50 : decode J_186.2.2.1 50 = .ok (.aload_n 0, 1) := dzq_42 (by decide +kernel)
theorem D_186_51 : decode J_186.2.2.1 51 = .ok (.getfield 9, 3) := dzq_180 (by decide +kernel)
theorem D_186_54 : decode J_186.2.2.1 54 = .ok (.iload_n 3, 1) := dzq_29 (by decide +kernel)
theorem D_186_55 : decode J_186.2.2.1 55 = .ok (.iconst 0, 1) := dzq_3 (by decide +kernel)
theorem D_186_56 : decode J_186.2.2.1 56 = .ok (.invokevirtual 58, 3) := dzq_182 (by decide +kernel)
theorem D_186_59 : decode J_186.2.2.1 59 = .ok (.ifCond .ne 14, 3) := dzq_154 (by decide +kernel)
theorem D_186_62 : decode J_186.2.2.1 62 = .ok (.iload_n 3, 1) := dzq_29 (by decide +kernel)
theorem D_186_63 : decode J_186.2.2.1 63 = .ok (.iload_n 2, 1) := dzq_28 (by decide +kernel)
theorem D_186_64 : decode J_186.2.2.1 64 = .ok (.if_icmp .eq 9, 3) := dzq_159 (by decide +kernel)
theorem D_186_67 : decode J_186.2.2.1 67 = .ok (.aload_n 0, 1) := dzq_42 (by decide +kernel)
theorem D_186_68 : decode J_186.2.2.1 68 = .ok (.iload_n 3, 1) := dzq_29 (by decide +kernel)
theorem D_186_69 : decode J_186.2.2.1 69 = .ok (.iconst 0, 1) := dzq_3 (by decide +kernel)
theorem D_186_70 : decode J_186.2.2.1 70 = .ok (.invokevirtual 54, 3) := dzq_182 (by decide +kernel)
theorem D_186_73 : decode J_186.2.2.1 73 = .ok (.iinc 3 1, 3) := dzq_132 (by decide +kernel)
theorem D_186_76 : decode J_186.2.2.1 76 = .ok (.goto (-41), 3) := dzq_167 (by decide +kernel)
theorem D_186_79 : decode J_186.2.2.1 79 = .ok (.iconst 0, 1) := dzq_3 (by decide +kernel)
theorem D_186_80 : decode J_186.2.2.1 80 = .ok (.istore_n 3, 1) := dzq_62 (by decide +kernel)
theorem D_186_81 : decode J_186.2.2.1 81 = .ok (.iload_n 3, 1) := dzq_29 (by decide +kernel)
theorem D_186_82 : decode J_186.2.2.1 82 = .ok (.aload_n 0, 1) := dzq_42 (by decide +kernel)
theorem D_186_83 : decode J_186.2.2.1 83 = .ok (.getfield 9, 3) := dzq_180 (by decide +kernel)
theorem D_186_86 : decode J_186.2.2.1 86 = .ok (.getfield 45, 3) := dzq_180 (by decide +kernel)
theorem D_186_89 : decode J_186.2.2.1 89 = .ok (.if_icmp .ge 28, 3) := dzq_162 (by decide +kernel)
theorem D_186_92 : decode J_186.2.2.1 92 = .ok (.iload_n 3, 1) := dzq_29 (by decide +kernel)
theorem D_186_93 : decode J_186.2.2.1 93 = .ok (.aload_n 0, 1) := dzq_42 (by decide +kernel)
theorem D_186_94 : decode J_186.2.2.1 94 = .ok (.getfield 41, 3) := dzq_180 (by decide +kernel)
theorem D_186_97 : decode J_186.2.2.1 97 = .ok (.if_icmp .ge 20, 3) := dzq_162 (by decide +kernel)
theorem D_186_100 : decode J_186.2.2.1 100 = .ok (.aload_n 0, 1) := dzq_42 (by decide +kernel)
theorem D_186_101 : decode J_186.2.2.1 101 = .ok (.aload_n 0, 1) := dzq_42 (by decide +kernel)
theorem D_186_102 : decode J_186.2.2.1 102 = .ok (.getfield 21, 3) := dzq_180 (by decide +kernel)
theorem D_186_105 : decode J_186.2.2.1 105 = .ok (.iload_n 3, 1) := dzq_29 (by decide +kernel)
theorem D_186_106 : decode J_186.2.2.1 106 = .ok (.iaload, 1) := dzq_46 (by decide +kernel)
theorem D_186_107 : decode J_186.2.2.1 107 = .ok (.iload_n 2, 1) := dzq_28 (by decide +kernel)
theorem D_186_108 : decode J_186.2.2.1 108 = .ok (.invokevirtual 62, 3) := dzq_182 (by decide +kernel)
theorem D_186_111 : decode J_186.2.2.1 111 = .ok (.iinc 3 1, 3) := dzq_132 (by decide +kernel)
theorem D_186_114 : decode J_186.2.2.1 114 = .ok (.goto (-33), 3) := dzq_167 (by decide +kernel)
theorem D_186_117 : decode J_186.2.2.1 117 = .ok (.return_, 1) := dzq_177 (by decide +kernel)
def P_186_81 (X : mjX) (d C S kc ks : Nat) (k : Nat → Int32 → Int32 → mjH → mjU) : Prop := ∀ (l0 : Nat) (l2 : Int32) (l3 : Int32) (hp : mjH) (q : Option Value × mjH), k l0 l2 l3 hp = some q → mjG X d C S J_186 (mjEq q) 81 [some (.ref l0), none, some (.int l2), some (.int l3)] [] hp kc ks
def P_186_79 (X : mjX) (d C S kc ks : Nat) (k : Nat → Int32 → mjH → mjU) : Prop := ∀ (l0 : Nat) (l2 : Int32) (hp : mjH) (q : Option Value × mjH), k l0 l2 hp = some q → mjG X d C S J_186 (mjEq q) 79 [some (.ref l0), none, some (.int l2), none] [] hp kc ks
def P_186_73 (X : mjX) (d C S kc ks : Nat) (k : Nat → Int32 → Int32 → Int32 → mjH → mjU) : Prop := ∀ (l0 : Nat) (l1 : Int32) (l2 : Int32) (l3 : Int32) (hp : mjH) (q : Option Value × mjH), k l0 l1 l2 l3 hp = some q → mjG X d C S J_186 (mjEq q) 73 [some (.ref l0), some (.int l1), some (.int l2), some (.int l3)] [] hp kc ks
def P_186_35 (X : mjX) (d C S kc ks : Nat) (k : Nat → Int32 → Int32 → Int32 → mjH → mjU) : Prop := ∀ (l0 : Nat) (l1 : Int32) (l2 : Int32) (l3 : Int32) (hp : mjH) (q : Option Value × mjH), k l0 l1 l2 l3 hp = some q → mjG X d C S J_186 (mjEq q) 35 [some (.ref l0), some (.int l1), some (.int l2), some (.int l3)] [] hp kc ks
def P_186_33 (X : mjX) (d C S kc ks : Nat) (k : Nat → Int32 → Int32 → mjH → mjU) : Prop := ∀ (l0 : Nat) (l1 : Int32) (l2 : Int32) (hp : mjH) (q : Option Value × mjH), k l0 l1 l2 hp = some q → mjG X d C S J_186 (mjEq q) 33 [some (.ref l0), some (.int l1), some (.int l2), none] [] hp kc ks
def P_186_0 (X : mjX) (d C S kc ks : Nat) (k : Nat → Int32 → Int32 → mjH → mjU) : Prop := ∀ (l0 : Nat) (l1 : Int32) (l2 : Int32) (hp : mjH) (q : Option Value × mjH), k l0 l1 l2 hp = some q → mjG X d C S J_186 (mjEq q) 0 [some (.ref l0), some (.int l1), some (.int l2), none] [] hp kc ks
noncomputable def b_186_81 (R : mjR) (k81 : Nat → Int32 → Int32 → mjH → mjU) (l0 : Nat) (l2 : Int32) (l3 : Int32) (hp : mjH) : mjU := gR hp l0 10 0 (fun v1 => gI hp v1 3 2 (fun v2 => (if v2 ≤ l3 then some (none, hp) else gI hp l0 10 3 (fun v3 => (if v3 ≤ l3 then some (none, hp) else gR hp l0 10 2 (fun v4 => aI hp v4 l3 (fun v5 => rV hp l0 10 (bN (R 188 [.ref l0, .int v5, .int l2] hp) (fun  hp6 => k81 l0 l2 (l3 + (1 : Int32)) hp6)))))))))
theorem t_186_81 {X : mjX} {d C S kc ks : Nat} {R : mjR} (hR : mjC R d) (h1 : kc ≤ C) (h2 : ks ≤ S) {k81 : Nat → Int32 → Int32 → mjH → mjU} (hk81 : P_186_81 X (d + 1) C S kc ks k81) : P_186_81 X (d + 1) C S kc ks (b_186_81 R k81) := by
  intro l0 l2 l3 hp q h
  unfold b_186_81 at h
  refine mjr_iload_n (x := l3) D_186_81 rfl ?_
  refine mjr_aload_n (x := l0) D_186_82 rfl ?_
  refine mjq_gR D_186_83 fr_10_9 h (fun v1 h => ?_)
  refine mjq_gI D_186_86 fr_10_45 h (fun v2 h => ?_)
  refine mjq_icmp_ge (tgt := 117) D_186_89 rfl h (fun h => ?_) (fun h => ?_)
  · exact mjq_nret D_186_117 rfl h1 h2 h
  · refine mjr_iload_n (x := l3) D_186_92 rfl ?_
    refine mjr_aload_n (x := l0) D_186_93 rfl ?_
    refine mjq_gI D_186_94 fr_10_41 h (fun v3 h => ?_)
    refine mjq_icmp_ge (tgt := 117) D_186_97 rfl h (fun h => ?_) (fun h => ?_)
    · exact mjq_nret D_186_117 rfl h1 h2 h
    · refine mjr_aload_n (x := l0) D_186_100 rfl ?_
      refine mjr_aload_n (x := l0) D_186_101 rfl ?_
      refine mjq_gR D_186_102 fr_10_21 h (fun v4 h => ?_)
      refine mjr_iload_n (x := l3) D_186_105 rfl ?_
      refine mjq_aI D_186_106 h (fun v5 h => ?_)
      refine mjr_iload_n (x := l2) D_186_107 rfl ?_
      refine mjq_vN (As := [.int v5, .int l2]) (rest := []) D_186_108 mr_10_62 V_188 rfl rfl rfl hR (Nat.le_refl _) h1 h2 h (fun  hp6 h => ?_)
      refine mjq_iinc (x := l3) (c := (1 : Int32)) (lo' := [some (.ref l0), none, some (.int l2), some (.int (l3 + (1 : Int32)))]) D_186_111 rfl (Nat.le_of_ble_eq_true rfl) rfl rfl ?_
      refine mjr_goto (tgt := 81) D_186_114 rfl ?_
      exact hk81 _ _ _ _ _ h
noncomputable def L_186_81 (R : mjR) (n : Nat) : Nat → Int32 → Int32 → mjH → mjU := Nat.rec (motive := fun _ => Nat → Int32 → Int32 → mjH → mjU) (fun _ _ _ _ => none) (fun _ self => b_186_81 R self) n
theorem T_186_81 {X : mjX} {d C S kc ks : Nat} {R : mjR} (hR : mjC R d) (h1 : kc ≤ C) (h2 : ks ≤ S) (n : Nat) : P_186_81 X (d + 1) C S kc ks (L_186_81 R n) := by
  induction n with
  | zero => intro _ _ _ _ _ h; exact mj_no h
  | succ n ih => exact t_186_81 hR h1 h2 ih
noncomputable def b_186_79 (R : mjR) (l0 : Nat) (l2 : Int32) (hp : mjH) : mjU := L_186_81 R mjN l0 l2 (0 : Int32) hp
theorem t_186_79 {X : mjX} {d C S kc ks : Nat} {R : mjR} (hR : mjC R d) (h1 : kc ≤ C) (h2 : ks ≤ S) : P_186_79 X (d + 1) C S kc ks (b_186_79 R) := by
  intro l0 l2 hp q h
  unfold b_186_79 at h
  refine mjq_ic (v := (0 : Int32)) D_186_79 rfl ?_
  refine mjq_istore_n (lo' := [some (.ref l0), none, some (.int l2), some (.int (0 : Int32))]) D_186_80 (Nat.le_of_ble_eq_true rfl) rfl ?_
  exact (T_186_81 hR h1 h2 mjN) _ _ _ _ _ h
noncomputable def b_186_73 (R : mjR) (k35 : Nat → Int32 → Int32 → Int32 → mjH → mjU) (l0 : Nat) (l1 : Int32) (l2 : Int32) (l3 : Int32) (hp : mjH) : mjU := k35 l0 l1 l2 (l3 + (1 : Int32)) hp
theorem t_186_73 {X : mjX} {d C S kc ks : Nat} {R : mjR} (hR : mjC R d) (h1 : kc ≤ C) (h2 : ks ≤ S) {k35 : Nat → Int32 → Int32 → Int32 → mjH → mjU} (hk35 : P_186_35 X (d + 1) C S kc ks k35) : P_186_73 X (d + 1) C S kc ks (b_186_73 R k35) := by
  intro l0 l1 l2 l3 hp q h
  unfold b_186_73 at h
  refine mjq_iinc (x := l3) (c := (1 : Int32)) (lo' := [some (.ref l0), some (.int l1), some (.int l2), some (.int (l3 + (1 : Int32)))]) D_186_73 rfl (Nat.le_of_ble_eq_true rfl) rfl rfl ?_
  refine mjr_goto (tgt := 35) D_186_76 rfl ?_
  exact hk35 _ _ _ _ _ _ h
noncomputable def b_186_35 (R : mjR) (k35 : Nat → Int32 → Int32 → Int32 → mjH → mjU) (l0 : Nat) (l1 : Int32) (l2 : Int32) (l3 : Int32) (hp : mjH) : mjU := gR hp l0 10 0 (fun v1 => gI hp v1 3 2 (fun v2 => (if v2 < l3 then b_186_79 R l0 l2 hp else (if l1 = 0 then gR hp l0 10 0 (fun v3 => rV hp v3 3 (bI (R 49 [.ref v3, .int l3, .int (0 : Int32)] hp) (fun v4 hp5 => (if v4 = 0 then (if l3 = l2 then b_186_73 R k35 l0 l1 l2 l3 hp5 else rV hp5 l0 10 (bN (R 187 [.ref l0, .int l3, .int (0 : Int32)] hp5) (fun  hp6 => b_186_73 R k35 l0 l1 l2 l3 hp6))) else b_186_73 R k35 l0 l1 l2 l3 hp5)))) else b_186_79 R l0 l2 hp))))
theorem t_186_35 {X : mjX} {d C S kc ks : Nat} {R : mjR} (hR : mjC R d) (h1 : kc ≤ C) (h2 : ks ≤ S) {k35 : Nat → Int32 → Int32 → Int32 → mjH → mjU} (hk35 : P_186_35 X (d + 1) C S kc ks k35) : P_186_35 X (d + 1) C S kc ks (b_186_35 R k35) := by
  intro l0 l1 l2 l3 hp q h
  unfold b_186_35 at h
  refine mjr_iload_n (x := l3) D_186_35 rfl ?_
  refine mjr_aload_n (x := l0) D_186_36 rfl ?_
  refine mjq_gR D_186_37 fr_10_9 h (fun v1 h => ?_)
  refine mjq_gI D_186_40 fr_10_45 h (fun v2 h => ?_)
  refine mjq_icmp_gt (tgt := 79) D_186_43 rfl h (fun h => ?_) (fun h => ?_)
  · exact mjG.fg (lo' := [some (.ref l0), none, some (.int l2), none]) (And.intro rfl (And.intro rfl True.intro)) ((t_186_79 hR h1 h2) _ _ _ _ h)
  · refine mjr_iload_n (x := l1) D_186_46 rfl ?_
    refine mjq_if_ne (tgt := 79) D_186_47 rfl h (fun h => ?_) (fun h => ?_)
    · exact mjG.fg (lo' := [some (.ref l0), none, some (.int l2), none]) (And.intro rfl (And.intro rfl True.intro)) ((t_186_79 hR h1 h2) _ _ _ _ h)
    · refine mjr_aload_n (x := l0) D_186_50 rfl ?_
      refine mjq_gR D_186_51 fr_10_9 h (fun v3 h => ?_)
      refine mjr_iload_n (x := l3) D_186_54 rfl ?_
      refine mjq_ic (v := (0 : Int32)) D_186_55 rfl ?_
      refine mjq_vI (As := [.int l3, .int (0 : Int32)]) (rest := []) D_186_56 mr_10_58 V_49 rfl rfl rfl hR (Nat.le_refl _) h1 h2 h (fun v4 hp5 h => ?_)
      refine mjq_if_ne (tgt := 73) D_186_59 rfl h (fun h => ?_) (fun h => ?_)
      · exact (t_186_73 hR h1 h2 hk35) _ _ _ _ _ _ h
      · refine mjr_iload_n (x := l3) D_186_62 rfl ?_
        refine mjr_iload_n (x := l2) D_186_63 rfl ?_
        refine mjq_icmp_eq (tgt := 73) D_186_64 rfl h (fun h => ?_) (fun h => ?_)
        · exact (t_186_73 hR h1 h2 hk35) _ _ _ _ _ _ h
        · refine mjr_aload_n (x := l0) D_186_67 rfl ?_
          refine mjr_iload_n (x := l3) D_186_68 rfl ?_
          refine mjq_ic (v := (0 : Int32)) D_186_69 rfl ?_
          refine mjq_vN (As := [.int l3, .int (0 : Int32)]) (rest := []) D_186_70 mr_10_54 V_187 rfl rfl rfl hR (Nat.le_refl _) h1 h2 h (fun  hp6 h => ?_)
          exact (t_186_73 hR h1 h2 hk35) _ _ _ _ _ _ h
noncomputable def L_186_35 (R : mjR) (n : Nat) : Nat → Int32 → Int32 → Int32 → mjH → mjU := Nat.rec (motive := fun _ => Nat → Int32 → Int32 → Int32 → mjH → mjU) (fun _ _ _ _ _ => none) (fun _ self => b_186_35 R self) n
theorem T_186_35 {X : mjX} {d C S kc ks : Nat} {R : mjR} (hR : mjC R d) (h1 : kc ≤ C) (h2 : ks ≤ S) (n : Nat) : P_186_35 X (d + 1) C S kc ks (L_186_35 R n) := by
  induction n with
  | zero => intro _ _ _ _ _ _ h; exact mj_no h
  | succ n ih => exact t_186_35 hR h1 h2 ih
noncomputable def b_186_33 (R : mjR) (l0 : Nat) (l1 : Int32) (l2 : Int32) (hp : mjH) : mjU := L_186_35 R mjN l0 l1 l2 (1 : Int32) hp
theorem t_186_33 {X : mjX} {d C S kc ks : Nat} {R : mjR} (hR : mjC R d) (h1 : kc ≤ C) (h2 : ks ≤ S) : P_186_33 X (d + 1) C S kc ks (b_186_33 R) := by
  intro l0 l1 l2 hp q h
  unfold b_186_33 at h
  refine mjq_ic (v := (1 : Int32)) D_186_33 rfl ?_
  refine mjq_istore_n (lo' := [some (.ref l0), some (.int l1), some (.int l2), some (.int (1 : Int32))]) D_186_34 (Nat.le_of_ble_eq_true rfl) rfl ?_
  exact (T_186_35 hR h1 h2 mjN) _ _ _ _ _ _ h
noncomputable def b_186_0 (R : mjR) (l0 : Nat) (l1 : Int32) (l2 : Int32) (hp : mjH) : mjU := pI hp l0 10 3 (0 : Int32) (fun hp1 => gR hp1 l0 10 4 (fun v2 => gR hp1 l0 10 0 (fun v3 => gI hp1 v3 3 2 (fun v4 => bN (R 379 [.ref v2, .int (0 : Int32), .int (v4 + (1 : Int32)), .int (-1 : Int32)] hp1) (fun  hp5 => (if l1 = 0 then b_186_33 R l0 l1 l2 hp5 else rV hp5 l0 10 (bN (R 187 [.ref l0, .int l1, .int (0 : Int32)] hp5) (fun  hp6 => b_186_33 R l0 l1 l2 hp6))))))))
theorem t_186_0 {X : mjX} {d C S kc ks : Nat} {R : mjR} (hR : mjC R d) (h1 : kc ≤ C) (h2 : ks ≤ S) : P_186_0 X (d + 1) C S kc ks (b_186_0 R) := by
  intro l0 l1 l2 hp q h
  unfold b_186_0 at h
  refine mjr_aload_n (x := l0) D_186_0 rfl ?_
  refine mjq_ic (v := (0 : Int32)) D_186_1 rfl ?_
  refine mjq_pI D_186_2 fr_10_41 rfl rfl h (fun hp1 h => ?_)
  refine mjr_aload_n (x := l0) D_186_5 rfl ?_
  refine mjq_gR D_186_6 fr_10_25 h (fun v2 h => ?_)
  refine mjq_ic (v := (0 : Int32)) D_186_9 rfl ?_
  refine mjr_aload_n (x := l0) D_186_10 rfl ?_
  refine mjq_gR D_186_11 fr_10_9 h (fun v3 h => ?_)
  refine mjq_gI D_186_14 fr_10_45 h (fun v4 h => ?_)
  refine mjq_ic (v := (1 : Int32)) D_186_17 rfl ?_
  refine mjr_iadd D_186_18 ?_
  refine mjq_ic (v := (-1 : Int32)) D_186_19 rfl ?_
  refine mjq_scN (As := [.ref v2, .int (0 : Int32), .int (v4 + (1 : Int32)), .int (-1 : Int32)]) (rest := []) D_186_20 mr_10_48 V_379 rfl rfl rfl hR (Nat.le_refl _) h1 h2 h (fun  hp5 h => ?_)
  refine mjr_iload_n (x := l1) D_186_23 rfl ?_
  refine mjq_if_eq (tgt := 33) D_186_24 rfl h (fun h => ?_) (fun h => ?_)
  · exact (t_186_33 hR h1 h2) _ _ _ _ _ h
  · refine mjr_aload_n (x := l0) D_186_27 rfl ?_
    refine mjr_iload_n (x := l1) D_186_28 rfl ?_
    refine mjq_ic (v := (0 : Int32)) D_186_29 rfl ?_
    refine mjq_vN (As := [.int l1, .int (0 : Int32)]) (rest := []) D_186_30 mr_10_54 V_187 rfl rfl rfl hR (Nat.le_refl _) h1 h2 h (fun  hp6 h => ?_)
    exact (t_186_33 hR h1 h2) _ _ _ _ _ h
noncomputable def f_186 (R : mjR) (a0 : Nat) (a1 : Int32) (a2 : Int32) (hp : mjH) : mjU := b_186_0 R a0 a1 a2 hp
theorem c_186 {R : mjR} {d : Nat} (hR : mjC R d) {a0 : Nat} {a1 : Int32} {a2 : Int32} {hp : mjH} {q : Option Value × mjH} (h : f_186 R a0 a1 a2 hp = some q) : mjM (d + 1) 0 0 186 [.ref a0, .int a1, .int a2] hp (mjEq q) :=
  mjM_of Ja_186 (Nat.le_of_ble_eq_true rfl) (mjG.fg (lo' := [some (.ref a0), some (.int a1), some (.int a2), none]) (And.intro rfl (And.intro rfl (And.intro rfl True.intro))) ((t_186_0 hR (Nat.le_refl 0) (Nat.le_refl 0)) a0 a1 a2 hp q h))
def J_187 : mjI := (⟨"OwnerHeap$Walker", "comeTo", "(II)V"⟩, 10, prog_12_method_6_code, 3, none, 2, false)
theorem Ja_187 : mjMt 187 = some J_187 := by rfl
theorem D_187_0 : decode J_187.2.2.1 0 = .ok (.aload_n 0, 1) := dzq_42 (by decide +kernel)
theorem D_187_1 : decode J_187.2.2.1 1 = .ok (.getfield 25, 3) := dzq_180 (by decide +kernel)
theorem D_187_4 : decode J_187.2.2.1 4 = .ok (.iload_n 1, 1) := dzq_27 (by decide +kernel)
theorem D_187_5 : decode J_187.2.2.1 5 = .ok (.iaload, 1) := dzq_46 (by decide +kernel)
theorem D_187_6 : decode J_187.2.2.1 6 = .ok (.iconst (-1), 1) := dzq_2 (by decide +kernel)
theorem D_187_7 : decode J_187.2.2.1 7 = .ok (.if_icmp .ne 42, 3) := dzq_160 (by decide +kernel)
theorem D_187_10 : decode J_187.2.2.1 10 = .ok (.aload_n 0, 1) := dzq_42 (by decide +kernel)
theorem D_187_11 : decode J_187.2.2.1 11 = .ok (.getfield 41, 3) := dzq_180 (by decide +kernel)
theorem D_187_14 : decode J_187.2.2.1 14 = .ok (.aload_n 0, 1) := dzq_42 (by decide +kernel)
theorem D_187_15 : decode J_187.2.2.1 15 = .ok (.getfield 21, 3) := dzq_180 (by decide +kernel)
theorem D_187_18 : decode J_187.2.2.1 18 = .ok (.arraylength, 1) := by decide +kernel
theorem D_187_19 : decode J_187.2.2.1 19 = .ok (.if_icmp .ge 30, 3) := dzq_162 (by decide +kernel)
theorem D_187_22 : decode J_187.2.2.1 22 = .ok (.aload_n 0, 1) := dzq_42 (by decide +kernel)
theorem D_187_23 : decode J_187.2.2.1 23 = .ok (.getfield 25, 3) := dzq_180 (by decide +kernel)
theorem D_187_26 : decode J_187.2.2.1 26 = .ok (.iload_n 1, 1) := dzq_27 (by decide +kernel)
theorem D_187_27 : decode J_187.2.2.1 27 = .ok (.iload_n 2, 1) := dzq_28 (by decide +kernel)
theorem D_187_28 : decode J_187.2.2.1 28 = .ok (.iastore, 1) := dzq_79 (by decide +kernel)
theorem D_187_29 : decode J_187.2.2.1 29 = .ok (.aload_n 0, 1) := dzq_42 (by decide +kernel)
theorem D_187_30 : decode J_187.2.2.1 30 = .ok (.getfield 21, 3) := dzq_180 (by decide +kernel)
theorem D_187_33 : decode J_187.2.2.1 33 = .ok (.aload_n 0, 1) := dzq_42 (by decide +kernel)
theorem D_187_34 : decode J_187.2.2.1 34 = .ok (.getfield 41, 3) := dzq_180 (by decide +kernel)
theorem D_187_37 : decode J_187.2.2.1 37 = .ok (.iload_n 1, 1) := dzq_27 (by decide +kernel)
theorem D_187_38 : decode J_187.2.2.1 38 = .ok (.iastore, 1) := dzq_79 (by decide +kernel)
theorem D_187_39 : decode J_187.2.2.1 39 = .ok (.aload_n 0, 1) := dzq_42 (by decide +kernel)
theorem D_187_40 : decode J_187.2.2.1 40 = .ok (.dup, 1) := dzq_89 (by decide +kernel)
theorem D_187_41 : decode J_187.2.2.1 41 = .ok (.getfield 41, 3) := dzq_180 (by decide +kernel)
theorem D_187_44 : decode J_187.2.2.1 44 = .ok (.iconst 1, 1) := dzq_4 (by decide +kernel)
theorem D_187_45 : decode J_187.2.2.1 45 = .ok (.iadd, 1) := dzq_96 (by decide +kernel)
theorem D_187_46 : decode J_187.2.2.1 46 = .ok (.putfield 41, 3) := dzq_181 (by decide +kernel)
theorem D_187_49 : decode J_187.2.2.1 49 = .ok (.return_, 1) := dzq_177 (by decide +kernel)
def P_187_0 (X : mjX) (d C S kc ks : Nat) (k : Nat → Int32 → Int32 → mjH → mjU) : Prop := ∀ (l0 : Nat) (l1 : Int32) (l2 : Int32) (hp : mjH) (q : Option Value × mjH), k l0 l1 l2 hp = some q → mjG X d C S J_187 (mjEq q) 0 [some (.ref l0), some (.int l1), some (.int l2)] [] hp kc ks
noncomputable def b_187_0 (R : mjR) (l0 : Nat) (l1 : Int32) (l2 : Int32) (hp : mjH) : mjU := gR hp l0 10 4 (fun v1 => aI hp v1 l1 (fun v2 => (if v2 = (-1 : Int32) then gI hp l0 10 3 (fun v3 => gR hp l0 10 2 (fun v4 => aN hp v4 (fun v5 => (if v5 ≤ v3 then some (none, hp) else gR hp l0 10 4 (fun v6 => sI hp v6 l1 l2 (fun hp7 => gR hp7 l0 10 2 (fun v8 => gI hp7 l0 10 3 (fun v9 => sI hp7 v8 v9 l1 (fun hp10 => gI hp10 l0 10 3 (fun v11 => pI hp10 l0 10 3 (v11 + (1 : Int32)) (fun hp12 => some (none, hp12)))))))))))) else some (none, hp))))
theorem t_187_0 {X : mjX} {d C S kc ks : Nat} {R : mjR} (hR : mjC R d) (h1 : kc ≤ C) (h2 : ks ≤ S) : P_187_0 X (d + 1) C S kc ks (b_187_0 R) := by
  intro l0 l1 l2 hp q h
  unfold b_187_0 at h
  refine mjr_aload_n (x := l0) D_187_0 rfl ?_
  refine mjq_gR D_187_1 fr_10_25 h (fun v1 h => ?_)
  refine mjr_iload_n (x := l1) D_187_4 rfl ?_
  refine mjq_aI D_187_5 h (fun v2 h => ?_)
  refine mjq_ic (v := (-1 : Int32)) D_187_6 rfl ?_
  refine mjq_icmp_ne (tgt := 49) D_187_7 rfl h (fun h => ?_) (fun h => ?_)
  · exact mjq_nret D_187_49 rfl h1 h2 h
  · refine mjr_aload_n (x := l0) D_187_10 rfl ?_
    refine mjq_gI D_187_11 fr_10_41 h (fun v3 h => ?_)
    refine mjr_aload_n (x := l0) D_187_14 rfl ?_
    refine mjq_gR D_187_15 fr_10_21 h (fun v4 h => ?_)
    refine mjq_aN D_187_18 h (fun v5 h => ?_)
    refine mjq_icmp_ge (tgt := 49) D_187_19 rfl h (fun h => ?_) (fun h => ?_)
    · exact mjq_nret D_187_49 rfl h1 h2 h
    · refine mjr_aload_n (x := l0) D_187_22 rfl ?_
      refine mjq_gR D_187_23 fr_10_25 h (fun v6 h => ?_)
      refine mjr_iload_n (x := l1) D_187_26 rfl ?_
      refine mjr_iload_n (x := l2) D_187_27 rfl ?_
      refine mjq_sI D_187_28 h (fun hp7 h => ?_)
      refine mjr_aload_n (x := l0) D_187_29 rfl ?_
      refine mjq_gR D_187_30 fr_10_21 h (fun v8 h => ?_)
      refine mjr_aload_n (x := l0) D_187_33 rfl ?_
      refine mjq_gI D_187_34 fr_10_41 h (fun v9 h => ?_)
      refine mjr_iload_n (x := l1) D_187_37 rfl ?_
      refine mjq_sI D_187_38 h (fun hp10 h => ?_)
      refine mjr_aload_n (x := l0) D_187_39 rfl ?_
      refine mjr_dup D_187_40 rfl ?_
      refine mjq_gI D_187_41 fr_10_41 h (fun v11 h => ?_)
      refine mjq_ic (v := (1 : Int32)) D_187_44 rfl ?_
      refine mjr_iadd D_187_45 ?_
      refine mjq_pI D_187_46 fr_10_41 rfl rfl h (fun hp12 h => ?_)
      exact mjq_nret D_187_49 rfl h1 h2 h
noncomputable def f_187 (R : mjR) (a0 : Nat) (a1 : Int32) (a2 : Int32) (hp : mjH) : mjU := b_187_0 R a0 a1 a2 hp
theorem c_187 {R : mjR} {d : Nat} (hR : mjC R d) {a0 : Nat} {a1 : Int32} {a2 : Int32} {hp : mjH} {q : Option Value × mjH} (h : f_187 R a0 a1 a2 hp = some q) : mjM (d + 1) 0 0 187 [.ref a0, .int a1, .int a2] hp (mjEq q) :=
  mjM_of Ja_187 (Nat.le_of_ble_eq_true rfl) (mjG.fg (lo' := [some (.ref a0), some (.int a1), some (.int a2)]) (And.intro rfl (And.intro rfl (And.intro rfl True.intro))) ((t_187_0 hR (Nat.le_refl 0) (Nat.le_refl 0)) a0 a1 a2 hp q h))
def J_188 : mjI := (⟨"OwnerHeap$Walker", "spreadFrom", "(II)V"⟩, 10, prog_12_method_5_code, 6, none, 2, false)
theorem Ja_188 : mjMt 188 = some J_188 := by rfl
theorem D_188_0 : decode J_188.2.2.1 0 = .ok (.aload_n 0, 1) := dzq_42 (by decide +kernel)
theorem D_188_1 : decode J_188.2.2.1 1 = .ok (.iload_n 1, 1) := dzq_27 (by decide +kernel)
theorem D_188_2 : decode J_188.2.2.1 2 = .ok (.invokevirtual 65, 3) := dzq_182 (by decide +kernel)
theorem D_188_5 : decode J_188.2.2.1 5 = .ok (.istore_n 3, 1) := dzq_62 (by decide +kernel)
theorem D_188_6 : decode J_188.2.2.1 6 = .ok (.iconst 0, 1) := dzq_3 (by decide +kernel)
theorem D_188_7 : decode J_188.2.2.1 7 = .ok (.istore 4, 2) := dzq_54 (by decide +kernel)
theorem D_188_9 : decode J_188.2.2.1 9 = .ok (.iload 4, 2) := dzq_21 (by decide +kernel)
theorem D_188_11 : decode J_188.2.2.1 11 = .ok (.iload_n 3, 1) := dzq_29 (by decide +kernel)
theorem D_188_12 : decode J_188.2.2.1 12 = .ok (.if_icmp .ge 36, 3) := dzq_162 (by decide +kernel)
theorem D_188_15 : decode J_188.2.2.1 15 = .ok (.aload_n 0, 1) := dzq_42 (by decide +kernel)
theorem D_188_16 : decode J_188.2.2.1 16 = .ok (.iload_n 1, 1) := dzq_27 (by decide +kernel)
theorem D_188_17 : decode J_188.2.2.1 17 = .ok (.iload 4, 2) := dzq_21 (by decide +kernel)
theorem D_188_19 : decode J_188.2.2.1 19 = .ok (.invokevirtual 69, 3) := dzq_182 (by decide +kernel)
theorem D_188_22 : decode J_188.2.2.1 22 = .ok (.istore 5, 2) := dzq_54 (by decide +kernel)
theorem D_188_24 : decode J_188.2.2.1 24 = .ok (.iload 5, 2) := dzq_21 (by decide +kernel)
theorem D_188_26 : decode J_188.2.2.1 26 = .ok (.ifCond .eq 16, 3) := dzq_153 (by decide +kernel)
theorem D_188_29 : decode J_188.2.2.1 29 = .ok (.iload 5, 2) := dzq_21 (by decide +kernel)
theorem D_188_31 : decode J_188.2.2.1 31 = .ok (.iload_n 2, 1) := dzq_28 (by decide +kernel)
theorem D_188_32 : decode J_188.2.2.1 32 = .ok (.if_icmp .eq 10, 3) := dzq_159 (by decide +kernel)
theorem D_188_35 : decode J_188.2.2.1 35 = .ok (.aload_n 0, 1) := dzq_42 (by decide +kernel)
theorem D_188_36 : decode J_188.2.2.1 36 = .ok (.iload 5, 2) := dzq_21 (by decide +kernel)
theorem D_188_38 : decode J_188.2.2.1 38 = .ok (.iload_n 1, 1) := dzq_27 (by decide +kernel)
theorem D_188_39 : decode J_188.2.2.1 39 = .ok (.invokevirtual 54, 3) := dzq_182 (by decide +kernel)
theorem D_188_42 : decode J_188.2.2.1 42 = .ok (.iinc 4 1, 3) := dzq_132 (by decide +kernel)
theorem D_188_45 : decode J_188.2.2.1 45 = .ok (.goto (-36), 3) := dzq_167 (by decide +kernel)
theorem D_188_48 : decode J_188.2.2.1 48 = .ok (.return_, 1) := dzq_177 (by decide +kernel)
def P_188_42 (X : mjX) (d C S kc ks : Nat) (k : Nat → Int32 → Int32 → Int32 → Int32 → mjH → mjU) : Prop := ∀ (l0 : Nat) (l1 : Int32) (l2 : Int32) (l3 : Int32) (l4 : Int32) (hp : mjH) (q : Option Value × mjH), k l0 l1 l2 l3 l4 hp = some q → mjG X d C S J_188 (mjEq q) 42 [some (.ref l0), some (.int l1), some (.int l2), some (.int l3), some (.int l4), none] [] hp kc ks
def P_188_9 (X : mjX) (d C S kc ks : Nat) (k : Nat → Int32 → Int32 → Int32 → Int32 → mjH → mjU) : Prop := ∀ (l0 : Nat) (l1 : Int32) (l2 : Int32) (l3 : Int32) (l4 : Int32) (hp : mjH) (q : Option Value × mjH), k l0 l1 l2 l3 l4 hp = some q → mjG X d C S J_188 (mjEq q) 9 [some (.ref l0), some (.int l1), some (.int l2), some (.int l3), some (.int l4), none] [] hp kc ks
def P_188_0 (X : mjX) (d C S kc ks : Nat) (k : Nat → Int32 → Int32 → mjH → mjU) : Prop := ∀ (l0 : Nat) (l1 : Int32) (l2 : Int32) (hp : mjH) (q : Option Value × mjH), k l0 l1 l2 hp = some q → mjG X d C S J_188 (mjEq q) 0 [some (.ref l0), some (.int l1), some (.int l2), none, none, none] [] hp kc ks
noncomputable def b_188_42 (R : mjR) (k9 : Nat → Int32 → Int32 → Int32 → Int32 → mjH → mjU) (l0 : Nat) (l1 : Int32) (l2 : Int32) (l3 : Int32) (l4 : Int32) (hp : mjH) : mjU := k9 l0 l1 l2 l3 (l4 + (1 : Int32)) hp
theorem t_188_42 {X : mjX} {d C S kc ks : Nat} {R : mjR} (hR : mjC R d) (h1 : kc ≤ C) (h2 : ks ≤ S) {k9 : Nat → Int32 → Int32 → Int32 → Int32 → mjH → mjU} (hk9 : P_188_9 X (d + 1) C S kc ks k9) : P_188_42 X (d + 1) C S kc ks (b_188_42 R k9) := by
  intro l0 l1 l2 l3 l4 hp q h
  unfold b_188_42 at h
  refine mjq_iinc (x := l4) (c := (1 : Int32)) (lo' := [some (.ref l0), some (.int l1), some (.int l2), some (.int l3), some (.int (l4 + (1 : Int32))), none]) D_188_42 rfl (Nat.le_of_ble_eq_true rfl) rfl rfl ?_
  refine mjr_goto (tgt := 9) D_188_45 rfl ?_
  exact hk9 _ _ _ _ _ _ _ h
noncomputable def b_188_9 (R : mjR) (k9 : Nat → Int32 → Int32 → Int32 → Int32 → mjH → mjU) (l0 : Nat) (l1 : Int32) (l2 : Int32) (l3 : Int32) (l4 : Int32) (hp : mjH) : mjU := (if l3 ≤ l4 then some (none, hp) else rV hp l0 10 (bI (R 190 [.ref l0, .int l1, .int l4] hp) (fun v1 hp2 => (if v1 = 0 then b_188_42 R k9 l0 l1 l2 l3 l4 hp2 else (if v1 = l2 then b_188_42 R k9 l0 l1 l2 l3 l4 hp2 else rV hp2 l0 10 (bN (R 187 [.ref l0, .int v1, .int l1] hp2) (fun  hp3 => b_188_42 R k9 l0 l1 l2 l3 l4 hp3)))))))
theorem t_188_9 {X : mjX} {d C S kc ks : Nat} {R : mjR} (hR : mjC R d) (h1 : kc ≤ C) (h2 : ks ≤ S) {k9 : Nat → Int32 → Int32 → Int32 → Int32 → mjH → mjU} (hk9 : P_188_9 X (d + 1) C S kc ks k9) : P_188_9 X (d + 1) C S kc ks (b_188_9 R k9) := by
  intro l0 l1 l2 l3 l4 hp q h
  unfold b_188_9 at h
  refine mjr_iload (x := l4) D_188_9 rfl ?_
  refine mjr_iload_n (x := l3) D_188_11 rfl ?_
  refine mjq_icmp_ge (tgt := 48) D_188_12 rfl h (fun h => ?_) (fun h => ?_)
  · exact mjq_nret D_188_48 rfl h1 h2 h
  · refine mjr_aload_n (x := l0) D_188_15 rfl ?_
    refine mjr_iload_n (x := l1) D_188_16 rfl ?_
    refine mjr_iload (x := l4) D_188_17 rfl ?_
    refine mjq_vI (As := [.int l1, .int l4]) (rest := []) D_188_19 mr_10_69 V_190 rfl rfl rfl hR (Nat.le_refl _) h1 h2 h (fun v1 hp2 h => ?_)
    refine mjq_istore (lo' := [some (.ref l0), some (.int l1), some (.int l2), some (.int l3), some (.int l4), some (.int v1)]) D_188_22 (Nat.le_of_ble_eq_true rfl) rfl ?_
    refine mjr_iload (x := v1) D_188_24 rfl ?_
    refine mjq_if_eq (tgt := 42) D_188_26 rfl h (fun h => ?_) (fun h => ?_)
    · exact mjG.fg (lo' := [some (.ref l0), some (.int l1), some (.int l2), some (.int l3), some (.int l4), none]) (And.intro rfl (And.intro rfl (And.intro rfl (And.intro rfl (And.intro rfl True.intro))))) ((t_188_42 hR h1 h2 hk9) _ _ _ _ _ _ _ h)
    · refine mjr_iload (x := v1) D_188_29 rfl ?_
      refine mjr_iload_n (x := l2) D_188_31 rfl ?_
      refine mjq_icmp_eq (tgt := 42) D_188_32 rfl h (fun h => ?_) (fun h => ?_)
      · exact mjG.fg (lo' := [some (.ref l0), some (.int l1), some (.int l2), some (.int l3), some (.int l4), none]) (And.intro rfl (And.intro rfl (And.intro rfl (And.intro rfl (And.intro rfl True.intro))))) ((t_188_42 hR h1 h2 hk9) _ _ _ _ _ _ _ h)
      · refine mjr_aload_n (x := l0) D_188_35 rfl ?_
        refine mjr_iload (x := v1) D_188_36 rfl ?_
        refine mjr_iload_n (x := l1) D_188_38 rfl ?_
        refine mjq_vN (As := [.int v1, .int l1]) (rest := []) D_188_39 mr_10_54 V_187 rfl rfl rfl hR (Nat.le_refl _) h1 h2 h (fun  hp3 h => ?_)
        exact mjG.fg (lo' := [some (.ref l0), some (.int l1), some (.int l2), some (.int l3), some (.int l4), none]) (And.intro rfl (And.intro rfl (And.intro rfl (And.intro rfl (And.intro rfl True.intro))))) ((t_188_42 hR h1 h2 hk9) _ _ _ _ _ _ _ h)
noncomputable def L_188_9 (R : mjR) (n : Nat) : Nat → Int32 → Int32 → Int32 → Int32 → mjH → mjU := Nat.rec (motive := fun _ => Nat → Int32 → Int32 → Int32 → Int32 → mjH → mjU) (fun _ _ _ _ _ _ => none) (fun _ self => b_188_9 R self) n
theorem T_188_9 {X : mjX} {d C S kc ks : Nat} {R : mjR} (hR : mjC R d) (h1 : kc ≤ C) (h2 : ks ≤ S) (n : Nat) : P_188_9 X (d + 1) C S kc ks (L_188_9 R n) := by
  induction n with
  | zero => intro _ _ _ _ _ _ _ h; exact mj_no h
  | succ n ih => exact t_188_9 hR h1 h2 ih
noncomputable def b_188_0 (R : mjR) (l0 : Nat) (l1 : Int32) (l2 : Int32) (hp : mjH) : mjU := rV hp l0 10 (bI (R 189 [.ref l0, .int l1] hp) (fun v1 hp2 => L_188_9 R mjN l0 l1 l2 v1 (0 : Int32) hp2))
theorem t_188_0 {X : mjX} {d C S kc ks : Nat} {R : mjR} (hR : mjC R d) (h1 : kc ≤ C) (h2 : ks ≤ S) : P_188_0 X (d + 1) C S kc ks (b_188_0 R) := by
  intro l0 l1 l2 hp q h
  unfold b_188_0 at h
  refine mjr_aload_n (x := l0) D_188_0 rfl ?_
  refine mjr_iload_n (x := l1) D_188_1 rfl ?_
  refine mjq_vI (As := [.int l1]) (rest := []) D_188_2 mr_10_65 V_189 rfl rfl rfl hR (Nat.le_refl _) h1 h2 h (fun v1 hp2 h => ?_)
  refine mjq_istore_n (lo' := [some (.ref l0), some (.int l1), some (.int l2), some (.int v1), none, none]) D_188_5 (Nat.le_of_ble_eq_true rfl) rfl ?_
  refine mjq_ic (v := (0 : Int32)) D_188_6 rfl ?_
  refine mjq_istore (lo' := [some (.ref l0), some (.int l1), some (.int l2), some (.int v1), some (.int (0 : Int32)), none]) D_188_7 (Nat.le_of_ble_eq_true rfl) rfl ?_
  exact (T_188_9 hR h1 h2 mjN) _ _ _ _ _ _ _ h
noncomputable def f_188 (R : mjR) (a0 : Nat) (a1 : Int32) (a2 : Int32) (hp : mjH) : mjU := b_188_0 R a0 a1 a2 hp
theorem c_188 {R : mjR} {d : Nat} (hR : mjC R d) {a0 : Nat} {a1 : Int32} {a2 : Int32} {hp : mjH} {q : Option Value × mjH} (h : f_188 R a0 a1 a2 hp = some q) : mjM (d + 1) 0 0 188 [.ref a0, .int a1, .int a2] hp (mjEq q) :=
  mjM_of Ja_188 (Nat.le_of_ble_eq_true rfl) (mjG.fg (lo' := [some (.ref a0), some (.int a1), some (.int a2), none, none, none]) (And.intro rfl (And.intro rfl (And.intro rfl True.intro))) ((t_188_0 hR (Nat.le_refl 0) (Nat.le_refl 0)) a0 a1 a2 hp q h))
def J_189 : mjI := (⟨"OwnerHeap$Walker", "fieldsOf", "(I)I"⟩, 10, prog_12_method_7_code, 2, (some .int), 1, false)
theorem Ja_189 : mjMt 189 = some J_189 := by rfl
theorem D_189_0 : decode J_189.2.2.1 0 = .ok (.aload_n 0, 1) := dzq_42 (by decide +kernel)
theorem D_189_1 : decode J_189.2.2.1 1 = .ok (.getfield 15, 3) := dzq_180 (by decide +kernel)
theorem D_189_4 : decode J_189.2.2.1 4 = .ok (.getfield 72, 3) := dzq_180 (by decide +kernel)
theorem D_189_7 : decode J_189.2.2.1 7 = .ok (.aload_n 0, 1) := dzq_42 (by decide +kernel)
theorem D_189_8 : decode J_189.2.2.1 8 = .ok (.getfield 9, 3) := dzq_180 (by decide +kernel)
theorem D_189_11 : decode J_189.2.2.1 11 = .ok (.iload_n 1, 1) := dzq_27 (by decide +kernel)
theorem D_189_12 : decode J_189.2.2.1 12 = .ok (.invokevirtual 77, 3) := dzq_182 (by decide +kernel)
theorem D_189_15 : decode J_189.2.2.1 15 = .ok (.iaload, 1) := dzq_46 (by decide +kernel)
theorem D_189_16 : decode J_189.2.2.1 16 = .ok (.ireturn, 1) := dzq_172 (by decide +kernel)
def P_189_0 (X : mjX) (d C S kc ks : Nat) (k : Nat → Int32 → mjH → mjU) : Prop := ∀ (l0 : Nat) (l1 : Int32) (hp : mjH) (q : Option Value × mjH), k l0 l1 hp = some q → mjG X d C S J_189 (mjEq q) 0 [some (.ref l0), some (.int l1)] [] hp kc ks
noncomputable def b_189_0 (R : mjR) (l0 : Nat) (l1 : Int32) (hp : mjH) : mjU := gR hp l0 10 1 (fun v1 => gR hp v1 7 8 (fun v2 => gR hp l0 10 0 (fun v3 => rV hp v3 3 (bI (R 46 [.ref v3, .int l1] hp) (fun v4 hp5 => aI hp5 v2 v4 (fun v6 => some (some (.int v6), hp5)))))))
theorem t_189_0 {X : mjX} {d C S kc ks : Nat} {R : mjR} (hR : mjC R d) (h1 : kc ≤ C) (h2 : ks ≤ S) : P_189_0 X (d + 1) C S kc ks (b_189_0 R) := by
  intro l0 l1 hp q h
  unfold b_189_0 at h
  refine mjr_aload_n (x := l0) D_189_0 rfl ?_
  refine mjq_gR D_189_1 fr_10_15 h (fun v1 h => ?_)
  refine mjq_gR D_189_4 fr_10_72 h (fun v2 h => ?_)
  refine mjr_aload_n (x := l0) D_189_7 rfl ?_
  refine mjq_gR D_189_8 fr_10_9 h (fun v3 h => ?_)
  refine mjr_iload_n (x := l1) D_189_11 rfl ?_
  refine mjq_vI (As := [.int l1]) (rest := [.ref v2]) D_189_12 mr_10_77 V_46 rfl rfl rfl hR (Nat.le_refl _) h1 h2 h (fun v4 hp5 h => ?_)
  refine mjq_aI D_189_15 h (fun v6 h => ?_)
  exact mjq_ret D_189_16 rfl h1 h2 h
noncomputable def f_189 (R : mjR) (a0 : Nat) (a1 : Int32) (hp : mjH) : mjU := b_189_0 R a0 a1 hp
theorem c_189 {R : mjR} {d : Nat} (hR : mjC R d) {a0 : Nat} {a1 : Int32} {hp : mjH} {q : Option Value × mjH} (h : f_189 R a0 a1 hp = some q) : mjM (d + 1) 0 0 189 [.ref a0, .int a1] hp (mjEq q) :=
  mjM_of Ja_189 (Nat.le_of_ble_eq_true rfl) (mjG.fg (lo' := [some (.ref a0), some (.int a1)]) (And.intro rfl (And.intro rfl True.intro)) ((t_189_0 hR (Nat.le_refl 0) (Nat.le_refl 0)) a0 a1 hp q h))
def J_190 : mjI := (⟨"OwnerHeap$Walker", "hop", "(II)I"⟩, 10, prog_12_method_8_code, 3, (some .int), 2, false)
theorem Ja_190 : mjMt 190 = some J_190 := by rfl
theorem D_190_0 : decode J_190.2.2.1 0 = .ok (.aload_n 0, 1) := dzq_42 (by decide +kernel)
theorem D_190_1 : decode J_190.2.2.1 1 = .ok (.getfield 15, 3) := dzq_180 (by decide +kernel)
theorem D_190_4 : decode J_190.2.2.1 4 = .ok (.aload_n 0, 1) := dzq_42 (by decide +kernel)
theorem D_190_5 : decode J_190.2.2.1 5 = .ok (.getfield 9, 3) := dzq_180 (by decide +kernel)
theorem D_190_8 : decode J_190.2.2.1 8 = .ok (.iload_n 1, 1) := dzq_27 (by decide +kernel)
theorem D_190_9 : decode J_190.2.2.1 9 = .ok (.invokevirtual 77, 3) := dzq_182 (by decide +kernel)
theorem D_190_12 : decode J_190.2.2.1 12 = .ok (.iload_n 2, 1) := dzq_28 (by decide +kernel)
theorem D_190_13 : decode J_190.2.2.1 13 = .ok (.invokevirtual 80, 3) := dzq_182 (by decide +kernel)
theorem D_190_16 : decode J_190.2.2.1 16 = .ok (.ifCond .eq 15, 3) := dzq_153 (by decide +kernel)
theorem D_190_19 : decode J_190.2.2.1 19 = .ok (.aload_n 0, 1) := dzq_42 (by decide +kernel)
theorem D_190_20 : decode J_190.2.2.1 20 = .ok (.getfield 9, 3) := dzq_180 (by decide +kernel)
theorem D_190_23 : decode J_190.2.2.1 23 = .ok (.iload_n 1, 1) := dzq_27 (by decide +kernel)
theorem D_190_24 : decode J_190.2.2.1 24 = .ok (.iload_n 2, 1) := dzq_28 (by decide +kernel)
theorem D_190_25 : decode J_190.2.2.1 25 = .ok (.invokevirtual 84, 3) := dzq_182 (by decide +kernel)
theorem D_190_28 : decode J_190.2.2.1 28 = .ok (.goto 4, 3) := dzq_167 (by decide +kernel)
theorem D_190_31 : decode J_190.2.2.1 31 = .ok (.iconst 0, 1) := dzq_3 (by decide +kernel)
theorem D_190_32 : decode J_190.2.2.1 32 = .ok (.ireturn, 1) := dzq_172 (by decide +kernel)
def P_190_0 (X : mjX) (d C S kc ks : Nat) (k : Nat → Int32 → Int32 → mjH → mjU) : Prop := ∀ (l0 : Nat) (l1 : Int32) (l2 : Int32) (hp : mjH) (q : Option Value × mjH), k l0 l1 l2 hp = some q → mjG X d C S J_190 (mjEq q) 0 [some (.ref l0), some (.int l1), some (.int l2)] [] hp kc ks
noncomputable def b_190_0 (R : mjR) (l0 : Nat) (l1 : Int32) (l2 : Int32) (hp : mjH) : mjU := gR hp l0 10 1 (fun v1 => gR hp l0 10 0 (fun v2 => rV hp v2 3 (bI (R 46 [.ref v2, .int l1] hp) (fun v3 hp4 => rV hp4 v1 7 (bI (R 124 [.ref v1, .int v3, .int l2] hp4) (fun v5 hp6 => (if v5 = 0 then some (some (.int (0 : Int32)), hp6) else gR hp6 l0 10 0 (fun v7 => rV hp6 v7 3 (bI (R 45 [.ref v7, .int l1, .int l2] hp6) (fun v8 hp9 => some (some (.int v8), hp9)))))))))))
theorem t_190_0 {X : mjX} {d C S kc ks : Nat} {R : mjR} (hR : mjC R d) (h1 : kc ≤ C) (h2 : ks ≤ S) : P_190_0 X (d + 1) C S kc ks (b_190_0 R) := by
  intro l0 l1 l2 hp q h
  unfold b_190_0 at h
  refine mjr_aload_n (x := l0) D_190_0 rfl ?_
  refine mjq_gR D_190_1 fr_10_15 h (fun v1 h => ?_)
  refine mjr_aload_n (x := l0) D_190_4 rfl ?_
  refine mjq_gR D_190_5 fr_10_9 h (fun v2 h => ?_)
  refine mjr_iload_n (x := l1) D_190_8 rfl ?_
  refine mjq_vI (As := [.int l1]) (rest := [.ref v1]) D_190_9 mr_10_77 V_46 rfl rfl rfl hR (Nat.le_refl _) h1 h2 h (fun v3 hp4 h => ?_)
  refine mjr_iload_n (x := l2) D_190_12 rfl ?_
  refine mjq_vI (As := [.int v3, .int l2]) (rest := []) D_190_13 mr_10_80 V_124 rfl rfl rfl hR (Nat.le_refl _) h1 h2 h (fun v5 hp6 h => ?_)
  refine mjq_if_eq (tgt := 31) D_190_16 rfl h (fun h => ?_) (fun h => ?_)
  · refine mjq_ic (v := (0 : Int32)) D_190_31 rfl ?_
    exact mjq_ret D_190_32 rfl h1 h2 h
  · refine mjr_aload_n (x := l0) D_190_19 rfl ?_
    refine mjq_gR D_190_20 fr_10_9 h (fun v7 h => ?_)
    refine mjr_iload_n (x := l1) D_190_23 rfl ?_
    refine mjr_iload_n (x := l2) D_190_24 rfl ?_
    refine mjq_vI (As := [.int l1, .int l2]) (rest := []) D_190_25 mr_10_84 V_45 rfl rfl rfl hR (Nat.le_refl _) h1 h2 h (fun v8 hp9 h => ?_)
    refine mjr_goto (tgt := 32) D_190_28 rfl ?_
    exact mjq_ret D_190_32 rfl h1 h2 h
noncomputable def f_190 (R : mjR) (a0 : Nat) (a1 : Int32) (a2 : Int32) (hp : mjH) : mjU := b_190_0 R a0 a1 a2 hp
theorem c_190 {R : mjR} {d : Nat} (hR : mjC R d) {a0 : Nat} {a1 : Int32} {a2 : Int32} {hp : mjH} {q : Option Value × mjH} (h : f_190 R a0 a1 a2 hp = some q) : mjM (d + 1) 0 0 190 [.ref a0, .int a1, .int a2] hp (mjEq q) :=
  mjM_of Ja_190 (Nat.le_of_ble_eq_true rfl) (mjG.fg (lo' := [some (.ref a0), some (.int a1), some (.int a2)]) (And.intro rfl (And.intro rfl (And.intro rfl True.intro))) ((t_190_0 hR (Nat.le_refl 0) (Nat.le_refl 0)) a0 a1 a2 hp q h))
def J_191 : mjI := (⟨"OwnerHeap$Walker", "hopsTo", "(I)I"⟩, 10, prog_12_method_9_code, 4, (some .int), 1, false)
theorem Ja_191 : mjMt 191 = some J_191 := by rfl
theorem D_191_0 : decode J_191.2.2.1 0 = .ok (.iconst 0, 1) := dzq_3 (by decide +kernel)
theorem D_191_1 : decode J_191.2.2.1 1 = .ok (.istore_n 2, 1) := dzq_61 (by decide +kernel)
theorem D_191_2 : decode J_191.2.2.1 2 = .ok (.aload_n 0, 1) := dzq_42 (by decide +kernel)
theorem D_191_3 : decode J_191.2.2.1 3 = .ok (.getfield 25, 3) := dzq_180 (by decide +kernel)
theorem D_191_6 : decode J_191.2.2.1 6 = .ok (.iload_n 1, 1) := dzq_27 (by decide +kernel)
theorem D_191_7 : decode J_191.2.2.1 7 = .ok (.iaload, 1) := dzq_46 (by decide +kernel)
theorem D_191_8 : decode J_191.2.2.1 8 = .ok (.istore_n 3, 1) := dzq_62 (by decide +kernel)
theorem D_191_9 : decode J_191.2.2.1 9 = .ok (.iload_n 3, 1) := dzq_29 (by decide +kernel)
theorem D_191_10 : decode J_191.2.2.1 10 = .ok (.ifCond .le 27, 3) := dzq_158 (by decide +kernel)
theorem D_191_13 : decode J_191.2.2.1 13 = .ok (.iload_n 2, 1) := dzq_28 (by decide +kernel)
theorem D_191_14 : decode J_191.2.2.1 14 = .ok (.aload_n 0, 1) := dzq_42 (by decide +kernel)
theorem D_191_15 : decode J_191.2.2.1 15 = .ok (.getfield 9, 3) := dzq_180 (by decide +kernel)
theorem D_191_18 : decode J_191.2.2.1 18 = .ok (.getfield 45, 3) := dzq_180 (by decide +kernel)
theorem D_191_21 : decode J_191.2.2.1 21 = .ok (.if_icmp .gt 16, 3) := dzq_163 (by decide +kernel)
theorem D_191_24 : decode J_191.2.2.1 24 = .ok (.iinc 2 1, 3) := dzq_132 (by decide +kernel)
theorem D_191_27 : decode J_191.2.2.1 27 = .ok (.aload_n 0, 1) := dzq_42 (by decide +kernel)
theorem D_191_28 : decode J_191.2.2.1 28 = .ok (.getfield 25, 3) := dzq_180 (by decide +kernel)
theorem D_191_31 : decode J_191.2.2.1 31 = .ok (.iload_n 3, 1) := dzq_29 (by decide +kernel)
theorem D_191_32 : decode J_191.2.2.1 32 = .ok (.iaload, 1) := dzq_46 (by decide +kernel)
theorem D_191_33 : decode J_191.2.2.1 33 = .ok (.istore_n 3, 1) := dzq_62 (by decide +kernel)
theorem D_191_34 : decode J_191.2.2.1 34 = .ok (.goto (-25), 3) := dzq_167 (by decide +kernel)
theorem D_191_37 : decode J_191.2.2.1 37 = .ok (.iload_n 2, 1) := dzq_28 (by decide +kernel)
theorem D_191_38 : decode J_191.2.2.1 38 = .ok (.ireturn, 1) := dzq_172 (by decide +kernel)
def P_191_37 (X : mjX) (d C S kc ks : Nat) (k : Int32 → mjH → mjU) : Prop := ∀ (l2 : Int32) (hp : mjH) (q : Option Value × mjH), k l2 hp = some q → mjG X d C S J_191 (mjEq q) 37 [none, none, some (.int l2), none] [] hp kc ks
def P_191_9 (X : mjX) (d C S kc ks : Nat) (k : Nat → Int32 → Int32 → mjH → mjU) : Prop := ∀ (l0 : Nat) (l2 : Int32) (l3 : Int32) (hp : mjH) (q : Option Value × mjH), k l0 l2 l3 hp = some q → mjG X d C S J_191 (mjEq q) 9 [some (.ref l0), none, some (.int l2), some (.int l3)] [] hp kc ks
def P_191_0 (X : mjX) (d C S kc ks : Nat) (k : Nat → Int32 → mjH → mjU) : Prop := ∀ (l0 : Nat) (l1 : Int32) (hp : mjH) (q : Option Value × mjH), k l0 l1 hp = some q → mjG X d C S J_191 (mjEq q) 0 [some (.ref l0), some (.int l1), none, none] [] hp kc ks
noncomputable def b_191_37 (R : mjR) (l2 : Int32) (hp : mjH) : mjU := some (some (.int l2), hp)
theorem t_191_37 {X : mjX} {d C S kc ks : Nat} {R : mjR} (hR : mjC R d) (h1 : kc ≤ C) (h2 : ks ≤ S) : P_191_37 X (d + 1) C S kc ks (b_191_37 R) := by
  intro l2 hp q h
  unfold b_191_37 at h
  refine mjr_iload_n (x := l2) D_191_37 rfl ?_
  exact mjq_ret D_191_38 rfl h1 h2 h
noncomputable def b_191_9 (R : mjR) (k9 : Nat → Int32 → Int32 → mjH → mjU) (l0 : Nat) (l2 : Int32) (l3 : Int32) (hp : mjH) : mjU := (if l3 ≤ 0 then b_191_37 R l2 hp else gR hp l0 10 0 (fun v1 => gI hp v1 3 2 (fun v2 => (if v2 < l2 then b_191_37 R l2 hp else gR hp l0 10 4 (fun v3 => aI hp v3 l3 (fun v4 => k9 l0 (l2 + (1 : Int32)) v4 hp))))))
theorem t_191_9 {X : mjX} {d C S kc ks : Nat} {R : mjR} (hR : mjC R d) (h1 : kc ≤ C) (h2 : ks ≤ S) {k9 : Nat → Int32 → Int32 → mjH → mjU} (hk9 : P_191_9 X (d + 1) C S kc ks k9) : P_191_9 X (d + 1) C S kc ks (b_191_9 R k9) := by
  intro l0 l2 l3 hp q h
  unfold b_191_9 at h
  refine mjr_iload_n (x := l3) D_191_9 rfl ?_
  refine mjq_if_le (tgt := 37) D_191_10 rfl h (fun h => ?_) (fun h => ?_)
  · exact mjG.fg (lo' := [none, none, some (.int l2), none]) (And.intro rfl True.intro) ((t_191_37 hR h1 h2) _ _ _ h)
  · refine mjr_iload_n (x := l2) D_191_13 rfl ?_
    refine mjr_aload_n (x := l0) D_191_14 rfl ?_
    refine mjq_gR D_191_15 fr_10_9 h (fun v1 h => ?_)
    refine mjq_gI D_191_18 fr_10_45 h (fun v2 h => ?_)
    refine mjq_icmp_gt (tgt := 37) D_191_21 rfl h (fun h => ?_) (fun h => ?_)
    · exact mjG.fg (lo' := [none, none, some (.int l2), none]) (And.intro rfl True.intro) ((t_191_37 hR h1 h2) _ _ _ h)
    · refine mjq_iinc (x := l2) (c := (1 : Int32)) (lo' := [some (.ref l0), none, some (.int (l2 + (1 : Int32))), some (.int l3)]) D_191_24 rfl (Nat.le_of_ble_eq_true rfl) rfl rfl ?_
      refine mjr_aload_n (x := l0) D_191_27 rfl ?_
      refine mjq_gR D_191_28 fr_10_25 h (fun v3 h => ?_)
      refine mjr_iload_n (x := l3) D_191_31 rfl ?_
      refine mjq_aI D_191_32 h (fun v4 h => ?_)
      refine mjq_istore_n (lo' := [some (.ref l0), none, some (.int (l2 + (1 : Int32))), some (.int v4)]) D_191_33 (Nat.le_of_ble_eq_true rfl) rfl ?_
      refine mjr_goto (tgt := 9) D_191_34 rfl ?_
      exact hk9 _ _ _ _ _ h
noncomputable def L_191_9 (R : mjR) (n : Nat) : Nat → Int32 → Int32 → mjH → mjU := Nat.rec (motive := fun _ => Nat → Int32 → Int32 → mjH → mjU) (fun _ _ _ _ => none) (fun _ self => b_191_9 R self) n
theorem T_191_9 {X : mjX} {d C S kc ks : Nat} {R : mjR} (hR : mjC R d) (h1 : kc ≤ C) (h2 : ks ≤ S) (n : Nat) : P_191_9 X (d + 1) C S kc ks (L_191_9 R n) := by
  induction n with
  | zero => intro _ _ _ _ _ h; exact mj_no h
  | succ n ih => exact t_191_9 hR h1 h2 ih
noncomputable def b_191_0 (R : mjR) (l0 : Nat) (l1 : Int32) (hp : mjH) : mjU := gR hp l0 10 4 (fun v1 => aI hp v1 l1 (fun v2 => L_191_9 R mjN l0 (0 : Int32) v2 hp))
theorem t_191_0 {X : mjX} {d C S kc ks : Nat} {R : mjR} (hR : mjC R d) (h1 : kc ≤ C) (h2 : ks ≤ S) : P_191_0 X (d + 1) C S kc ks (b_191_0 R) := by
  intro l0 l1 hp q h
  unfold b_191_0 at h
  refine mjq_ic (v := (0 : Int32)) D_191_0 rfl ?_
  refine mjq_istore_n (lo' := [some (.ref l0), some (.int l1), some (.int (0 : Int32)), none]) D_191_1 (Nat.le_of_ble_eq_true rfl) rfl ?_
  refine mjr_aload_n (x := l0) D_191_2 rfl ?_
  refine mjq_gR D_191_3 fr_10_25 h (fun v1 h => ?_)
  refine mjr_iload_n (x := l1) D_191_6 rfl ?_
  refine mjq_aI D_191_7 h (fun v2 h => ?_)
  refine mjq_istore_n (lo' := [some (.ref l0), some (.int l1), some (.int (0 : Int32)), some (.int v2)]) D_191_8 (Nat.le_of_ble_eq_true rfl) rfl ?_
  exact mjG.fg (lo' := [some (.ref l0), none, some (.int (0 : Int32)), some (.int v2)]) (And.intro rfl (And.intro rfl (And.intro rfl True.intro))) ((T_191_9 hR h1 h2 mjN) _ _ _ _ _ h)
noncomputable def f_191 (R : mjR) (a0 : Nat) (a1 : Int32) (hp : mjH) : mjU := b_191_0 R a0 a1 hp
theorem c_191 {R : mjR} {d : Nat} (hR : mjC R d) {a0 : Nat} {a1 : Int32} {hp : mjH} {q : Option Value × mjH} (h : f_191 R a0 a1 hp = some q) : mjM (d + 1) 0 0 191 [.ref a0, .int a1] hp (mjEq q) :=
  mjM_of Ja_191 (Nat.le_of_ble_eq_true rfl) (mjG.fg (lo' := [some (.ref a0), some (.int a1), none, none]) (And.intro rfl (And.intro rfl True.intro)) ((t_191_0 hR (Nat.le_refl 0) (Nat.le_refl 0)) a0 a1 hp q h))
def J_192 : mjI := (⟨"OwnerHeap$Walker", "nearestAbove", "(I)I"⟩, 10, prog_12_method_11_code, 2, (some .int), 1, false)
theorem Ja_192 : mjMt 192 = some J_192 := by rfl
theorem D_192_0 : decode J_192.2.2.1 0 = .ok (.aload_n 0, 1) := dzq_42 (by decide +kernel)
theorem D_192_1 : decode J_192.2.2.1 1 = .ok (.invokevirtual 93, 3) := dzq_182 (by decide +kernel)
theorem D_192_4 : decode J_192.2.2.1 4 = .ok (.aload_n 0, 1) := dzq_42 (by decide +kernel)
theorem D_192_5 : decode J_192.2.2.1 5 = .ok (.getfield 28, 3) := dzq_180 (by decide +kernel)
theorem D_192_8 : decode J_192.2.2.1 8 = .ok (.iload_n 1, 1) := dzq_27 (by decide +kernel)
theorem D_192_9 : decode J_192.2.2.1 9 = .ok (.iaload, 1) := dzq_46 (by decide +kernel)
theorem D_192_10 : decode J_192.2.2.1 10 = .ok (.ireturn, 1) := dzq_172 (by decide +kernel)
def P_192_0 (X : mjX) (d C S kc ks : Nat) (k : Nat → Int32 → mjH → mjU) : Prop := ∀ (l0 : Nat) (l1 : Int32) (hp : mjH) (q : Option Value × mjH), k l0 l1 hp = some q → mjG X d C S J_192 (mjEq q) 0 [some (.ref l0), some (.int l1)] [] hp kc ks
noncomputable def b_192_0 (R : mjR) (l0 : Nat) (l1 : Int32) (hp : mjH) : mjU := rV hp l0 10 (bN (R 193 [.ref l0] hp) (fun  hp1 => gR hp1 l0 10 6 (fun v2 => aI hp1 v2 l1 (fun v3 => some (some (.int v3), hp1)))))
theorem t_192_0 {X : mjX} {d C S kc ks : Nat} {R : mjR} (hR : mjC R d) (h1 : kc ≤ C) (h2 : ks ≤ S) : P_192_0 X (d + 1) C S kc ks (b_192_0 R) := by
  intro l0 l1 hp q h
  unfold b_192_0 at h
  refine mjr_aload_n (x := l0) D_192_0 rfl ?_
  refine mjq_vN (As := []) (rest := []) D_192_1 mr_10_93 V_193 rfl rfl rfl hR (Nat.le_refl _) h1 h2 h (fun  hp1 h => ?_)
  refine mjr_aload_n (x := l0) D_192_4 rfl ?_
  refine mjq_gR D_192_5 fr_10_28 h (fun v2 h => ?_)
  refine mjr_iload_n (x := l1) D_192_8 rfl ?_
  refine mjq_aI D_192_9 h (fun v3 h => ?_)
  exact mjq_ret D_192_10 rfl h1 h2 h
noncomputable def f_192 (R : mjR) (a0 : Nat) (a1 : Int32) (hp : mjH) : mjU := b_192_0 R a0 a1 hp
theorem c_192 {R : mjR} {d : Nat} (hR : mjC R d) {a0 : Nat} {a1 : Int32} {hp : mjH} {q : Option Value × mjH} (h : f_192 R a0 a1 hp = some q) : mjM (d + 1) 0 0 192 [.ref a0, .int a1] hp (mjEq q) :=
  mjM_of Ja_192 (Nat.le_of_ble_eq_true rfl) (mjG.fg (lo' := [some (.ref a0), some (.int a1)]) (And.intro rfl (And.intro rfl True.intro)) ((t_192_0 hR (Nat.le_refl 0) (Nat.le_refl 0)) a0 a1 hp q h))
def J_193 : mjI := (⟨"OwnerHeap$Walker", "learn", "()V"⟩, 10, prog_12_method_14_code, 2, none, 0, false)
theorem Ja_193 : mjMt 193 = some J_193 := by rfl
theorem D_193_0 : decode J_193.2.2.1 0 = .ok (.aload_n 0, 1) := dzq_42 (by decide +kernel)
theorem D_193_1 : decode J_193.2.2.1 1 = .ok (.getfield 37, 3) := dzq_180 (by decide +kernel)
theorem D_193_4 : decode J_193.2.2.1 4 = .ok (.ifCond .eq 4, 3) := dzq_153 (by decide +kernel)
theorem D_193_7 : decode J_193.2.2.1 7 = .ok (.return_, 1) := dzq_177 (by decide +kernel)
theorem D_193_8 : decode J_193.2.2.1 8 = .ok (.aload_n 0, 1) := dzq_42 (by decide +kernel)
theorem D_193_9 : decode J_193.2.2.1 9 = .ok (.iconst 1, 1) := dzq_4 (by decide +kernel)
theorem D_193_10 : decode J_193.2.2.1 10 = .ok (.putfield 37, 3) := dzq_181 (by decide +kernel)
theorem D_193_13 : decode J_193.2.2.1 13 = .ok (.aload_n 0, 1) := dzq_42 (by decide +kernel)
theorem D_193_14 : decode J_193.2.2.1 14 = .ok (.iconst 0, 1) := dzq_3 (by decide +kernel)
theorem D_193_15 : decode J_193.2.2.1 15 = .ok (.iconst 0, 1) := dzq_3 (by decide +kernel)
theorem D_193_16 : decode J_193.2.2.1 16 = .ok (.invokevirtual 87, 3) := dzq_182 (by decide +kernel)
theorem D_193_19 : decode J_193.2.2.1 19 = .ok (.aload_n 0, 1) := dzq_42 (by decide +kernel)
theorem D_193_20 : decode J_193.2.2.1 20 = .ok (.invokevirtual 99, 3) := dzq_182 (by decide +kernel)
theorem D_193_23 : decode J_193.2.2.1 23 = .ok (.aload_n 0, 1) := dzq_42 (by decide +kernel)
theorem D_193_24 : decode J_193.2.2.1 24 = .ok (.iconst 0, 1) := dzq_3 (by decide +kernel)
theorem D_193_25 : decode J_193.2.2.1 25 = .ok (.putfield 96, 3) := dzq_181 (by decide +kernel)
theorem D_193_28 : decode J_193.2.2.1 28 = .ok (.iconst 1, 1) := dzq_4 (by decide +kernel)
theorem D_193_29 : decode J_193.2.2.1 29 = .ok (.istore_n 1, 1) := dzq_60 (by decide +kernel)
theorem D_193_30 : decode J_193.2.2.1 30 = .ok (.iload_n 1, 1) := dzq_27 (by decide +kernel)
theorem D_193_31 : decode J_193.2.2.1 31 = .ok (.aload_n 0, 1) := dzq_42 (by decide +kernel)
theorem D_193_32 : decode J_193.2.2.1 32 = .ok (.getfield 9, 3) := dzq_180 (by decide +kernel)
theorem D_193_35 : decode J_193.2.2.1 35 = .ok (.getfield 45, 3) := dzq_180 (by decide +kernel)
theorem D_193_38 : decode J_193.2.2.1 38 = .ok (.if_icmp .gt 37, 3) := dzq_163 (by decide +kernel)
theorem D_193_41 : decode J_193.2.2.1 41 = .ok (.aload_n 0, 1) := dzq_42 (by decide +kernel)
theorem D_193_42 : decode J_193.2.2.1 42 = .ok (.iload_n 1, 1) := dzq_27 (by decide +kernel)
theorem D_193_43 : decode J_193.2.2.1 43 = .ok (.invokevirtual 102, 3) := dzq_182 (by decide +kernel)
theorem D_193_46 : decode J_193.2.2.1 46 = .ok (.ifCond .eq 23, 3) := dzq_153 (by decide +kernel)
theorem D_193_49 : decode J_193.2.2.1 49 = .ok (.aload_n 0, 1) := dzq_42 (by decide +kernel)
theorem D_193_50 : decode J_193.2.2.1 50 = .ok (.getfield 34, 3) := dzq_180 (by decide +kernel)
theorem D_193_53 : decode J_193.2.2.1 53 = .ok (.aload_n 0, 1) := dzq_42 (by decide +kernel)
theorem D_193_54 : decode J_193.2.2.1 54 = .ok (.getfield 96, 3) := dzq_180 (by decide +kernel)
theorem D_193_57 : decode J_193.2.2.1 57 = .ok (.iload_n 1, 1) := dzq_27 (by decide +kernel)
theorem D_193_58 : decode J_193.2.2.1 58 = .ok (.iastore, 1) := dzq_79 (by decide +kernel)
theorem D_193_59 : decode J_193.2.2.1 59 = .ok (.aload_n 0, 1) := dzq_42 (by decide +kernel)
theorem D_193_60 : decode J_193.2.2.1 60 = .ok (.dup, 1) := dzq_89 (by decide +kernel)
theorem D_193_61 : decode J_193.2.2.1 61 = .ok (.getfield 96, 3) := dzq_180 (by decide +kernel)
theorem D_193_64 : decode J_193.2.2.1 64 = .ok (.iconst 1, 1) := dzq_4 (by decide +kernel)
theorem D_193_65 : decode J_193.2.2.1 65 = .ok (.iadd, 1) := dzq_96 (by decide +kernel)
theorem D_193_66 : decode J_193.2.2.1 66 = .ok (.putfield 96, 3) := dzq_181 (by decide +kernel)
theorem D_193_69 : decode J_193.2.2.1 69 = .ok (.iinc 1 1, 3) := dzq_132 (by decide +kernel)
theorem D_193_72 : decode J_193.2.2.1 72 = .ok (.goto (-42), 3) := dzq_167 (by decide +kernel)
theorem D_193_75 : decode J_193.2.2.1 75 = .ok (.return_, 1) := dzq_177 (by decide +kernel)
def P_193_69 (X : mjX) (d C S kc ks : Nat) (k : Nat → Int32 → mjH → mjU) : Prop := ∀ (l0 : Nat) (l1 : Int32) (hp : mjH) (q : Option Value × mjH), k l0 l1 hp = some q → mjG X d C S J_193 (mjEq q) 69 [some (.ref l0), some (.int l1)] [] hp kc ks
def P_193_30 (X : mjX) (d C S kc ks : Nat) (k : Nat → Int32 → mjH → mjU) : Prop := ∀ (l0 : Nat) (l1 : Int32) (hp : mjH) (q : Option Value × mjH), k l0 l1 hp = some q → mjG X d C S J_193 (mjEq q) 30 [some (.ref l0), some (.int l1)] [] hp kc ks
def P_193_0 (X : mjX) (d C S kc ks : Nat) (k : Nat → mjH → mjU) : Prop := ∀ (l0 : Nat) (hp : mjH) (q : Option Value × mjH), k l0 hp = some q → mjG X d C S J_193 (mjEq q) 0 [some (.ref l0), none] [] hp kc ks
noncomputable def b_193_69 (R : mjR) (k30 : Nat → Int32 → mjH → mjU) (l0 : Nat) (l1 : Int32) (hp : mjH) : mjU := k30 l0 (l1 + (1 : Int32)) hp
theorem t_193_69 {X : mjX} {d C S kc ks : Nat} {R : mjR} (hR : mjC R d) (h1 : kc ≤ C) (h2 : ks ≤ S) {k30 : Nat → Int32 → mjH → mjU} (hk30 : P_193_30 X (d + 1) C S kc ks k30) : P_193_69 X (d + 1) C S kc ks (b_193_69 R k30) := by
  intro l0 l1 hp q h
  unfold b_193_69 at h
  refine mjq_iinc (x := l1) (c := (1 : Int32)) (lo' := [some (.ref l0), some (.int (l1 + (1 : Int32)))]) D_193_69 rfl (Nat.le_of_ble_eq_true rfl) rfl rfl ?_
  refine mjr_goto (tgt := 30) D_193_72 rfl ?_
  exact hk30 _ _ _ _ h
noncomputable def b_193_30 (R : mjR) (k30 : Nat → Int32 → mjH → mjU) (l0 : Nat) (l1 : Int32) (hp : mjH) : mjU := gR hp l0 10 0 (fun v1 => gI hp v1 3 2 (fun v2 => (if v2 < l1 then some (none, hp) else rV hp l0 10 (bI (R 197 [.ref l0, .int l1] hp) (fun v3 hp4 => (if v3 = 0 then b_193_69 R k30 l0 l1 hp4 else gR hp4 l0 10 8 (fun v5 => gI hp4 l0 10 9 (fun v6 => sI hp4 v5 v6 l1 (fun hp7 => gI hp7 l0 10 9 (fun v8 => pI hp7 l0 10 9 (v8 + (1 : Int32)) (fun hp9 => b_193_69 R k30 l0 l1 hp9)))))))))))
theorem t_193_30 {X : mjX} {d C S kc ks : Nat} {R : mjR} (hR : mjC R d) (h1 : kc ≤ C) (h2 : ks ≤ S) {k30 : Nat → Int32 → mjH → mjU} (hk30 : P_193_30 X (d + 1) C S kc ks k30) : P_193_30 X (d + 1) C S kc ks (b_193_30 R k30) := by
  intro l0 l1 hp q h
  unfold b_193_30 at h
  refine mjr_iload_n (x := l1) D_193_30 rfl ?_
  refine mjr_aload_n (x := l0) D_193_31 rfl ?_
  refine mjq_gR D_193_32 fr_10_9 h (fun v1 h => ?_)
  refine mjq_gI D_193_35 fr_10_45 h (fun v2 h => ?_)
  refine mjq_icmp_gt (tgt := 75) D_193_38 rfl h (fun h => ?_) (fun h => ?_)
  · exact mjq_nret D_193_75 rfl h1 h2 h
  · refine mjr_aload_n (x := l0) D_193_41 rfl ?_
    refine mjr_iload_n (x := l1) D_193_42 rfl ?_
    refine mjq_vI (As := [.int l1]) (rest := []) D_193_43 mr_10_102 V_197 rfl rfl rfl hR (Nat.le_refl _) h1 h2 h (fun v3 hp4 h => ?_)
    refine mjq_if_eq (tgt := 69) D_193_46 rfl h (fun h => ?_) (fun h => ?_)
    · exact (t_193_69 hR h1 h2 hk30) _ _ _ _ h
    · refine mjr_aload_n (x := l0) D_193_49 rfl ?_
      refine mjq_gR D_193_50 fr_10_34 h (fun v5 h => ?_)
      refine mjr_aload_n (x := l0) D_193_53 rfl ?_
      refine mjq_gI D_193_54 fr_10_96 h (fun v6 h => ?_)
      refine mjr_iload_n (x := l1) D_193_57 rfl ?_
      refine mjq_sI D_193_58 h (fun hp7 h => ?_)
      refine mjr_aload_n (x := l0) D_193_59 rfl ?_
      refine mjr_dup D_193_60 rfl ?_
      refine mjq_gI D_193_61 fr_10_96 h (fun v8 h => ?_)
      refine mjq_ic (v := (1 : Int32)) D_193_64 rfl ?_
      refine mjr_iadd D_193_65 ?_
      refine mjq_pI D_193_66 fr_10_96 rfl rfl h (fun hp9 h => ?_)
      exact (t_193_69 hR h1 h2 hk30) _ _ _ _ h
noncomputable def L_193_30 (R : mjR) (n : Nat) : Nat → Int32 → mjH → mjU := Nat.rec (motive := fun _ => Nat → Int32 → mjH → mjU) (fun _ _ _ => none) (fun _ self => b_193_30 R self) n
theorem T_193_30 {X : mjX} {d C S kc ks : Nat} {R : mjR} (hR : mjC R d) (h1 : kc ≤ C) (h2 : ks ≤ S) (n : Nat) : P_193_30 X (d + 1) C S kc ks (L_193_30 R n) := by
  induction n with
  | zero => intro _ _ _ _ h; exact mj_no h
  | succ n ih => exact t_193_30 hR h1 h2 ih
noncomputable def b_193_0 (R : mjR) (l0 : Nat) (hp : mjH) : mjU := gI hp l0 10 5 (fun v1 => (if v1 = 0 then pZ hp l0 10 5 (1 : Int32) (fun hp2 => rV hp2 l0 10 (bN (R 186 [.ref l0, .int (0 : Int32), .int (0 : Int32)] hp2) (fun  hp3 => rV hp3 l0 10 (bN (R 194 [.ref l0] hp3) (fun  hp4 => pI hp4 l0 10 9 (0 : Int32) (fun hp5 => L_193_30 R mjN l0 (1 : Int32) hp5)))))) else some (none, hp)))
theorem t_193_0 {X : mjX} {d C S kc ks : Nat} {R : mjR} (hR : mjC R d) (h1 : kc ≤ C) (h2 : ks ≤ S) : P_193_0 X (d + 1) C S kc ks (b_193_0 R) := by
  intro l0 hp q h
  unfold b_193_0 at h
  refine mjr_aload_n (x := l0) D_193_0 rfl ?_
  refine mjq_gI D_193_1 fr_10_37 h (fun v1 h => ?_)
  refine mjq_if_eq (tgt := 8) D_193_4 rfl h (fun h => ?_) (fun h => ?_)
  · refine mjr_aload_n (x := l0) D_193_8 rfl ?_
    refine mjq_ic (v := (1 : Int32)) D_193_9 rfl ?_
    refine mjq_pZ D_193_10 fr_10_37 rfl rfl h (fun hp2 h => ?_)
    refine mjr_aload_n (x := l0) D_193_13 rfl ?_
    refine mjq_ic (v := (0 : Int32)) D_193_14 rfl ?_
    refine mjq_ic (v := (0 : Int32)) D_193_15 rfl ?_
    refine mjq_vN (As := [.int (0 : Int32), .int (0 : Int32)]) (rest := []) D_193_16 mr_10_87 V_186 rfl rfl rfl hR (Nat.le_refl _) h1 h2 h (fun  hp3 h => ?_)
    refine mjr_aload_n (x := l0) D_193_19 rfl ?_
    refine mjq_vN (As := []) (rest := []) D_193_20 mr_10_99 V_194 rfl rfl rfl hR (Nat.le_refl _) h1 h2 h (fun  hp4 h => ?_)
    refine mjr_aload_n (x := l0) D_193_23 rfl ?_
    refine mjq_ic (v := (0 : Int32)) D_193_24 rfl ?_
    refine mjq_pI D_193_25 fr_10_96 rfl rfl h (fun hp5 h => ?_)
    refine mjq_ic (v := (1 : Int32)) D_193_28 rfl ?_
    refine mjq_istore_n (lo' := [some (.ref l0), some (.int (1 : Int32))]) D_193_29 (Nat.le_of_ble_eq_true rfl) rfl ?_
    exact (T_193_30 hR h1 h2 mjN) _ _ _ _ h
  · exact mjq_nret D_193_7 rfl h1 h2 h
noncomputable def f_193 (R : mjR) (a0 : Nat) (hp : mjH) : mjU := b_193_0 R a0 hp
theorem c_193 {R : mjR} {d : Nat} (hR : mjC R d) {a0 : Nat} {hp : mjH} {q : Option Value × mjH} (h : f_193 R a0 hp = some q) : mjM (d + 1) 0 0 193 [.ref a0] hp (mjEq q) :=
  mjM_of Ja_193 (Nat.le_of_ble_eq_true rfl) (mjG.fg (lo' := [some (.ref a0), none]) (And.intro rfl True.intro) ((t_193_0 hR (Nat.le_refl 0) (Nat.le_refl 0)) a0 hp q h))
def J_194 : mjI := (⟨"OwnerHeap$Walker", "findNearest", "()V"⟩, 10, prog_12_method_15_code, 4, none, 0, false)
theorem Ja_194 : mjMt 194 = some J_194 := by rfl
theorem D_194_0 : decode J_194.2.2.1 0 = .ok (.aload_n 0, 1) := dzq_42 (by decide +kernel)
theorem D_194_1 : decode J_194.2.2.1 1 = .ok (.getfield 25, 3) := dzq_180 (by decide +kernel)
theorem D_194_4 : decode J_194.2.2.1 4 = .ok (.iconst 0, 1) := dzq_3 (by decide +kernel)
theorem D_194_5 : decode J_194.2.2.1 5 = .ok (.aload_n 0, 1) := dzq_42 (by decide +kernel)
theorem D_194_6 : decode J_194.2.2.1 6 = .ok (.getfield 28, 3) := dzq_180 (by decide +kernel)
theorem D_194_9 : decode J_194.2.2.1 9 = .ok (.iconst 0, 1) := dzq_3 (by decide +kernel)
theorem D_194_10 : decode J_194.2.2.1 10 = .ok (.aload_n 0, 1) := dzq_42 (by decide +kernel)
theorem D_194_11 : decode J_194.2.2.1 11 = .ok (.getfield 9, 3) := dzq_180 (by decide +kernel)
theorem D_194_14 : decode J_194.2.2.1 14 = .ok (.getfield 45, 3) := dzq_180 (by decide +kernel)
theorem D_194_17 : decode J_194.2.2.1 17 = .ok (.iconst 1, 1) := dzq_4 (by decide +kernel)
theorem D_194_18 : decode J_194.2.2.1 18 = .ok (.iadd, 1) := dzq_96 (by decide +kernel)
theorem D_194_19 : decode J_194.2.2.1 19 = .ok (.invokestatic 106, 3) := dzq_184 (by decide +kernel)
theorem D_194_22 : decode J_194.2.2.1 22 = .ok (.aload_n 0, 1) := dzq_42 (by decide +kernel)
theorem D_194_23 : decode J_194.2.2.1 23 = .ok (.getfield 28, 3) := dzq_180 (by decide +kernel)
theorem D_194_26 : decode J_194.2.2.1 26 = .ok (.iconst 0, 1) := dzq_3 (by decide +kernel)
theorem D_194_27 : decode J_194.2.2.1 27 = .ok (.iconst 0, 1) := dzq_3 (by decide +kernel)
theorem D_194_28 : decode J_194.2.2.1 28 = .ok (.iastore, 1) := dzq_79 (by decide +kernel)
theorem D_194_29 : decode J_194.2.2.1 29 = .ok (.aload_n 0, 1) := dzq_42 (by decide +kernel)
theorem D_194_30 : decode J_194.2.2.1 30 = .ok (.getfield 31, 3) := dzq_180 (by decide +kernel)
theorem D_194_33 : decode J_194.2.2.1 33 = .ok (.iconst 0, 1) := dzq_3 (by decide +kernel)
theorem D_194_34 : decode J_194.2.2.1 34 = .ok (.iconst 0, 1) := dzq_3 (by decide +kernel)
theorem D_194_35 : decode J_194.2.2.1 35 = .ok (.iastore, 1) := dzq_79 (by decide +kernel)
theorem D_194_36 : decode J_194.2.2.1 36 = .ok (.iconst 0, 1) := dzq_3 (by decide +kernel)
theorem D_194_37 : decode J_194.2.2.1 37 = .ok (.istore_n 1, 1) := dzq_60 (by decide +kernel)
theorem D_194_38 : decode J_194.2.2.1 38 = .ok (.iload_n 1, 1) := dzq_27 (by decide +kernel)
theorem D_194_39 : decode J_194.2.2.1 39 = .ok (.aload_n 0, 1) := dzq_42 (by decide +kernel)
theorem D_194_40 : decode J_194.2.2.1 40 = .ok (.getfield 41, 3) := dzq_180 (by decide +kernel)
theorem D_194_43 : decode J_194.2.2.1 43 = .ok (.if_icmp .ge 23, 3) := dzq_162 (by decide +kernel)
theorem D_194_46 : decode J_194.2.2.1 46 = .ok (.aload_n 0, 1) := dzq_42 (by decide +kernel)
theorem D_194_47 : decode J_194.2.2.1 47 = .ok (.getfield 31, 3) := dzq_180 (by decide +kernel)
theorem D_194_50 : decode J_194.2.2.1 50 = .ok (.aload_n 0, 1) := dzq_42 (by decide +kernel)
theorem D_194_51 : decode J_194.2.2.1 51 = .ok (.getfield 21, 3) := dzq_180 (by decide +kernel)
theorem D_194_54 : decode J_194.2.2.1 54 = .ok (.iload_n 1, 1) := dzq_27 (by decide +kernel)
theorem D_194_55 : decode J_194.2.2.1 55 = .ok (.iaload, 1) := dzq_46 (by decide +kernel)
theorem D_194_56 : decode J_194.2.2.1 56 = .ok (.iload_n 1, 1) := dzq_27 (by decide +kernel)
theorem D_194_57 : decode J_194.2.2.1 57 = .ok (.iconst 1, 1) := dzq_4 (by decide +kernel)
theorem D_194_58 : decode J_194.2.2.1 58 = .ok (.iadd, 1) := dzq_96 (by decide +kernel)
theorem D_194_59 : decode J_194.2.2.1 59 = .ok (.iastore, 1) := dzq_79 (by decide +kernel)
theorem D_194_60 : decode J_194.2.2.1 60 = .ok (.iinc 1 1, 3) := dzq_132 (by decide +kernel)
theorem D_194_63 : decode J_194.2.2.1 63 = .ok (.goto (-25), 3) := dzq_167 (by decide +kernel)
theorem D_194_66 : decode J_194.2.2.1 66 = .ok (.iconst 1, 1) := dzq_4 (by decide +kernel)
theorem D_194_67 : decode J_194.2.2.1 67 = .ok (.istore_n 1, 1) := dzq_60 (by decide +kernel)
theorem D_194_68 : decode J_194.2.2.1 68 = .ok (.iconst 0, 1) := dzq_3 (by decide +kernel)
theorem D_194_69 : decode J_194.2.2.1 69 = .ok (.istore_n 2, 1) := dzq_61 (by decide +kernel)
theorem D_194_70 : decode J_194.2.2.1 70 = .ok (.iload_n 2, 1) := dzq_28 (by decide +kernel)
theorem D_194_71 : decode J_194.2.2.1 71 = .ok (.ldc 112, 2) := by decide +kernel
theorem D_194_73 : decode J_194.2.2.1 73 = .ok (.if_icmp .ge 54, 3) := dzq_162 (by decide +kernel)
theorem D_194_76 : decode J_194.2.2.1 76 = .ok (.iload_n 1, 1) := dzq_27 (by decide +kernel)
theorem D_194_77 : decode J_194.2.2.1 77 = .ok (.ifCond .eq 50, 3) := dzq_153 (by decide +kernel)
theorem D_194_80 : decode J_194.2.2.1 80 = .ok (.iconst 0, 1) := dzq_3 (by decide +kernel)
theorem D_194_81 : decode J_194.2.2.1 81 = .ok (.istore_n 1, 1) := dzq_60 (by decide +kernel)
theorem D_194_82 : decode J_194.2.2.1 82 = .ok (.iconst 0, 1) := dzq_3 (by decide +kernel)
theorem D_194_83 : decode J_194.2.2.1 83 = .ok (.istore_n 3, 1) := dzq_62 (by decide +kernel)
theorem D_194_84 : decode J_194.2.2.1 84 = .ok (.iload_n 3, 1) := dzq_29 (by decide +kernel)
theorem D_194_85 : decode J_194.2.2.1 85 = .ok (.aload_n 0, 1) := dzq_42 (by decide +kernel)
theorem D_194_86 : decode J_194.2.2.1 86 = .ok (.getfield 41, 3) := dzq_180 (by decide +kernel)
theorem D_194_89 : decode J_194.2.2.1 89 = .ok (.if_icmp .ge 32, 3) := dzq_162 (by decide +kernel)
theorem D_194_92 : decode J_194.2.2.1 92 = .ok (.aload_n 0, 1) := dzq_42 (by decide +kernel)
theorem D_194_93 : decode J_194.2.2.1 93 = .ok (.aload_n 0, 1) := dzq_42 (by decide +kernel)
theorem D_194_94 : decode J_194.2.2.1 94 = .ok (.getfield 21, 3) := dzq_180 (by decide +kernel)
theorem D_194_97 : decode J_194.2.2.1 97 = .ok (.iload_n 3, 1) := dzq_29 (by decide +kernel)
theorem D_194_98 : decode J_194.2.2.1 98 = .ok (.iaload, 1) := dzq_46 (by decide +kernel)
theorem D_194_99 : decode J_194.2.2.1 99 = .ok (.invokevirtual 113, 3) := dzq_182 (by decide +kernel)
theorem D_194_102 : decode J_194.2.2.1 102 = .ok (.ifCond .ne 7, 3) := dzq_154 (by decide +kernel)
theorem D_194_105 : decode J_194.2.2.1 105 = .ok (.iload_n 1, 1) := dzq_27 (by decide +kernel)
theorem D_194_106 : decode J_194.2.2.1 106 = .ok (.ifCond .eq 7, 3) := dzq_153 (by decide +kernel)
theorem D_194_109 : decode J_194.2.2.1 109 = .ok (.iconst 1, 1) := dzq_4 (by decide +kernel)
theorem D_194_110 : decode J_194.2.2.1 110 = .ok (.goto 4, 3) := dzq_167 (by decide +kernel)
theorem D_194_113 : decode J_194.2.2.1 113 = .ok (.iconst 0, 1) := dzq_3 (by decide +kernel)
theorem D_194_114 : decode J_194.2.2.1 114 = .ok (.istore_n 1, 1) := dzq_60 (by decide +kernel)
theorem D_194_115 : decode J_194.2.2.1 115 = .ok (.iinc 3 1, 3) := dzq_132 (by decide +kernel)
theorem D_194_118 : decode J_194.2.2.1 118 = .ok (.goto (-34), 3) := dzq_167 (by decide +kernel)
theorem D_194_121 : decode J_194.2.2.1 121 = .ok (.iinc 2 1, 3) := dzq_132 (by decide +kernel)
theorem D_194_124 : decode J_194.2.2.1 124 = .ok (.goto (-54), 3) := dzq_167 (by decide +kernel)
theorem D_194_127 : decode J_194.2.2.1 127 = .ok (.return_, 1) := dzq_177 (by decide +kernel)
def P_194_114 (X : mjX) (d C S kc ks : Nat) (k : Nat → Int32 → Int32 → Int32 → mjH → mjU) : Prop := ∀ (l0 : Nat) (l2 : Int32) (l3 : Int32) (s0 : Int32) (hp : mjH) (q : Option Value × mjH), k l0 l2 l3 s0 hp = some q → mjG X d C S J_194 (mjEq q) 114 [some (.ref l0), none, some (.int l2), some (.int l3)] [.int s0] hp kc ks
def P_194_109 (X : mjX) (d C S kc ks : Nat) (k : Nat → Int32 → Int32 → mjH → mjU) : Prop := ∀ (l0 : Nat) (l2 : Int32) (l3 : Int32) (hp : mjH) (q : Option Value × mjH), k l0 l2 l3 hp = some q → mjG X d C S J_194 (mjEq q) 109 [some (.ref l0), none, some (.int l2), some (.int l3)] [] hp kc ks
def P_194_84 (X : mjX) (d C S kc ks : Nat) (k : Nat → Int32 → Int32 → Int32 → mjH → mjU) : Prop := ∀ (l0 : Nat) (l1 : Int32) (l2 : Int32) (l3 : Int32) (hp : mjH) (q : Option Value × mjH), k l0 l1 l2 l3 hp = some q → mjG X d C S J_194 (mjEq q) 84 [some (.ref l0), some (.int l1), some (.int l2), some (.int l3)] [] hp kc ks
def P_194_70 (X : mjX) (d C S kc ks : Nat) (k : Nat → Int32 → Int32 → mjH → mjU) : Prop := ∀ (l0 : Nat) (l1 : Int32) (l2 : Int32) (hp : mjH) (q : Option Value × mjH), k l0 l1 l2 hp = some q → mjG X d C S J_194 (mjEq q) 70 [some (.ref l0), some (.int l1), some (.int l2), none] [] hp kc ks
def P_194_38 (X : mjX) (d C S kc ks : Nat) (k : Nat → Int32 → mjH → mjU) : Prop := ∀ (l0 : Nat) (l1 : Int32) (hp : mjH) (q : Option Value × mjH), k l0 l1 hp = some q → mjG X d C S J_194 (mjEq q) 38 [some (.ref l0), some (.int l1), none, none] [] hp kc ks
def P_194_0 (X : mjX) (d C S kc ks : Nat) (k : Nat → mjH → mjU) : Prop := ∀ (l0 : Nat) (hp : mjH) (q : Option Value × mjH), k l0 hp = some q → mjG X d C S J_194 (mjEq q) 0 [some (.ref l0), none, none, none] [] hp kc ks
noncomputable def b_194_114 (R : mjR) (k70 : Nat → Int32 → Int32 → mjH → mjU) (k84 : Nat → Int32 → Int32 → Int32 → mjH → mjU) (l0 : Nat) (l2 : Int32) (l3 : Int32) (s0 : Int32) (hp : mjH) : mjU := k84 l0 s0 l2 (l3 + (1 : Int32)) hp
theorem t_194_114 {X : mjX} {d C S kc ks : Nat} {R : mjR} (hR : mjC R d) (h1 : kc ≤ C) (h2 : ks ≤ S) {k70 : Nat → Int32 → Int32 → mjH → mjU} (hk70 : P_194_70 X (d + 1) C S kc ks k70) {k84 : Nat → Int32 → Int32 → Int32 → mjH → mjU} (hk84 : P_194_84 X (d + 1) C S kc ks k84) : P_194_114 X (d + 1) C S kc ks (b_194_114 R k70 k84) := by
  intro l0 l2 l3 s0 hp q h
  unfold b_194_114 at h
  refine mjq_istore_n (lo' := [some (.ref l0), some (.int s0), some (.int l2), some (.int l3)]) D_194_114 (Nat.le_of_ble_eq_true rfl) rfl ?_
  refine mjq_iinc (x := l3) (c := (1 : Int32)) (lo' := [some (.ref l0), some (.int s0), some (.int l2), some (.int (l3 + (1 : Int32)))]) D_194_115 rfl (Nat.le_of_ble_eq_true rfl) rfl rfl ?_
  refine mjr_goto (tgt := 84) D_194_118 rfl ?_
  exact hk84 _ _ _ _ _ _ h
noncomputable def b_194_109 (R : mjR) (k70 : Nat → Int32 → Int32 → mjH → mjU) (k84 : Nat → Int32 → Int32 → Int32 → mjH → mjU) (l0 : Nat) (l2 : Int32) (l3 : Int32) (hp : mjH) : mjU := b_194_114 R k70 k84 l0 l2 l3 (1 : Int32) hp
theorem t_194_109 {X : mjX} {d C S kc ks : Nat} {R : mjR} (hR : mjC R d) (h1 : kc ≤ C) (h2 : ks ≤ S) {k70 : Nat → Int32 → Int32 → mjH → mjU} (hk70 : P_194_70 X (d + 1) C S kc ks k70) {k84 : Nat → Int32 → Int32 → Int32 → mjH → mjU} (hk84 : P_194_84 X (d + 1) C S kc ks k84) : P_194_109 X (d + 1) C S kc ks (b_194_109 R k70 k84) := by
  intro l0 l2 l3 hp q h
  unfold b_194_109 at h
  refine mjq_ic (v := (1 : Int32)) D_194_109 rfl ?_
  refine mjr_goto (tgt := 114) D_194_110 rfl ?_
  exact (t_194_114 hR h1 h2 hk70 hk84) _ _ _ _ _ _ h
noncomputable def b_194_84 (R : mjR) (k70 : Nat → Int32 → Int32 → mjH → mjU) (k84 : Nat → Int32 → Int32 → Int32 → mjH → mjU) (l0 : Nat) (l1 : Int32) (l2 : Int32) (l3 : Int32) (hp : mjH) : mjU := gI hp l0 10 3 (fun v1 => (if v1 ≤ l3 then k70 l0 l1 (l2 + (1 : Int32)) hp else gR hp l0 10 2 (fun v2 => aI hp v2 l3 (fun v3 => rV hp l0 10 (bI (R 195 [.ref l0, .int v3] hp) (fun v4 hp5 => (if v4 = 0 then (if l1 = 0 then b_194_114 R k70 k84 l0 l2 l3 (0 : Int32) hp5 else b_194_109 R k70 k84 l0 l2 l3 hp5) else b_194_109 R k70 k84 l0 l2 l3 hp5)))))))
theorem t_194_84 {X : mjX} {d C S kc ks : Nat} {R : mjR} (hR : mjC R d) (h1 : kc ≤ C) (h2 : ks ≤ S) {k70 : Nat → Int32 → Int32 → mjH → mjU} (hk70 : P_194_70 X (d + 1) C S kc ks k70) {k84 : Nat → Int32 → Int32 → Int32 → mjH → mjU} (hk84 : P_194_84 X (d + 1) C S kc ks k84) : P_194_84 X (d + 1) C S kc ks (b_194_84 R k70 k84) := by
  intro l0 l1 l2 l3 hp q h
  unfold b_194_84 at h
  refine mjr_iload_n (x := l3) D_194_84 rfl ?_
  refine mjr_aload_n (x := l0) D_194_85 rfl ?_
  refine mjq_gI D_194_86 fr_10_41 h (fun v1 h => ?_)
  refine mjq_icmp_ge (tgt := 121) D_194_89 rfl h (fun h => ?_) (fun h => ?_)
  · refine mjq_iinc (x := l2) (c := (1 : Int32)) (lo' := [some (.ref l0), some (.int l1), some (.int (l2 + (1 : Int32))), some (.int l3)]) D_194_121 rfl (Nat.le_of_ble_eq_true rfl) rfl rfl ?_
    refine mjr_goto (tgt := 70) D_194_124 rfl ?_
    exact mjG.fg (lo' := [some (.ref l0), some (.int l1), some (.int (l2 + (1 : Int32))), none]) (And.intro rfl (And.intro rfl (And.intro rfl True.intro))) (hk70 _ _ _ _ _ h)
  · refine mjr_aload_n (x := l0) D_194_92 rfl ?_
    refine mjr_aload_n (x := l0) D_194_93 rfl ?_
    refine mjq_gR D_194_94 fr_10_21 h (fun v2 h => ?_)
    refine mjr_iload_n (x := l3) D_194_97 rfl ?_
    refine mjq_aI D_194_98 h (fun v3 h => ?_)
    refine mjq_vI (As := [.int v3]) (rest := []) D_194_99 mr_10_113 V_195 rfl rfl rfl hR (Nat.le_refl _) h1 h2 h (fun v4 hp5 h => ?_)
    refine mjq_if_ne (tgt := 109) D_194_102 rfl h (fun h => ?_) (fun h => ?_)
    · exact mjG.fg (lo' := [some (.ref l0), none, some (.int l2), some (.int l3)]) (And.intro rfl (And.intro rfl (And.intro rfl True.intro))) ((t_194_109 hR h1 h2 hk70 hk84) _ _ _ _ _ h)
    · refine mjr_iload_n (x := l1) D_194_105 rfl ?_
      refine mjq_if_eq (tgt := 113) D_194_106 rfl h (fun h => ?_) (fun h => ?_)
      · refine mjq_ic (v := (0 : Int32)) D_194_113 rfl ?_
        exact mjG.fg (lo' := [some (.ref l0), none, some (.int l2), some (.int l3)]) (And.intro rfl (And.intro rfl (And.intro rfl True.intro))) ((t_194_114 hR h1 h2 hk70 hk84) _ _ _ _ _ _ h)
      · exact mjG.fg (lo' := [some (.ref l0), none, some (.int l2), some (.int l3)]) (And.intro rfl (And.intro rfl (And.intro rfl True.intro))) ((t_194_109 hR h1 h2 hk70 hk84) _ _ _ _ _ h)
noncomputable def L_194_84 (R : mjR) (k70 : Nat → Int32 → Int32 → mjH → mjU) (n : Nat) : Nat → Int32 → Int32 → Int32 → mjH → mjU := Nat.rec (motive := fun _ => Nat → Int32 → Int32 → Int32 → mjH → mjU) (fun _ _ _ _ _ => none) (fun _ self => b_194_84 R k70 self) n
theorem T_194_84 {X : mjX} {d C S kc ks : Nat} {R : mjR} (hR : mjC R d) (h1 : kc ≤ C) (h2 : ks ≤ S) {k70 : Nat → Int32 → Int32 → mjH → mjU} (hk70 : P_194_70 X (d + 1) C S kc ks k70) (n : Nat) : P_194_84 X (d + 1) C S kc ks (L_194_84 R k70 n) := by
  induction n with
  | zero => intro _ _ _ _ _ _ h; exact mj_no h
  | succ n ih => exact t_194_84 hR h1 h2 hk70 ih
noncomputable def b_194_70 (R : mjR) (k70 : Nat → Int32 → Int32 → mjH → mjU) (l0 : Nat) (l1 : Int32) (l2 : Int32) (hp : mjH) : mjU := (if (1000000 : Int32) ≤ l2 then some (none, hp) else (if l1 = 0 then some (none, hp) else L_194_84 R k70 mjN l0 (0 : Int32) l2 (0 : Int32) hp))
theorem t_194_70 {X : mjX} {d C S kc ks : Nat} {R : mjR} (hR : mjC R d) (h1 : kc ≤ C) (h2 : ks ≤ S) {k70 : Nat → Int32 → Int32 → mjH → mjU} (hk70 : P_194_70 X (d + 1) C S kc ks k70) : P_194_70 X (d + 1) C S kc ks (b_194_70 R k70) := by
  intro l0 l1 l2 hp q h
  unfold b_194_70 at h
  refine mjr_iload_n (x := l2) D_194_70 rfl ?_
  refine mjr_ldc (v := (1000000 : Int32)) D_194_71 (by decide +kernel) ?_
  refine mjq_icmp_ge (tgt := 127) D_194_73 rfl h (fun h => ?_) (fun h => ?_)
  · exact mjq_nret D_194_127 rfl h1 h2 h
  · refine mjr_iload_n (x := l1) D_194_76 rfl ?_
    refine mjq_if_eq (tgt := 127) D_194_77 rfl h (fun h => ?_) (fun h => ?_)
    · exact mjq_nret D_194_127 rfl h1 h2 h
    · refine mjq_ic (v := (0 : Int32)) D_194_80 rfl ?_
      refine mjq_istore_n (lo' := [some (.ref l0), some (.int (0 : Int32)), some (.int l2), none]) D_194_81 (Nat.le_of_ble_eq_true rfl) rfl ?_
      refine mjq_ic (v := (0 : Int32)) D_194_82 rfl ?_
      refine mjq_istore_n (lo' := [some (.ref l0), some (.int (0 : Int32)), some (.int l2), some (.int (0 : Int32))]) D_194_83 (Nat.le_of_ble_eq_true rfl) rfl ?_
      exact (T_194_84 hR h1 h2 hk70 mjN) _ _ _ _ _ _ h
noncomputable def L_194_70 (R : mjR) (n : Nat) : Nat → Int32 → Int32 → mjH → mjU := Nat.rec (motive := fun _ => Nat → Int32 → Int32 → mjH → mjU) (fun _ _ _ _ => none) (fun _ self => b_194_70 R self) n
theorem T_194_70 {X : mjX} {d C S kc ks : Nat} {R : mjR} (hR : mjC R d) (h1 : kc ≤ C) (h2 : ks ≤ S) (n : Nat) : P_194_70 X (d + 1) C S kc ks (L_194_70 R n) := by
  induction n with
  | zero => intro _ _ _ _ _ h; exact mj_no h
  | succ n ih => exact t_194_70 hR h1 h2 ih
noncomputable def b_194_38 (R : mjR) (k38 : Nat → Int32 → mjH → mjU) (l0 : Nat) (l1 : Int32) (hp : mjH) : mjU := gI hp l0 10 3 (fun v1 => (if v1 ≤ l1 then L_194_70 R mjN l0 (1 : Int32) (0 : Int32) hp else gR hp l0 10 7 (fun v2 => gR hp l0 10 2 (fun v3 => aI hp v3 l1 (fun v4 => sI hp v2 v4 (l1 + (1 : Int32)) (fun hp5 => k38 l0 (l1 + (1 : Int32)) hp5))))))
theorem t_194_38 {X : mjX} {d C S kc ks : Nat} {R : mjR} (hR : mjC R d) (h1 : kc ≤ C) (h2 : ks ≤ S) {k38 : Nat → Int32 → mjH → mjU} (hk38 : P_194_38 X (d + 1) C S kc ks k38) : P_194_38 X (d + 1) C S kc ks (b_194_38 R k38) := by
  intro l0 l1 hp q h
  unfold b_194_38 at h
  refine mjr_iload_n (x := l1) D_194_38 rfl ?_
  refine mjr_aload_n (x := l0) D_194_39 rfl ?_
  refine mjq_gI D_194_40 fr_10_41 h (fun v1 h => ?_)
  refine mjq_icmp_ge (tgt := 66) D_194_43 rfl h (fun h => ?_) (fun h => ?_)
  · refine mjq_ic (v := (1 : Int32)) D_194_66 rfl ?_
    refine mjq_istore_n (lo' := [some (.ref l0), some (.int (1 : Int32)), none, none]) D_194_67 (Nat.le_of_ble_eq_true rfl) rfl ?_
    refine mjq_ic (v := (0 : Int32)) D_194_68 rfl ?_
    refine mjq_istore_n (lo' := [some (.ref l0), some (.int (1 : Int32)), some (.int (0 : Int32)), none]) D_194_69 (Nat.le_of_ble_eq_true rfl) rfl ?_
    exact (T_194_70 hR h1 h2 mjN) _ _ _ _ _ h
  · refine mjr_aload_n (x := l0) D_194_46 rfl ?_
    refine mjq_gR D_194_47 fr_10_31 h (fun v2 h => ?_)
    refine mjr_aload_n (x := l0) D_194_50 rfl ?_
    refine mjq_gR D_194_51 fr_10_21 h (fun v3 h => ?_)
    refine mjr_iload_n (x := l1) D_194_54 rfl ?_
    refine mjq_aI D_194_55 h (fun v4 h => ?_)
    refine mjr_iload_n (x := l1) D_194_56 rfl ?_
    refine mjq_ic (v := (1 : Int32)) D_194_57 rfl ?_
    refine mjr_iadd D_194_58 ?_
    refine mjq_sI D_194_59 h (fun hp5 h => ?_)
    refine mjq_iinc (x := l1) (c := (1 : Int32)) (lo' := [some (.ref l0), some (.int (l1 + (1 : Int32))), none, none]) D_194_60 rfl (Nat.le_of_ble_eq_true rfl) rfl rfl ?_
    refine mjr_goto (tgt := 38) D_194_63 rfl ?_
    exact hk38 _ _ _ _ h
noncomputable def L_194_38 (R : mjR) (n : Nat) : Nat → Int32 → mjH → mjU := Nat.rec (motive := fun _ => Nat → Int32 → mjH → mjU) (fun _ _ _ => none) (fun _ self => b_194_38 R self) n
theorem T_194_38 {X : mjX} {d C S kc ks : Nat} {R : mjR} (hR : mjC R d) (h1 : kc ≤ C) (h2 : ks ≤ S) (n : Nat) : P_194_38 X (d + 1) C S kc ks (L_194_38 R n) := by
  induction n with
  | zero => intro _ _ _ _ h; exact mj_no h
  | succ n ih => exact t_194_38 hR h1 h2 ih
noncomputable def b_194_0 (R : mjR) (l0 : Nat) (hp : mjH) : mjU := gR hp l0 10 4 (fun v1 => gR hp l0 10 6 (fun v2 => gR hp l0 10 0 (fun v3 => gI hp v3 3 2 (fun v4 => cpY hp v1 (0 : Int32) v2 (0 : Int32) (v4 + (1 : Int32)) (fun hp5 => gR hp5 l0 10 6 (fun v6 => sI hp5 v6 (0 : Int32) (0 : Int32) (fun hp7 => gR hp7 l0 10 7 (fun v8 => sI hp7 v8 (0 : Int32) (0 : Int32) (fun hp9 => L_194_38 R mjN l0 (0 : Int32) hp9)))))))))
theorem t_194_0 {X : mjX} {d C S kc ks : Nat} {R : mjR} (hR : mjC R d) (h1 : kc ≤ C) (h2 : ks ≤ S) : P_194_0 X (d + 1) C S kc ks (b_194_0 R) := by
  intro l0 hp q h
  unfold b_194_0 at h
  refine mjr_aload_n (x := l0) D_194_0 rfl ?_
  refine mjq_gR D_194_1 fr_10_25 h (fun v1 h => ?_)
  refine mjq_ic (v := (0 : Int32)) D_194_4 rfl ?_
  refine mjr_aload_n (x := l0) D_194_5 rfl ?_
  refine mjq_gR D_194_6 fr_10_28 h (fun v2 h => ?_)
  refine mjq_ic (v := (0 : Int32)) D_194_9 rfl ?_
  refine mjr_aload_n (x := l0) D_194_10 rfl ?_
  refine mjq_gR D_194_11 fr_10_9 h (fun v3 h => ?_)
  refine mjq_gI D_194_14 fr_10_45 h (fun v4 h => ?_)
  refine mjq_ic (v := (1 : Int32)) D_194_17 rfl ?_
  refine mjr_iadd D_194_18 ?_
  refine mjq_copy D_194_19 (by decide +kernel) rfl (Nat.le_add_left 1 d) h (fun hp5 h => ?_)
  refine mjr_aload_n (x := l0) D_194_22 rfl ?_
  refine mjq_gR D_194_23 fr_10_28 h (fun v6 h => ?_)
  refine mjq_ic (v := (0 : Int32)) D_194_26 rfl ?_
  refine mjq_ic (v := (0 : Int32)) D_194_27 rfl ?_
  refine mjq_sI D_194_28 h (fun hp7 h => ?_)
  refine mjr_aload_n (x := l0) D_194_29 rfl ?_
  refine mjq_gR D_194_30 fr_10_31 h (fun v8 h => ?_)
  refine mjq_ic (v := (0 : Int32)) D_194_33 rfl ?_
  refine mjq_ic (v := (0 : Int32)) D_194_34 rfl ?_
  refine mjq_sI D_194_35 h (fun hp9 h => ?_)
  refine mjq_ic (v := (0 : Int32)) D_194_36 rfl ?_
  refine mjq_istore_n (lo' := [some (.ref l0), some (.int (0 : Int32)), none, none]) D_194_37 (Nat.le_of_ble_eq_true rfl) rfl ?_
  exact (T_194_38 hR h1 h2 mjN) _ _ _ _ h
noncomputable def f_194 (R : mjR) (a0 : Nat) (hp : mjH) : mjU := b_194_0 R a0 hp
theorem c_194 {R : mjR} {d : Nat} (hR : mjC R d) {a0 : Nat} {hp : mjH} {q : Option Value × mjH} (h : f_194 R a0 hp = some q) : mjM (d + 1) 0 0 194 [.ref a0] hp (mjEq q) :=
  mjM_of Ja_194 (Nat.le_of_ble_eq_true rfl) (mjG.fg (lo' := [some (.ref a0), none, none, none]) (And.intro rfl True.intro) ((t_194_0 hR (Nat.le_refl 0) (Nat.le_refl 0)) a0 hp q h))
def J_195 : mjI := (⟨"OwnerHeap$Walker", "narrowFrom", "(I)Z"⟩, 10, prog_12_method_16_code, 7, (some .boolean), 1, false)
theorem Ja_195 : mjMt 195 = some J_195 := by rfl
theorem D_195_0 : decode J_195.2.2.1 0 = .ok (.iconst 0, 1) := dzq_3 (by decide +kernel)
theorem D_195_1 : decode J_195.2.2.1 1 = .ok (.istore_n 2, 1) := dzq_61 (by decide +kernel)
theorem D_195_2 : decode J_195.2.2.1 2 = .ok (.aload_n 0, 1) := dzq_42 (by decide +kernel)
theorem D_195_3 : decode J_195.2.2.1 3 = .ok (.iload_n 1, 1) := dzq_27 (by decide +kernel)
theorem D_195_4 : decode J_195.2.2.1 4 = .ok (.invokevirtual 65, 3) := dzq_182 (by decide +kernel)
theorem D_195_7 : decode J_195.2.2.1 7 = .ok (.istore_n 3, 1) := dzq_62 (by decide +kernel)
theorem D_195_8 : decode J_195.2.2.1 8 = .ok (.iconst 0, 1) := dzq_3 (by decide +kernel)
theorem D_195_9 : decode J_195.2.2.1 9 = .ok (.istore 4, 2) := dzq_54 (by decide +kernel)
theorem D_195_11 : decode J_195.2.2.1 11 = .ok (.iload 4, 2) := dzq_21 (by decide +kernel)
theorem D_195_13 : decode J_195.2.2.1 13 = .ok (.iload_n 3, 1) := dzq_29 (by decide +kernel)
theorem D_195_14 : decode J_195.2.2.1 14 = .ok (.if_icmp .ge 69, 3) := dzq_162 (by decide +kernel)
theorem D_195_17 : decode J_195.2.2.1 17 = .ok (.aload_n 0, 1) := dzq_42 (by decide +kernel)
theorem D_195_18 : decode J_195.2.2.1 18 = .ok (.iload_n 1, 1) := dzq_27 (by decide +kernel)
theorem D_195_19 : decode J_195.2.2.1 19 = .ok (.iload 4, 2) := dzq_21 (by decide +kernel)
theorem D_195_21 : decode J_195.2.2.1 21 = .ok (.invokevirtual 69, 3) := dzq_182 (by decide +kernel)
theorem D_195_24 : decode J_195.2.2.1 24 = .ok (.istore 5, 2) := dzq_54 (by decide +kernel)
theorem D_195_26 : decode J_195.2.2.1 26 = .ok (.iload 5, 2) := dzq_21 (by decide +kernel)
theorem D_195_28 : decode J_195.2.2.1 28 = .ok (.ifCond .ne 7, 3) := dzq_154 (by decide +kernel)
theorem D_195_31 : decode J_195.2.2.1 31 = .ok (.iconst 0, 1) := dzq_3 (by decide +kernel)
theorem D_195_32 : decode J_195.2.2.1 32 = .ok (.goto 15, 3) := dzq_167 (by decide +kernel)
theorem D_195_35 : decode J_195.2.2.1 35 = .ok (.aload_n 0, 1) := dzq_42 (by decide +kernel)
theorem D_195_36 : decode J_195.2.2.1 36 = .ok (.aload_n 0, 1) := dzq_42 (by decide +kernel)
theorem D_195_37 : decode J_195.2.2.1 37 = .ok (.getfield 28, 3) := dzq_180 (by decide +kernel)
theorem D_195_40 : decode J_195.2.2.1 40 = .ok (.iload 5, 2) := dzq_21 (by decide +kernel)
theorem D_195_42 : decode J_195.2.2.1 42 = .ok (.iaload, 1) := dzq_46 (by decide +kernel)
theorem D_195_43 : decode J_195.2.2.1 43 = .ok (.iload_n 1, 1) := dzq_27 (by decide +kernel)
theorem D_195_44 : decode J_195.2.2.1 44 = .ok (.invokevirtual 116, 3) := dzq_182 (by decide +kernel)
theorem D_195_47 : decode J_195.2.2.1 47 = .ok (.istore 6, 2) := dzq_54 (by decide +kernel)
theorem D_195_49 : decode J_195.2.2.1 49 = .ok (.iload 5, 2) := dzq_21 (by decide +kernel)
theorem D_195_51 : decode J_195.2.2.1 51 = .ok (.ifCond .eq 26, 3) := dzq_153 (by decide +kernel)
theorem D_195_54 : decode J_195.2.2.1 54 = .ok (.iload 6, 2) := dzq_21 (by decide +kernel)
theorem D_195_56 : decode J_195.2.2.1 56 = .ok (.aload_n 0, 1) := dzq_42 (by decide +kernel)
theorem D_195_57 : decode J_195.2.2.1 57 = .ok (.getfield 28, 3) := dzq_180 (by decide +kernel)
theorem D_195_60 : decode J_195.2.2.1 60 = .ok (.iload 5, 2) := dzq_21 (by decide +kernel)
theorem D_195_62 : decode J_195.2.2.1 62 = .ok (.iaload, 1) := dzq_46 (by decide +kernel)
theorem D_195_63 : decode J_195.2.2.1 63 = .ok (.if_icmp .eq 14, 3) := dzq_159 (by decide +kernel)
theorem D_195_66 : decode J_195.2.2.1 66 = .ok (.aload_n 0, 1) := dzq_42 (by decide +kernel)
theorem D_195_67 : decode J_195.2.2.1 67 = .ok (.getfield 28, 3) := dzq_180 (by decide +kernel)
theorem D_195_70 : decode J_195.2.2.1 70 = .ok (.iload 5, 2) := dzq_21 (by decide +kernel)
theorem D_195_72 : decode J_195.2.2.1 72 = .ok (.iload 6, 2) := dzq_21 (by decide +kernel)
theorem D_195_74 : decode J_195.2.2.1 74 = .ok (.iastore, 1) := dzq_79 (by decide +kernel)
theorem D_195_75 : decode J_195.2.2.1 75 = .ok (.iconst 1, 1) := dzq_4 (by decide +kernel)
theorem D_195_76 : decode J_195.2.2.1 76 = .ok (.istore_n 2, 1) := dzq_61 (by decide +kernel)
theorem D_195_77 : decode J_195.2.2.1 77 = .ok (.iinc 4 1, 3) := dzq_132 (by decide +kernel)
theorem D_195_80 : decode J_195.2.2.1 80 = .ok (.goto (-69), 3) := dzq_167 (by decide +kernel)
theorem D_195_83 : decode J_195.2.2.1 83 = .ok (.iload_n 2, 1) := dzq_28 (by decide +kernel)
theorem D_195_84 : decode J_195.2.2.1 84 = .ok (.ireturn, 1) := dzq_172 (by decide +kernel)
def P_195_77 (X : mjX) (d C S kc ks : Nat) (k : Nat → Int32 → Int32 → Int32 → Int32 → mjH → mjU) : Prop := ∀ (l0 : Nat) (l1 : Int32) (l2 : Int32) (l3 : Int32) (l4 : Int32) (hp : mjH) (q : Option Value × mjH), k l0 l1 l2 l3 l4 hp = some q → mjG X d C S J_195 (mjEq q) 77 [some (.ref l0), some (.int l1), some (.int l2), some (.int l3), some (.int l4), none, none] [] hp kc ks
def P_195_47 (X : mjX) (d C S kc ks : Nat) (k : Nat → Int32 → Int32 → Int32 → Int32 → Int32 → Int32 → mjH → mjU) : Prop := ∀ (l0 : Nat) (l1 : Int32) (l2 : Int32) (l3 : Int32) (l4 : Int32) (l5 : Int32) (s0 : Int32) (hp : mjH) (q : Option Value × mjH), k l0 l1 l2 l3 l4 l5 s0 hp = some q → mjG X d C S J_195 (mjEq q) 47 [some (.ref l0), some (.int l1), some (.int l2), some (.int l3), some (.int l4), some (.int l5), none] [.int s0] hp kc ks
def P_195_11 (X : mjX) (d C S kc ks : Nat) (k : Nat → Int32 → Int32 → Int32 → Int32 → mjH → mjU) : Prop := ∀ (l0 : Nat) (l1 : Int32) (l2 : Int32) (l3 : Int32) (l4 : Int32) (hp : mjH) (q : Option Value × mjH), k l0 l1 l2 l3 l4 hp = some q → mjG X d C S J_195 (mjEq q) 11 [some (.ref l0), some (.int l1), some (.int l2), some (.int l3), some (.int l4), none, none] [] hp kc ks
def P_195_0 (X : mjX) (d C S kc ks : Nat) (k : Nat → Int32 → mjH → mjU) : Prop := ∀ (l0 : Nat) (l1 : Int32) (hp : mjH) (q : Option Value × mjH), k l0 l1 hp = some q → mjG X d C S J_195 (mjEq q) 0 [some (.ref l0), some (.int l1), none, none, none, none, none] [] hp kc ks
noncomputable def b_195_77 (R : mjR) (k11 : Nat → Int32 → Int32 → Int32 → Int32 → mjH → mjU) (l0 : Nat) (l1 : Int32) (l2 : Int32) (l3 : Int32) (l4 : Int32) (hp : mjH) : mjU := k11 l0 l1 l2 l3 (l4 + (1 : Int32)) hp
theorem t_195_77 {X : mjX} {d C S kc ks : Nat} {R : mjR} (hR : mjC R d) (h1 : kc ≤ C) (h2 : ks ≤ S) {k11 : Nat → Int32 → Int32 → Int32 → Int32 → mjH → mjU} (hk11 : P_195_11 X (d + 1) C S kc ks k11) : P_195_77 X (d + 1) C S kc ks (b_195_77 R k11) := by
  intro l0 l1 l2 l3 l4 hp q h
  unfold b_195_77 at h
  refine mjq_iinc (x := l4) (c := (1 : Int32)) (lo' := [some (.ref l0), some (.int l1), some (.int l2), some (.int l3), some (.int (l4 + (1 : Int32))), none, none]) D_195_77 rfl (Nat.le_of_ble_eq_true rfl) rfl rfl ?_
  refine mjr_goto (tgt := 11) D_195_80 rfl ?_
  exact hk11 _ _ _ _ _ _ _ h
noncomputable def b_195_47 (R : mjR) (k11 : Nat → Int32 → Int32 → Int32 → Int32 → mjH → mjU) (l0 : Nat) (l1 : Int32) (l2 : Int32) (l3 : Int32) (l4 : Int32) (l5 : Int32) (s0 : Int32) (hp : mjH) : mjU := (if l5 = 0 then b_195_77 R k11 l0 l1 l2 l3 l4 hp else gR hp l0 10 6 (fun v1 => aI hp v1 l5 (fun v2 => (if s0 = v2 then b_195_77 R k11 l0 l1 l2 l3 l4 hp else gR hp l0 10 6 (fun v3 => sI hp v3 l5 s0 (fun hp4 => b_195_77 R k11 l0 l1 (1 : Int32) l3 l4 hp4))))))
theorem t_195_47 {X : mjX} {d C S kc ks : Nat} {R : mjR} (hR : mjC R d) (h1 : kc ≤ C) (h2 : ks ≤ S) {k11 : Nat → Int32 → Int32 → Int32 → Int32 → mjH → mjU} (hk11 : P_195_11 X (d + 1) C S kc ks k11) : P_195_47 X (d + 1) C S kc ks (b_195_47 R k11) := by
  intro l0 l1 l2 l3 l4 l5 s0 hp q h
  unfold b_195_47 at h
  refine mjq_istore (lo' := [some (.ref l0), some (.int l1), some (.int l2), some (.int l3), some (.int l4), some (.int l5), some (.int s0)]) D_195_47 (Nat.le_of_ble_eq_true rfl) rfl ?_
  refine mjr_iload (x := l5) D_195_49 rfl ?_
  refine mjq_if_eq (tgt := 77) D_195_51 rfl h (fun h => ?_) (fun h => ?_)
  · exact mjG.fg (lo' := [some (.ref l0), some (.int l1), some (.int l2), some (.int l3), some (.int l4), none, none]) (And.intro rfl (And.intro rfl (And.intro rfl (And.intro rfl (And.intro rfl True.intro))))) ((t_195_77 hR h1 h2 hk11) _ _ _ _ _ _ _ h)
  · refine mjr_iload (x := s0) D_195_54 rfl ?_
    refine mjr_aload_n (x := l0) D_195_56 rfl ?_
    refine mjq_gR D_195_57 fr_10_28 h (fun v1 h => ?_)
    refine mjr_iload (x := l5) D_195_60 rfl ?_
    refine mjq_aI D_195_62 h (fun v2 h => ?_)
    refine mjq_icmp_eq (tgt := 77) D_195_63 rfl h (fun h => ?_) (fun h => ?_)
    · exact mjG.fg (lo' := [some (.ref l0), some (.int l1), some (.int l2), some (.int l3), some (.int l4), none, none]) (And.intro rfl (And.intro rfl (And.intro rfl (And.intro rfl (And.intro rfl True.intro))))) ((t_195_77 hR h1 h2 hk11) _ _ _ _ _ _ _ h)
    · refine mjr_aload_n (x := l0) D_195_66 rfl ?_
      refine mjq_gR D_195_67 fr_10_28 h (fun v3 h => ?_)
      refine mjr_iload (x := l5) D_195_70 rfl ?_
      refine mjr_iload (x := s0) D_195_72 rfl ?_
      refine mjq_sI D_195_74 h (fun hp4 h => ?_)
      refine mjq_ic (v := (1 : Int32)) D_195_75 rfl ?_
      refine mjq_istore_n (lo' := [some (.ref l0), some (.int l1), some (.int (1 : Int32)), some (.int l3), some (.int l4), some (.int l5), some (.int s0)]) D_195_76 (Nat.le_of_ble_eq_true rfl) rfl ?_
      exact mjG.fg (lo' := [some (.ref l0), some (.int l1), some (.int (1 : Int32)), some (.int l3), some (.int l4), none, none]) (And.intro rfl (And.intro rfl (And.intro rfl (And.intro rfl (And.intro rfl True.intro))))) ((t_195_77 hR h1 h2 hk11) _ _ _ _ _ _ _ h)
noncomputable def b_195_11 (R : mjR) (k11 : Nat → Int32 → Int32 → Int32 → Int32 → mjH → mjU) (l0 : Nat) (l1 : Int32) (l2 : Int32) (l3 : Int32) (l4 : Int32) (hp : mjH) : mjU := (if l3 ≤ l4 then (if narrow .boolean (.int l2) = .int l2 then some (some (.int l2), hp) else none) else rV hp l0 10 (bI (R 190 [.ref l0, .int l1, .int l4] hp) (fun v1 hp2 => (if v1 = 0 then b_195_47 R k11 l0 l1 l2 l3 l4 v1 (0 : Int32) hp2 else gR hp2 l0 10 6 (fun v3 => aI hp2 v3 v1 (fun v4 => rV hp2 l0 10 (bI (R 196 [.ref l0, .int v4, .int l1] hp2) (fun v5 hp6 => b_195_47 R k11 l0 l1 l2 l3 l4 v1 v5 hp6))))))))
theorem t_195_11 {X : mjX} {d C S kc ks : Nat} {R : mjR} (hR : mjC R d) (h1 : kc ≤ C) (h2 : ks ≤ S) {k11 : Nat → Int32 → Int32 → Int32 → Int32 → mjH → mjU} (hk11 : P_195_11 X (d + 1) C S kc ks k11) : P_195_11 X (d + 1) C S kc ks (b_195_11 R k11) := by
  intro l0 l1 l2 l3 l4 hp q h
  unfold b_195_11 at h
  refine mjr_iload (x := l4) D_195_11 rfl ?_
  refine mjr_iload_n (x := l3) D_195_13 rfl ?_
  refine mjq_icmp_ge (tgt := 83) D_195_14 rfl h (fun h => ?_) (fun h => ?_)
  · refine mjr_iload_n (x := l2) D_195_83 rfl ?_
    exact mjq_retZ (ty := .boolean) D_195_84 rfl h1 h2 h
  · refine mjr_aload_n (x := l0) D_195_17 rfl ?_
    refine mjr_iload_n (x := l1) D_195_18 rfl ?_
    refine mjr_iload (x := l4) D_195_19 rfl ?_
    refine mjq_vI (As := [.int l1, .int l4]) (rest := []) D_195_21 mr_10_69 V_190 rfl rfl rfl hR (Nat.le_refl _) h1 h2 h (fun v1 hp2 h => ?_)
    refine mjq_istore (lo' := [some (.ref l0), some (.int l1), some (.int l2), some (.int l3), some (.int l4), some (.int v1), none]) D_195_24 (Nat.le_of_ble_eq_true rfl) rfl ?_
    refine mjr_iload (x := v1) D_195_26 rfl ?_
    refine mjq_if_ne (tgt := 35) D_195_28 rfl h (fun h => ?_) (fun h => ?_)
    · refine mjr_aload_n (x := l0) D_195_35 rfl ?_
      refine mjr_aload_n (x := l0) D_195_36 rfl ?_
      refine mjq_gR D_195_37 fr_10_28 h (fun v3 h => ?_)
      refine mjr_iload (x := v1) D_195_40 rfl ?_
      refine mjq_aI D_195_42 h (fun v4 h => ?_)
      refine mjr_iload_n (x := l1) D_195_43 rfl ?_
      refine mjq_vI (As := [.int v4, .int l1]) (rest := []) D_195_44 mr_10_116 V_196 rfl rfl rfl hR (Nat.le_refl _) h1 h2 h (fun v5 hp6 h => ?_)
      exact (t_195_47 hR h1 h2 hk11) _ _ _ _ _ _ _ _ _ h
    · refine mjq_ic (v := (0 : Int32)) D_195_31 rfl ?_
      refine mjr_goto (tgt := 47) D_195_32 rfl ?_
      exact (t_195_47 hR h1 h2 hk11) _ _ _ _ _ _ _ _ _ h
noncomputable def L_195_11 (R : mjR) (n : Nat) : Nat → Int32 → Int32 → Int32 → Int32 → mjH → mjU := Nat.rec (motive := fun _ => Nat → Int32 → Int32 → Int32 → Int32 → mjH → mjU) (fun _ _ _ _ _ _ => none) (fun _ self => b_195_11 R self) n
theorem T_195_11 {X : mjX} {d C S kc ks : Nat} {R : mjR} (hR : mjC R d) (h1 : kc ≤ C) (h2 : ks ≤ S) (n : Nat) : P_195_11 X (d + 1) C S kc ks (L_195_11 R n) := by
  induction n with
  | zero => intro _ _ _ _ _ _ _ h; exact mj_no h
  | succ n ih => exact t_195_11 hR h1 h2 ih
noncomputable def b_195_0 (R : mjR) (l0 : Nat) (l1 : Int32) (hp : mjH) : mjU := rV hp l0 10 (bI (R 189 [.ref l0, .int l1] hp) (fun v1 hp2 => L_195_11 R mjN l0 l1 (0 : Int32) v1 (0 : Int32) hp2))
theorem t_195_0 {X : mjX} {d C S kc ks : Nat} {R : mjR} (hR : mjC R d) (h1 : kc ≤ C) (h2 : ks ≤ S) : P_195_0 X (d + 1) C S kc ks (b_195_0 R) := by
  intro l0 l1 hp q h
  unfold b_195_0 at h
  refine mjq_ic (v := (0 : Int32)) D_195_0 rfl ?_
  refine mjq_istore_n (lo' := [some (.ref l0), some (.int l1), some (.int (0 : Int32)), none, none, none, none]) D_195_1 (Nat.le_of_ble_eq_true rfl) rfl ?_
  refine mjr_aload_n (x := l0) D_195_2 rfl ?_
  refine mjr_iload_n (x := l1) D_195_3 rfl ?_
  refine mjq_vI (As := [.int l1]) (rest := []) D_195_4 mr_10_65 V_189 rfl rfl rfl hR (Nat.le_refl _) h1 h2 h (fun v1 hp2 h => ?_)
  refine mjq_istore_n (lo' := [some (.ref l0), some (.int l1), some (.int (0 : Int32)), some (.int v1), none, none, none]) D_195_7 (Nat.le_of_ble_eq_true rfl) rfl ?_
  refine mjq_ic (v := (0 : Int32)) D_195_8 rfl ?_
  refine mjq_istore (lo' := [some (.ref l0), some (.int l1), some (.int (0 : Int32)), some (.int v1), some (.int (0 : Int32)), none, none]) D_195_9 (Nat.le_of_ble_eq_true rfl) rfl ?_
  exact (T_195_11 hR h1 h2 mjN) _ _ _ _ _ _ _ h
noncomputable def f_195 (R : mjR) (a0 : Nat) (a1 : Int32) (hp : mjH) : mjU := b_195_0 R a0 a1 hp
theorem c_195 {R : mjR} {d : Nat} (hR : mjC R d) {a0 : Nat} {a1 : Int32} {hp : mjH} {q : Option Value × mjH} (h : f_195 R a0 a1 hp = some q) : mjM (d + 1) 0 0 195 [.ref a0, .int a1] hp (mjEq q) :=
  mjM_of Ja_195 (Nat.le_of_ble_eq_true rfl) (mjG.fg (lo' := [some (.ref a0), some (.int a1), none, none, none, none, none]) (And.intro rfl (And.intro rfl True.intro)) ((t_195_0 hR (Nat.le_refl 0) (Nat.le_refl 0)) a0 a1 hp q h))
def J_196 : mjI := (⟨"OwnerHeap$Walker", "aboveBoth", "(II)I"⟩, 10, prog_12_method_17_code, 6, (some .int), 2, false)
theorem Ja_196 : mjMt 196 = some J_196 := by rfl
theorem D_196_0 : decode J_196.2.2.1 0 = .ok (.iload_n 1, 1) := dzq_27 (by decide +kernel)
theorem D_196_1 : decode J_196.2.2.1 1 = .ok (.istore_n 3, 1) := dzq_62 (by decide +kernel)
theorem D_196_2 : decode J_196.2.2.1 2 = .ok (.iload_n 2, 1) := dzq_28 (by decide +kernel)
theorem D_196_3 : decode J_196.2.2.1 3 = .ok (.istore 4, 2) := dzq_54 (by decide +kernel)
theorem D_196_5 : decode J_196.2.2.1 5 = .ok (.iconst 0, 1) := dzq_3 (by decide +kernel)
theorem D_196_6 : decode J_196.2.2.1 6 = .ok (.istore 5, 2) := dzq_54 (by decide +kernel)
theorem D_196_8 : decode J_196.2.2.1 8 = .ok (.iload 5, 2) := dzq_21 (by decide +kernel)
theorem D_196_10 : decode J_196.2.2.1 10 = .ok (.iconst 2, 1) := dzq_5 (by decide +kernel)
theorem D_196_11 : decode J_196.2.2.1 11 = .ok (.aload_n 0, 1) := dzq_42 (by decide +kernel)
theorem D_196_12 : decode J_196.2.2.1 12 = .ok (.getfield 9, 3) := dzq_180 (by decide +kernel)
theorem D_196_15 : decode J_196.2.2.1 15 = .ok (.getfield 45, 3) := dzq_180 (by decide +kernel)
theorem D_196_18 : decode J_196.2.2.1 18 = .ok (.imul, 1) := dzq_104 (by decide +kernel)
theorem D_196_19 : decode J_196.2.2.1 19 = .ok (.if_icmp .gt 50, 3) := dzq_163 (by decide +kernel)
theorem D_196_22 : decode J_196.2.2.1 22 = .ok (.iload_n 3, 1) := dzq_29 (by decide +kernel)
theorem D_196_23 : decode J_196.2.2.1 23 = .ok (.iload 4, 2) := dzq_21 (by decide +kernel)
theorem D_196_25 : decode J_196.2.2.1 25 = .ok (.if_icmp .eq 44, 3) := dzq_159 (by decide +kernel)
theorem D_196_28 : decode J_196.2.2.1 28 = .ok (.aload_n 0, 1) := dzq_42 (by decide +kernel)
theorem D_196_29 : decode J_196.2.2.1 29 = .ok (.getfield 31, 3) := dzq_180 (by decide +kernel)
theorem D_196_32 : decode J_196.2.2.1 32 = .ok (.iload_n 3, 1) := dzq_29 (by decide +kernel)
theorem D_196_33 : decode J_196.2.2.1 33 = .ok (.iaload, 1) := dzq_46 (by decide +kernel)
theorem D_196_34 : decode J_196.2.2.1 34 = .ok (.aload_n 0, 1) := dzq_42 (by decide +kernel)
theorem D_196_35 : decode J_196.2.2.1 35 = .ok (.getfield 31, 3) := dzq_180 (by decide +kernel)
theorem D_196_38 : decode J_196.2.2.1 38 = .ok (.iload 4, 2) := dzq_21 (by decide +kernel)
theorem D_196_40 : decode J_196.2.2.1 40 = .ok (.iaload, 1) := dzq_46 (by decide +kernel)
theorem D_196_41 : decode J_196.2.2.1 41 = .ok (.if_icmp .le 13, 3) := dzq_164 (by decide +kernel)
theorem D_196_44 : decode J_196.2.2.1 44 = .ok (.aload_n 0, 1) := dzq_42 (by decide +kernel)
theorem D_196_45 : decode J_196.2.2.1 45 = .ok (.getfield 28, 3) := dzq_180 (by decide +kernel)
theorem D_196_48 : decode J_196.2.2.1 48 = .ok (.iload_n 3, 1) := dzq_29 (by decide +kernel)
theorem D_196_49 : decode J_196.2.2.1 49 = .ok (.iaload, 1) := dzq_46 (by decide +kernel)
theorem D_196_50 : decode J_196.2.2.1 50 = .ok (.istore_n 3, 1) := dzq_62 (by decide +kernel)
theorem D_196_51 : decode J_196.2.2.1 51 = .ok (.goto 12, 3) := dzq_167 (by decide +kernel)
theorem D_196_54 : decode J_196.2.2.1 54 = .ok (.aload_n 0, 1) := dzq_42 (by decide +kernel)
theorem D_196_55 : decode J_196.2.2.1 55 = .ok (.getfield 28, 3) := dzq_180 (by decide +kernel)
theorem D_196_58 : decode J_196.2.2.1 58 = .ok (.iload 4, 2) := dzq_21 (by decide +kernel)
theorem D_196_60 : decode J_196.2.2.1 60 = .ok (.iaload, 1) := dzq_46 (by decide +kernel)
theorem D_196_61 : decode J_196.2.2.1 61 = .ok (.istore 4, 2) := dzq_54 (by decide +kernel)
theorem D_196_63 : decode J_196.2.2.1 63 = .ok (.iinc 5 1, 3) := dzq_132 (by decide +kernel)
theorem D_196_66 : decode J_196.2.2.1 66 = .ok (.goto (-58), 3) := dzq_167 (by decide +kernel)
theorem D_196_69 : decode J_196.2.2.1 69 = .ok (.iload_n 3, 1) := dzq_29 (by decide +kernel)
theorem D_196_70 : decode J_196.2.2.1 70 = .ok (.ireturn, 1) := dzq_172 (by decide +kernel)
def P_196_69 (X : mjX) (d C S kc ks : Nat) (k : Int32 → mjH → mjU) : Prop := ∀ (l3 : Int32) (hp : mjH) (q : Option Value × mjH), k l3 hp = some q → mjG X d C S J_196 (mjEq q) 69 [none, none, none, some (.int l3), none, none] [] hp kc ks
def P_196_63 (X : mjX) (d C S kc ks : Nat) (k : Nat → Int32 → Int32 → Int32 → mjH → mjU) : Prop := ∀ (l0 : Nat) (l3 : Int32) (l4 : Int32) (l5 : Int32) (hp : mjH) (q : Option Value × mjH), k l0 l3 l4 l5 hp = some q → mjG X d C S J_196 (mjEq q) 63 [some (.ref l0), none, none, some (.int l3), some (.int l4), some (.int l5)] [] hp kc ks
def P_196_8 (X : mjX) (d C S kc ks : Nat) (k : Nat → Int32 → Int32 → Int32 → mjH → mjU) : Prop := ∀ (l0 : Nat) (l3 : Int32) (l4 : Int32) (l5 : Int32) (hp : mjH) (q : Option Value × mjH), k l0 l3 l4 l5 hp = some q → mjG X d C S J_196 (mjEq q) 8 [some (.ref l0), none, none, some (.int l3), some (.int l4), some (.int l5)] [] hp kc ks
def P_196_0 (X : mjX) (d C S kc ks : Nat) (k : Nat → Int32 → Int32 → mjH → mjU) : Prop := ∀ (l0 : Nat) (l1 : Int32) (l2 : Int32) (hp : mjH) (q : Option Value × mjH), k l0 l1 l2 hp = some q → mjG X d C S J_196 (mjEq q) 0 [some (.ref l0), some (.int l1), some (.int l2), none, none, none] [] hp kc ks
noncomputable def b_196_69 (R : mjR) (l3 : Int32) (hp : mjH) : mjU := some (some (.int l3), hp)
theorem t_196_69 {X : mjX} {d C S kc ks : Nat} {R : mjR} (hR : mjC R d) (h1 : kc ≤ C) (h2 : ks ≤ S) : P_196_69 X (d + 1) C S kc ks (b_196_69 R) := by
  intro l3 hp q h
  unfold b_196_69 at h
  refine mjr_iload_n (x := l3) D_196_69 rfl ?_
  exact mjq_ret D_196_70 rfl h1 h2 h
noncomputable def b_196_63 (R : mjR) (k8 : Nat → Int32 → Int32 → Int32 → mjH → mjU) (l0 : Nat) (l3 : Int32) (l4 : Int32) (l5 : Int32) (hp : mjH) : mjU := k8 l0 l3 l4 (l5 + (1 : Int32)) hp
theorem t_196_63 {X : mjX} {d C S kc ks : Nat} {R : mjR} (hR : mjC R d) (h1 : kc ≤ C) (h2 : ks ≤ S) {k8 : Nat → Int32 → Int32 → Int32 → mjH → mjU} (hk8 : P_196_8 X (d + 1) C S kc ks k8) : P_196_63 X (d + 1) C S kc ks (b_196_63 R k8) := by
  intro l0 l3 l4 l5 hp q h
  unfold b_196_63 at h
  refine mjq_iinc (x := l5) (c := (1 : Int32)) (lo' := [some (.ref l0), none, none, some (.int l3), some (.int l4), some (.int (l5 + (1 : Int32)))]) D_196_63 rfl (Nat.le_of_ble_eq_true rfl) rfl rfl ?_
  refine mjr_goto (tgt := 8) D_196_66 rfl ?_
  exact hk8 _ _ _ _ _ _ h
noncomputable def b_196_8 (R : mjR) (k8 : Nat → Int32 → Int32 → Int32 → mjH → mjU) (l0 : Nat) (l3 : Int32) (l4 : Int32) (l5 : Int32) (hp : mjH) : mjU := gR hp l0 10 0 (fun v1 => gI hp v1 3 2 (fun v2 => (if ((2 : Int32) * v2) < l5 then b_196_69 R l3 hp else (if l3 = l4 then b_196_69 R l3 hp else gR hp l0 10 7 (fun v3 => aI hp v3 l3 (fun v4 => gR hp l0 10 7 (fun v5 => aI hp v5 l4 (fun v6 => (if v4 ≤ v6 then gR hp l0 10 6 (fun v7 => aI hp v7 l4 (fun v8 => b_196_63 R k8 l0 l3 v8 l5 hp)) else gR hp l0 10 6 (fun v9 => aI hp v9 l3 (fun v10 => b_196_63 R k8 l0 v10 l4 l5 hp)))))))))))
theorem t_196_8 {X : mjX} {d C S kc ks : Nat} {R : mjR} (hR : mjC R d) (h1 : kc ≤ C) (h2 : ks ≤ S) {k8 : Nat → Int32 → Int32 → Int32 → mjH → mjU} (hk8 : P_196_8 X (d + 1) C S kc ks k8) : P_196_8 X (d + 1) C S kc ks (b_196_8 R k8) := by
  intro l0 l3 l4 l5 hp q h
  unfold b_196_8 at h
  refine mjr_iload (x := l5) D_196_8 rfl ?_
  refine mjq_ic (v := (2 : Int32)) D_196_10 rfl ?_
  refine mjr_aload_n (x := l0) D_196_11 rfl ?_
  refine mjq_gR D_196_12 fr_10_9 h (fun v1 h => ?_)
  refine mjq_gI D_196_15 fr_10_45 h (fun v2 h => ?_)
  refine mjr_imul D_196_18 ?_
  refine mjq_icmp_gt (tgt := 69) D_196_19 rfl h (fun h => ?_) (fun h => ?_)
  · exact mjG.fg (lo' := [none, none, none, some (.int l3), none, none]) (And.intro rfl True.intro) ((t_196_69 hR h1 h2) _ _ _ h)
  · refine mjr_iload_n (x := l3) D_196_22 rfl ?_
    refine mjr_iload (x := l4) D_196_23 rfl ?_
    refine mjq_icmp_eq (tgt := 69) D_196_25 rfl h (fun h => ?_) (fun h => ?_)
    · exact mjG.fg (lo' := [none, none, none, some (.int l3), none, none]) (And.intro rfl True.intro) ((t_196_69 hR h1 h2) _ _ _ h)
    · refine mjr_aload_n (x := l0) D_196_28 rfl ?_
      refine mjq_gR D_196_29 fr_10_31 h (fun v3 h => ?_)
      refine mjr_iload_n (x := l3) D_196_32 rfl ?_
      refine mjq_aI D_196_33 h (fun v4 h => ?_)
      refine mjr_aload_n (x := l0) D_196_34 rfl ?_
      refine mjq_gR D_196_35 fr_10_31 h (fun v5 h => ?_)
      refine mjr_iload (x := l4) D_196_38 rfl ?_
      refine mjq_aI D_196_40 h (fun v6 h => ?_)
      refine mjq_icmp_le (tgt := 54) D_196_41 rfl h (fun h => ?_) (fun h => ?_)
      · refine mjr_aload_n (x := l0) D_196_54 rfl ?_
        refine mjq_gR D_196_55 fr_10_28 h (fun v7 h => ?_)
        refine mjr_iload (x := l4) D_196_58 rfl ?_
        refine mjq_aI D_196_60 h (fun v8 h => ?_)
        refine mjq_istore (lo' := [some (.ref l0), none, none, some (.int l3), some (.int v8), some (.int l5)]) D_196_61 (Nat.le_of_ble_eq_true rfl) rfl ?_
        exact (t_196_63 hR h1 h2 hk8) _ _ _ _ _ _ h
      · refine mjr_aload_n (x := l0) D_196_44 rfl ?_
        refine mjq_gR D_196_45 fr_10_28 h (fun v9 h => ?_)
        refine mjr_iload_n (x := l3) D_196_48 rfl ?_
        refine mjq_aI D_196_49 h (fun v10 h => ?_)
        refine mjq_istore_n (lo' := [some (.ref l0), none, none, some (.int v10), some (.int l4), some (.int l5)]) D_196_50 (Nat.le_of_ble_eq_true rfl) rfl ?_
        refine mjr_goto (tgt := 63) D_196_51 rfl ?_
        exact (t_196_63 hR h1 h2 hk8) _ _ _ _ _ _ h
noncomputable def L_196_8 (R : mjR) (n : Nat) : Nat → Int32 → Int32 → Int32 → mjH → mjU := Nat.rec (motive := fun _ => Nat → Int32 → Int32 → Int32 → mjH → mjU) (fun _ _ _ _ _ => none) (fun _ self => b_196_8 R self) n
theorem T_196_8 {X : mjX} {d C S kc ks : Nat} {R : mjR} (hR : mjC R d) (h1 : kc ≤ C) (h2 : ks ≤ S) (n : Nat) : P_196_8 X (d + 1) C S kc ks (L_196_8 R n) := by
  induction n with
  | zero => intro _ _ _ _ _ _ h; exact mj_no h
  | succ n ih => exact t_196_8 hR h1 h2 ih
noncomputable def b_196_0 (R : mjR) (l0 : Nat) (l1 : Int32) (l2 : Int32) (hp : mjH) : mjU := L_196_8 R mjN l0 l1 l2 (0 : Int32) hp
theorem t_196_0 {X : mjX} {d C S kc ks : Nat} {R : mjR} (hR : mjC R d) (h1 : kc ≤ C) (h2 : ks ≤ S) : P_196_0 X (d + 1) C S kc ks (b_196_0 R) := by
  intro l0 l1 l2 hp q h
  unfold b_196_0 at h
  refine mjr_iload_n (x := l1) D_196_0 rfl ?_
  refine mjq_istore_n (lo' := [some (.ref l0), some (.int l1), some (.int l2), some (.int l1), none, none]) D_196_1 (Nat.le_of_ble_eq_true rfl) rfl ?_
  refine mjr_iload_n (x := l2) D_196_2 rfl ?_
  refine mjq_istore (lo' := [some (.ref l0), some (.int l1), some (.int l2), some (.int l1), some (.int l2), none]) D_196_3 (Nat.le_of_ble_eq_true rfl) rfl ?_
  refine mjq_ic (v := (0 : Int32)) D_196_5 rfl ?_
  refine mjq_istore (lo' := [some (.ref l0), some (.int l1), some (.int l2), some (.int l1), some (.int l2), some (.int (0 : Int32))]) D_196_6 (Nat.le_of_ble_eq_true rfl) rfl ?_
  exact mjG.fg (lo' := [some (.ref l0), none, none, some (.int l1), some (.int l2), some (.int (0 : Int32))]) (And.intro rfl (And.intro rfl (And.intro rfl (And.intro rfl True.intro)))) ((T_196_8 hR h1 h2 mjN) _ _ _ _ _ _ h)
noncomputable def f_196 (R : mjR) (a0 : Nat) (a1 : Int32) (a2 : Int32) (hp : mjH) : mjU := b_196_0 R a0 a1 a2 hp
theorem c_196 {R : mjR} {d : Nat} (hR : mjC R d) {a0 : Nat} {a1 : Int32} {a2 : Int32} {hp : mjH} {q : Option Value × mjH} (h : f_196 R a0 a1 a2 hp = some q) : mjM (d + 1) 0 0 196 [.ref a0, .int a1, .int a2] hp (mjEq q) :=
  mjM_of Ja_196 (Nat.le_of_ble_eq_true rfl) (mjG.fg (lo' := [some (.ref a0), some (.int a1), some (.int a2), none, none, none]) (And.intro rfl (And.intro rfl (And.intro rfl True.intro))) ((t_196_0 hR (Nat.le_refl 0) (Nat.le_refl 0)) a0 a1 a2 hp q h))
def J_197 : mjI := (⟨"OwnerHeap$Walker", "isLeak", "(I)Z"⟩, 10, prog_12_method_18_code, 5, (some .boolean), 1, false)
theorem Ja_197 : mjMt 197 = some J_197 := by rfl
theorem D_197_0 : decode J_197.2.2.1 0 = .ok (.aload_n 0, 1) := dzq_42 (by decide +kernel)
theorem D_197_1 : decode J_197.2.2.1 1 = .ok (.getfield 9, 3) := dzq_180 (by decide +kernel)
theorem D_197_4 : decode J_197.2.2.1 4 = .ok (.iload_n 1, 1) := dzq_27 (by decide +kernel)
theorem D_197_5 : decode J_197.2.2.1 5 = .ok (.iconst 0, 1) := dzq_3 (by decide +kernel)
theorem D_197_6 : decode J_197.2.2.1 6 = .ok (.invokevirtual 58, 3) := dzq_182 (by decide +kernel)
theorem D_197_9 : decode J_197.2.2.1 9 = .ok (.istore_n 2, 1) := dzq_61 (by decide +kernel)
theorem D_197_10 : decode J_197.2.2.1 10 = .ok (.aload_n 0, 1) := dzq_42 (by decide +kernel)
theorem D_197_11 : decode J_197.2.2.1 11 = .ok (.getfield 28, 3) := dzq_180 (by decide +kernel)
theorem D_197_14 : decode J_197.2.2.1 14 = .ok (.iload_n 1, 1) := dzq_27 (by decide +kernel)
theorem D_197_15 : decode J_197.2.2.1 15 = .ok (.iaload, 1) := dzq_46 (by decide +kernel)
theorem D_197_16 : decode J_197.2.2.1 16 = .ok (.istore_n 3, 1) := dzq_62 (by decide +kernel)
theorem D_197_17 : decode J_197.2.2.1 17 = .ok (.iconst 0, 1) := dzq_3 (by decide +kernel)
theorem D_197_18 : decode J_197.2.2.1 18 = .ok (.istore 4, 2) := dzq_54 (by decide +kernel)
theorem D_197_20 : decode J_197.2.2.1 20 = .ok (.iload 4, 2) := dzq_21 (by decide +kernel)
theorem D_197_22 : decode J_197.2.2.1 22 = .ok (.aload_n 0, 1) := dzq_42 (by decide +kernel)
theorem D_197_23 : decode J_197.2.2.1 23 = .ok (.getfield 9, 3) := dzq_180 (by decide +kernel)
theorem D_197_26 : decode J_197.2.2.1 26 = .ok (.getfield 45, 3) := dzq_180 (by decide +kernel)
theorem D_197_29 : decode J_197.2.2.1 29 = .ok (.if_icmp .gt 25, 3) := dzq_163 (by decide +kernel)
theorem D_197_32 : decode J_197.2.2.1 32 = .ok (.iload_n 3, 1) := dzq_29 (by decide +kernel)
theorem D_197_33 : decode J_197.2.2.1 33 = .ok (.ifCond .le 21, 3) := dzq_158 (by decide +kernel)
theorem D_197_36 : decode J_197.2.2.1 36 = .ok (.iload_n 3, 1) := dzq_29 (by decide +kernel)
theorem D_197_37 : decode J_197.2.2.1 37 = .ok (.iload_n 2, 1) := dzq_28 (by decide +kernel)
theorem D_197_38 : decode J_197.2.2.1 38 = .ok (.if_icmp .eq 16, 3) := dzq_159 (by decide +kernel)
theorem D_197_41 : decode J_197.2.2.1 41 = .ok (.aload_n 0, 1) := dzq_42 (by decide +kernel)
theorem D_197_42 : decode J_197.2.2.1 42 = .ok (.getfield 28, 3) := dzq_180 (by decide +kernel)
theorem D_197_45 : decode J_197.2.2.1 45 = .ok (.iload_n 3, 1) := dzq_29 (by decide +kernel)
theorem D_197_46 : decode J_197.2.2.1 46 = .ok (.iaload, 1) := dzq_46 (by decide +kernel)
theorem D_197_47 : decode J_197.2.2.1 47 = .ok (.istore_n 3, 1) := dzq_62 (by decide +kernel)
theorem D_197_48 : decode J_197.2.2.1 48 = .ok (.iinc 4 1, 3) := dzq_132 (by decide +kernel)
theorem D_197_51 : decode J_197.2.2.1 51 = .ok (.goto (-31), 3) := dzq_167 (by decide +kernel)
theorem D_197_54 : decode J_197.2.2.1 54 = .ok (.iload_n 2, 1) := dzq_28 (by decide +kernel)
theorem D_197_55 : decode J_197.2.2.1 55 = .ok (.ifCond .eq 11, 3) := dzq_153 (by decide +kernel)
theorem D_197_58 : decode J_197.2.2.1 58 = .ok (.iload_n 3, 1) := dzq_29 (by decide +kernel)
theorem D_197_59 : decode J_197.2.2.1 59 = .ok (.ifCond .ne 7, 3) := dzq_154 (by decide +kernel)
theorem D_197_62 : decode J_197.2.2.1 62 = .ok (.iconst 1, 1) := dzq_4 (by decide +kernel)
theorem D_197_63 : decode J_197.2.2.1 63 = .ok (.goto 4, 3) := dzq_167 (by decide +kernel)
theorem D_197_66 : decode J_197.2.2.1 66 = .ok (.iconst 0, 1) := dzq_3 (by decide +kernel)
theorem D_197_67 : decode J_197.2.2.1 67 = .ok (.ireturn, 1) := dzq_172 (by decide +kernel)
def P_197_66 (X : mjX) (d C S kc ks : Nat) (k : mjH → mjU) : Prop := ∀  (hp : mjH) (q : Option Value × mjH), k  hp = some q → mjG X d C S J_197 (mjEq q) 66 [none, none, none, none, none] [] hp kc ks
def P_197_54 (X : mjX) (d C S kc ks : Nat) (k : Int32 → Int32 → mjH → mjU) : Prop := ∀ (l2 : Int32) (l3 : Int32) (hp : mjH) (q : Option Value × mjH), k l2 l3 hp = some q → mjG X d C S J_197 (mjEq q) 54 [none, none, some (.int l2), some (.int l3), none] [] hp kc ks
def P_197_20 (X : mjX) (d C S kc ks : Nat) (k : Nat → Int32 → Int32 → Int32 → mjH → mjU) : Prop := ∀ (l0 : Nat) (l2 : Int32) (l3 : Int32) (l4 : Int32) (hp : mjH) (q : Option Value × mjH), k l0 l2 l3 l4 hp = some q → mjG X d C S J_197 (mjEq q) 20 [some (.ref l0), none, some (.int l2), some (.int l3), some (.int l4)] [] hp kc ks
def P_197_0 (X : mjX) (d C S kc ks : Nat) (k : Nat → Int32 → mjH → mjU) : Prop := ∀ (l0 : Nat) (l1 : Int32) (hp : mjH) (q : Option Value × mjH), k l0 l1 hp = some q → mjG X d C S J_197 (mjEq q) 0 [some (.ref l0), some (.int l1), none, none, none] [] hp kc ks
noncomputable def b_197_66 (R : mjR)  (hp : mjH) : mjU := some (some (.int (0 : Int32)), hp)
theorem t_197_66 {X : mjX} {d C S kc ks : Nat} {R : mjR} (hR : mjC R d) (h1 : kc ≤ C) (h2 : ks ≤ S) : P_197_66 X (d + 1) C S kc ks (b_197_66 R) := by
  intro  hp q h
  unfold b_197_66 at h
  refine mjq_ic (v := (0 : Int32)) D_197_66 rfl ?_
  exact mjr_ireturn D_197_67 rfl rfl h1 h2 (Option.some.inj h)
noncomputable def b_197_54 (R : mjR) (l2 : Int32) (l3 : Int32) (hp : mjH) : mjU := (if l2 = 0 then b_197_66 R hp else (if l3 = 0 then some (some (.int (1 : Int32)), hp) else b_197_66 R hp))
theorem t_197_54 {X : mjX} {d C S kc ks : Nat} {R : mjR} (hR : mjC R d) (h1 : kc ≤ C) (h2 : ks ≤ S) : P_197_54 X (d + 1) C S kc ks (b_197_54 R) := by
  intro l2 l3 hp q h
  unfold b_197_54 at h
  refine mjr_iload_n (x := l2) D_197_54 rfl ?_
  refine mjq_if_eq (tgt := 66) D_197_55 rfl h (fun h => ?_) (fun h => ?_)
  · exact mjG.fg (lo' := [none, none, none, none, none]) True.intro ((t_197_66 hR h1 h2) _ _ h)
  · refine mjr_iload_n (x := l3) D_197_58 rfl ?_
    refine mjq_if_ne (tgt := 66) D_197_59 rfl h (fun h => ?_) (fun h => ?_)
    · exact mjG.fg (lo' := [none, none, none, none, none]) True.intro ((t_197_66 hR h1 h2) _ _ h)
    · refine mjq_ic (v := (1 : Int32)) D_197_62 rfl ?_
      refine mjr_goto (tgt := 67) D_197_63 rfl ?_
      exact mjr_ireturn D_197_67 rfl rfl h1 h2 (Option.some.inj h)
noncomputable def b_197_20 (R : mjR) (k20 : Nat → Int32 → Int32 → Int32 → mjH → mjU) (l0 : Nat) (l2 : Int32) (l3 : Int32) (l4 : Int32) (hp : mjH) : mjU := gR hp l0 10 0 (fun v1 => gI hp v1 3 2 (fun v2 => (if v2 < l4 then b_197_54 R l2 l3 hp else (if l3 ≤ 0 then b_197_54 R l2 l3 hp else (if l3 = l2 then b_197_54 R l2 l3 hp else gR hp l0 10 6 (fun v3 => aI hp v3 l3 (fun v4 => k20 l0 l2 v4 (l4 + (1 : Int32)) hp)))))))
theorem t_197_20 {X : mjX} {d C S kc ks : Nat} {R : mjR} (hR : mjC R d) (h1 : kc ≤ C) (h2 : ks ≤ S) {k20 : Nat → Int32 → Int32 → Int32 → mjH → mjU} (hk20 : P_197_20 X (d + 1) C S kc ks k20) : P_197_20 X (d + 1) C S kc ks (b_197_20 R k20) := by
  intro l0 l2 l3 l4 hp q h
  unfold b_197_20 at h
  refine mjr_iload (x := l4) D_197_20 rfl ?_
  refine mjr_aload_n (x := l0) D_197_22 rfl ?_
  refine mjq_gR D_197_23 fr_10_9 h (fun v1 h => ?_)
  refine mjq_gI D_197_26 fr_10_45 h (fun v2 h => ?_)
  refine mjq_icmp_gt (tgt := 54) D_197_29 rfl h (fun h => ?_) (fun h => ?_)
  · exact mjG.fg (lo' := [none, none, some (.int l2), some (.int l3), none]) (And.intro rfl (And.intro rfl True.intro)) ((t_197_54 hR h1 h2) _ _ _ _ h)
  · refine mjr_iload_n (x := l3) D_197_32 rfl ?_
    refine mjq_if_le (tgt := 54) D_197_33 rfl h (fun h => ?_) (fun h => ?_)
    · exact mjG.fg (lo' := [none, none, some (.int l2), some (.int l3), none]) (And.intro rfl (And.intro rfl True.intro)) ((t_197_54 hR h1 h2) _ _ _ _ h)
    · refine mjr_iload_n (x := l3) D_197_36 rfl ?_
      refine mjr_iload_n (x := l2) D_197_37 rfl ?_
      refine mjq_icmp_eq (tgt := 54) D_197_38 rfl h (fun h => ?_) (fun h => ?_)
      · exact mjG.fg (lo' := [none, none, some (.int l2), some (.int l3), none]) (And.intro rfl (And.intro rfl True.intro)) ((t_197_54 hR h1 h2) _ _ _ _ h)
      · refine mjr_aload_n (x := l0) D_197_41 rfl ?_
        refine mjq_gR D_197_42 fr_10_28 h (fun v3 h => ?_)
        refine mjr_iload_n (x := l3) D_197_45 rfl ?_
        refine mjq_aI D_197_46 h (fun v4 h => ?_)
        refine mjq_istore_n (lo' := [some (.ref l0), none, some (.int l2), some (.int v4), some (.int l4)]) D_197_47 (Nat.le_of_ble_eq_true rfl) rfl ?_
        refine mjq_iinc (x := l4) (c := (1 : Int32)) (lo' := [some (.ref l0), none, some (.int l2), some (.int v4), some (.int (l4 + (1 : Int32)))]) D_197_48 rfl (Nat.le_of_ble_eq_true rfl) rfl rfl ?_
        refine mjr_goto (tgt := 20) D_197_51 rfl ?_
        exact hk20 _ _ _ _ _ _ h
noncomputable def L_197_20 (R : mjR) (n : Nat) : Nat → Int32 → Int32 → Int32 → mjH → mjU := Nat.rec (motive := fun _ => Nat → Int32 → Int32 → Int32 → mjH → mjU) (fun _ _ _ _ _ => none) (fun _ self => b_197_20 R self) n
theorem T_197_20 {X : mjX} {d C S kc ks : Nat} {R : mjR} (hR : mjC R d) (h1 : kc ≤ C) (h2 : ks ≤ S) (n : Nat) : P_197_20 X (d + 1) C S kc ks (L_197_20 R n) := by
  induction n with
  | zero => intro _ _ _ _ _ _ h; exact mj_no h
  | succ n ih => exact t_197_20 hR h1 h2 ih
noncomputable def b_197_0 (R : mjR) (l0 : Nat) (l1 : Int32) (hp : mjH) : mjU := gR hp l0 10 0 (fun v1 => rV hp v1 3 (bI (R 49 [.ref v1, .int l1, .int (0 : Int32)] hp) (fun v2 hp3 => gR hp3 l0 10 6 (fun v4 => aI hp3 v4 l1 (fun v5 => L_197_20 R mjN l0 v2 v5 (0 : Int32) hp3)))))
theorem t_197_0 {X : mjX} {d C S kc ks : Nat} {R : mjR} (hR : mjC R d) (h1 : kc ≤ C) (h2 : ks ≤ S) : P_197_0 X (d + 1) C S kc ks (b_197_0 R) := by
  intro l0 l1 hp q h
  unfold b_197_0 at h
  refine mjr_aload_n (x := l0) D_197_0 rfl ?_
  refine mjq_gR D_197_1 fr_10_9 h (fun v1 h => ?_)
  refine mjr_iload_n (x := l1) D_197_4 rfl ?_
  refine mjq_ic (v := (0 : Int32)) D_197_5 rfl ?_
  refine mjq_vI (As := [.int l1, .int (0 : Int32)]) (rest := []) D_197_6 mr_10_58 V_49 rfl rfl rfl hR (Nat.le_refl _) h1 h2 h (fun v2 hp3 h => ?_)
  refine mjq_istore_n (lo' := [some (.ref l0), some (.int l1), some (.int v2), none, none]) D_197_9 (Nat.le_of_ble_eq_true rfl) rfl ?_
  refine mjr_aload_n (x := l0) D_197_10 rfl ?_
  refine mjq_gR D_197_11 fr_10_28 h (fun v4 h => ?_)
  refine mjr_iload_n (x := l1) D_197_14 rfl ?_
  refine mjq_aI D_197_15 h (fun v5 h => ?_)
  refine mjq_istore_n (lo' := [some (.ref l0), some (.int l1), some (.int v2), some (.int v5), none]) D_197_16 (Nat.le_of_ble_eq_true rfl) rfl ?_
  refine mjq_ic (v := (0 : Int32)) D_197_17 rfl ?_
  refine mjq_istore (lo' := [some (.ref l0), some (.int l1), some (.int v2), some (.int v5), some (.int (0 : Int32))]) D_197_18 (Nat.le_of_ble_eq_true rfl) rfl ?_
  exact mjG.fg (lo' := [some (.ref l0), none, some (.int v2), some (.int v5), some (.int (0 : Int32))]) (And.intro rfl (And.intro rfl (And.intro rfl (And.intro rfl True.intro)))) ((T_197_20 hR h1 h2 mjN) _ _ _ _ _ _ h)
noncomputable def f_197 (R : mjR) (a0 : Nat) (a1 : Int32) (hp : mjH) : mjU := b_197_0 R a0 a1 hp
theorem c_197 {R : mjR} {d : Nat} (hR : mjC R d) {a0 : Nat} {a1 : Int32} {hp : mjH} {q : Option Value × mjH} (h : f_197 R a0 a1 hp = some q) : mjM (d + 1) 0 0 197 [.ref a0, .int a1] hp (mjEq q) :=
  mjM_of Ja_197 (Nat.le_of_ble_eq_true rfl) (mjG.fg (lo' := [some (.ref a0), some (.int a1), none, none, none]) (And.intro rfl (And.intro rfl True.intro)) ((t_197_0 hR (Nat.le_refl 0) (Nat.le_refl 0)) a0 a1 hp q h))
def J_198 : mjI := (⟨"OwnerHeap$Walker", "leakCount", "()I"⟩, 10, prog_12_method_12_code, 1, (some .int), 0, false)
theorem Ja_198 : mjMt 198 = some J_198 := by rfl
theorem D_198_0 : decode J_198.2.2.1 0 = .ok (.aload_n 0, 1) := dzq_42 (by decide +kernel)
theorem D_198_1 : decode J_198.2.2.1 1 = .ok (.invokevirtual 93, 3) := dzq_182 (by decide +kernel)
theorem D_198_4 : decode J_198.2.2.1 4 = .ok (.aload_n 0, 1) := dzq_42 (by decide +kernel)
theorem D_198_5 : decode J_198.2.2.1 5 = .ok (.getfield 96, 3) := dzq_180 (by decide +kernel)
theorem D_198_8 : decode J_198.2.2.1 8 = .ok (.ireturn, 1) := dzq_172 (by decide +kernel)
def P_198_0 (X : mjX) (d C S kc ks : Nat) (k : Nat → mjH → mjU) : Prop := ∀ (l0 : Nat) (hp : mjH) (q : Option Value × mjH), k l0 hp = some q → mjG X d C S J_198 (mjEq q) 0 [some (.ref l0)] [] hp kc ks
noncomputable def b_198_0 (R : mjR) (l0 : Nat) (hp : mjH) : mjU := rV hp l0 10 (bN (R 193 [.ref l0] hp) (fun  hp1 => gI hp1 l0 10 9 (fun v2 => some (some (.int v2), hp1))))
theorem t_198_0 {X : mjX} {d C S kc ks : Nat} {R : mjR} (hR : mjC R d) (h1 : kc ≤ C) (h2 : ks ≤ S) : P_198_0 X (d + 1) C S kc ks (b_198_0 R) := by
  intro l0 hp q h
  unfold b_198_0 at h
  refine mjr_aload_n (x := l0) D_198_0 rfl ?_
  refine mjq_vN (As := []) (rest := []) D_198_1 mr_10_93 V_193 rfl rfl rfl hR (Nat.le_refl _) h1 h2 h (fun  hp1 h => ?_)
  refine mjr_aload_n (x := l0) D_198_4 rfl ?_
  refine mjq_gI D_198_5 fr_10_96 h (fun v2 h => ?_)
  exact mjq_ret D_198_8 rfl h1 h2 h
noncomputable def f_198 (R : mjR) (a0 : Nat) (hp : mjH) : mjU := b_198_0 R a0 hp
theorem c_198 {R : mjR} {d : Nat} (hR : mjC R d) {a0 : Nat} {hp : mjH} {q : Option Value × mjH} (h : f_198 R a0 hp = some q) : mjM (d + 1) 0 0 198 [.ref a0] hp (mjEq q) :=
  mjM_of Ja_198 (Nat.le_of_ble_eq_true rfl) (mjG.fg (lo' := [some (.ref a0)]) (And.intro rfl True.intro) ((t_198_0 hR (Nat.le_refl 0) (Nat.le_refl 0)) a0 hp q h))
def J_199 : mjI := (⟨"OwnerHeap$Walker", "leakAt", "(I)I"⟩, 10, prog_12_method_13_code, 2, (some .int), 1, false)
theorem Ja_199 : mjMt 199 = some J_199 := by rfl
theorem D_199_0 : decode J_199.2.2.1 0 = .ok (.aload_n 0, 1) := dzq_42 (by decide +kernel)
theorem D_199_1 : decode J_199.2.2.1 1 = .ok (.invokevirtual 93, 3) := dzq_182 (by decide +kernel)
theorem D_199_4 : decode J_199.2.2.1 4 = .ok (.iload_n 1, 1) := dzq_27 (by decide +kernel)
theorem D_199_5 : decode J_199.2.2.1 5 = .ok (.ifCond .lt 20, 3) := dzq_155 (by decide +kernel)
theorem D_199_8 : decode J_199.2.2.1 8 = .ok (.iload_n 1, 1) := dzq_27 (by decide +kernel)
theorem D_199_9 : decode J_199.2.2.1 9 = .ok (.aload_n 0, 1) := dzq_42 (by decide +kernel)
theorem D_199_10 : decode J_199.2.2.1 10 = .ok (.getfield 96, 3) := dzq_180 (by decide +kernel)
theorem D_199_13 : decode J_199.2.2.1 13 = .ok (.if_icmp .ge 12, 3) := dzq_162 (by decide +kernel)
theorem D_199_16 : decode J_199.2.2.1 16 = .ok (.aload_n 0, 1) := dzq_42 (by decide +kernel)
theorem D_199_17 : decode J_199.2.2.1 17 = .ok (.getfield 34, 3) := dzq_180 (by decide +kernel)
theorem D_199_20 : decode J_199.2.2.1 20 = .ok (.iload_n 1, 1) := dzq_27 (by decide +kernel)
theorem D_199_21 : decode J_199.2.2.1 21 = .ok (.iaload, 1) := dzq_46 (by decide +kernel)
theorem D_199_22 : decode J_199.2.2.1 22 = .ok (.goto 4, 3) := dzq_167 (by decide +kernel)
theorem D_199_25 : decode J_199.2.2.1 25 = .ok (.iconst (-1), 1) := dzq_2 (by decide +kernel)
theorem D_199_26 : decode J_199.2.2.1 26 = .ok (.ireturn, 1) := dzq_172 (by decide +kernel)
def P_199_25 (X : mjX) (d C S kc ks : Nat) (k : mjH → mjU) : Prop := ∀  (hp : mjH) (q : Option Value × mjH), k  hp = some q → mjG X d C S J_199 (mjEq q) 25 [none, none] [] hp kc ks
def P_199_0 (X : mjX) (d C S kc ks : Nat) (k : Nat → Int32 → mjH → mjU) : Prop := ∀ (l0 : Nat) (l1 : Int32) (hp : mjH) (q : Option Value × mjH), k l0 l1 hp = some q → mjG X d C S J_199 (mjEq q) 0 [some (.ref l0), some (.int l1)] [] hp kc ks
noncomputable def b_199_25 (R : mjR)  (hp : mjH) : mjU := some (some (.int (-1 : Int32)), hp)
theorem t_199_25 {X : mjX} {d C S kc ks : Nat} {R : mjR} (hR : mjC R d) (h1 : kc ≤ C) (h2 : ks ≤ S) : P_199_25 X (d + 1) C S kc ks (b_199_25 R) := by
  intro  hp q h
  unfold b_199_25 at h
  refine mjq_ic (v := (-1 : Int32)) D_199_25 rfl ?_
  exact mjq_ret D_199_26 rfl h1 h2 h
noncomputable def b_199_0 (R : mjR) (l0 : Nat) (l1 : Int32) (hp : mjH) : mjU := rV hp l0 10 (bN (R 193 [.ref l0] hp) (fun  hp1 => (if l1 < 0 then b_199_25 R hp1 else gI hp1 l0 10 9 (fun v2 => (if v2 ≤ l1 then b_199_25 R hp1 else gR hp1 l0 10 8 (fun v3 => aI hp1 v3 l1 (fun v4 => some (some (.int v4), hp1))))))))
theorem t_199_0 {X : mjX} {d C S kc ks : Nat} {R : mjR} (hR : mjC R d) (h1 : kc ≤ C) (h2 : ks ≤ S) : P_199_0 X (d + 1) C S kc ks (b_199_0 R) := by
  intro l0 l1 hp q h
  unfold b_199_0 at h
  refine mjr_aload_n (x := l0) D_199_0 rfl ?_
  refine mjq_vN (As := []) (rest := []) D_199_1 mr_10_93 V_193 rfl rfl rfl hR (Nat.le_refl _) h1 h2 h (fun  hp1 h => ?_)
  refine mjr_iload_n (x := l1) D_199_4 rfl ?_
  refine mjq_if_lt (tgt := 25) D_199_5 rfl h (fun h => ?_) (fun h => ?_)
  · exact mjG.fg (lo' := [none, none]) True.intro ((t_199_25 hR h1 h2) _ _ h)
  · refine mjr_iload_n (x := l1) D_199_8 rfl ?_
    refine mjr_aload_n (x := l0) D_199_9 rfl ?_
    refine mjq_gI D_199_10 fr_10_96 h (fun v2 h => ?_)
    refine mjq_icmp_ge (tgt := 25) D_199_13 rfl h (fun h => ?_) (fun h => ?_)
    · exact mjG.fg (lo' := [none, none]) True.intro ((t_199_25 hR h1 h2) _ _ h)
    · refine mjr_aload_n (x := l0) D_199_16 rfl ?_
      refine mjq_gR D_199_17 fr_10_34 h (fun v3 h => ?_)
      refine mjr_iload_n (x := l1) D_199_20 rfl ?_
      refine mjq_aI D_199_21 h (fun v4 h => ?_)
      refine mjr_goto (tgt := 26) D_199_22 rfl ?_
      exact mjq_ret D_199_26 rfl h1 h2 h
noncomputable def f_199 (R : mjR) (a0 : Nat) (a1 : Int32) (hp : mjH) : mjU := b_199_0 R a0 a1 hp
theorem c_199 {R : mjR} {d : Nat} (hR : mjC R d) {a0 : Nat} {a1 : Int32} {hp : mjH} {q : Option Value × mjH} (h : f_199 R a0 a1 hp = some q) : mjM (d + 1) 0 0 199 [.ref a0, .int a1] hp (mjEq q) :=
  mjM_of Ja_199 (Nat.le_of_ble_eq_true rfl) (mjG.fg (lo' := [some (.ref a0), some (.int a1)]) (And.intro rfl (And.intro rfl True.intro)) ((t_199_0 hR (Nat.le_refl 0) (Nat.le_refl 0)) a0 a1 hp q h))
def J_200 : mjI := (⟨"OwnerHeap$Walker", "objectPast", "(II)I"⟩, 10, prog_12_method_19_code, 6, (some .int), 2, false)
theorem Ja_200 : mjMt 200 = some J_200 := by rfl
theorem D_200_0 : decode J_200.2.2.1 0 = .ok (.aload_n 0, 1) := dzq_42 (by decide +kernel)
theorem D_200_1 : decode J_200.2.2.1 1 = .ok (.invokevirtual 93, 3) := dzq_182 (by decide +kernel)
theorem D_200_4 : decode J_200.2.2.1 4 = .ok (.aload_n 0, 1) := dzq_42 (by decide +kernel)
theorem D_200_5 : decode J_200.2.2.1 5 = .ok (.iload_n 1, 1) := dzq_27 (by decide +kernel)
theorem D_200_6 : decode J_200.2.2.1 6 = .ok (.invokevirtual 102, 3) := dzq_182 (by decide +kernel)
theorem D_200_9 : decode J_200.2.2.1 9 = .ok (.ifCond .ne 5, 3) := dzq_154 (by decide +kernel)
theorem D_200_12 : decode J_200.2.2.1 12 = .ok (.iconst (-1), 1) := dzq_2 (by decide +kernel)
theorem D_200_13 : decode J_200.2.2.1 13 = .ok (.ireturn, 1) := dzq_172 (by decide +kernel)
theorem D_200_14 : decode J_200.2.2.1 14 = .ok (.aload_n 0, 1) := dzq_42 (by decide +kernel)
theorem D_200_15 : decode J_200.2.2.1 15 = .ok (.iconst 0, 1) := dzq_3 (by decide +kernel)
theorem D_200_16 : decode J_200.2.2.1 16 = .ok (.aload_n 0, 1) := dzq_42 (by decide +kernel)
theorem D_200_17 : decode J_200.2.2.1 17 = .ok (.getfield 9, 3) := dzq_180 (by decide +kernel)
theorem D_200_20 : decode J_200.2.2.1 20 = .ok (.iload_n 1, 1) := dzq_27 (by decide +kernel)
theorem D_200_21 : decode J_200.2.2.1 21 = .ok (.iconst 0, 1) := dzq_3 (by decide +kernel)
theorem D_200_22 : decode J_200.2.2.1 22 = .ok (.invokevirtual 58, 3) := dzq_182 (by decide +kernel)
theorem D_200_25 : decode J_200.2.2.1 25 = .ok (.invokevirtual 87, 3) := dzq_182 (by decide +kernel)
theorem D_200_28 : decode J_200.2.2.1 28 = .ok (.aload_n 0, 1) := dzq_42 (by decide +kernel)
theorem D_200_29 : decode J_200.2.2.1 29 = .ok (.iload_n 1, 1) := dzq_27 (by decide +kernel)
theorem D_200_30 : decode J_200.2.2.1 30 = .ok (.invokevirtual 90, 3) := dzq_182 (by decide +kernel)
theorem D_200_33 : decode J_200.2.2.1 33 = .ok (.istore_n 3, 1) := dzq_62 (by decide +kernel)
theorem D_200_34 : decode J_200.2.2.1 34 = .ok (.iload_n 2, 1) := dzq_28 (by decide +kernel)
theorem D_200_35 : decode J_200.2.2.1 35 = .ok (.ifCond .lt 8, 3) := dzq_155 (by decide +kernel)
theorem D_200_38 : decode J_200.2.2.1 38 = .ok (.iload_n 2, 1) := dzq_28 (by decide +kernel)
theorem D_200_39 : decode J_200.2.2.1 39 = .ok (.iload_n 3, 1) := dzq_29 (by decide +kernel)
theorem D_200_40 : decode J_200.2.2.1 40 = .ok (.if_icmp .le 5, 3) := dzq_164 (by decide +kernel)
theorem D_200_43 : decode J_200.2.2.1 43 = .ok (.iconst (-1), 1) := dzq_2 (by decide +kernel)
theorem D_200_44 : decode J_200.2.2.1 44 = .ok (.ireturn, 1) := dzq_172 (by decide +kernel)
theorem D_200_45 : decode J_200.2.2.1 45 = .ok (.iload_n 1, 1) := dzq_27 (by decide +kernel)
theorem D_200_46 : decode J_200.2.2.1 46 = .ok (.istore 4, 2) := dzq_54 (by decide +kernel)
theorem D_200_48 : decode J_200.2.2.1 48 = .ok (.iload_n 3, 1) := dzq_29 (by decide +kernel)
theorem D_200_49 : decode J_200.2.2.1 49 = .ok (.istore 5, 2) := dzq_54 (by decide +kernel)
theorem D_200_51 : decode J_200.2.2.1 51 = .ok (.iload 5, 2) := dzq_21 (by decide +kernel)
theorem D_200_53 : decode J_200.2.2.1 53 = .ok (.iload_n 2, 1) := dzq_28 (by decide +kernel)
theorem D_200_54 : decode J_200.2.2.1 54 = .ok (.if_icmp .le 18, 3) := dzq_164 (by decide +kernel)
theorem D_200_57 : decode J_200.2.2.1 57 = .ok (.aload_n 0, 1) := dzq_42 (by decide +kernel)
theorem D_200_58 : decode J_200.2.2.1 58 = .ok (.getfield 25, 3) := dzq_180 (by decide +kernel)
theorem D_200_61 : decode J_200.2.2.1 61 = .ok (.iload 4, 2) := dzq_21 (by decide +kernel)
theorem D_200_63 : decode J_200.2.2.1 63 = .ok (.iaload, 1) := dzq_46 (by decide +kernel)
theorem D_200_64 : decode J_200.2.2.1 64 = .ok (.istore 4, 2) := dzq_54 (by decide +kernel)
theorem D_200_66 : decode J_200.2.2.1 66 = .ok (.iinc 5 (-1), 3) := dzq_132 (by decide +kernel)
theorem D_200_69 : decode J_200.2.2.1 69 = .ok (.goto (-18), 3) := dzq_167 (by decide +kernel)
theorem D_200_72 : decode J_200.2.2.1 72 = .ok (.iload 4, 2) := dzq_21 (by decide +kernel)
theorem D_200_74 : decode J_200.2.2.1 74 = .ok (.ireturn, 1) := dzq_172 (by decide +kernel)
def P_200_43 (X : mjX) (d C S kc ks : Nat) (k : mjH → mjU) : Prop := ∀  (hp : mjH) (q : Option Value × mjH), k  hp = some q → mjG X d C S J_200 (mjEq q) 43 [none, none, none, none, none, none] [] hp kc ks
def P_200_51 (X : mjX) (d C S kc ks : Nat) (k : Nat → Int32 → Int32 → Int32 → mjH → mjU) : Prop := ∀ (l0 : Nat) (l2 : Int32) (l4 : Int32) (l5 : Int32) (hp : mjH) (q : Option Value × mjH), k l0 l2 l4 l5 hp = some q → mjG X d C S J_200 (mjEq q) 51 [some (.ref l0), none, some (.int l2), none, some (.int l4), some (.int l5)] [] hp kc ks
def P_200_0 (X : mjX) (d C S kc ks : Nat) (k : Nat → Int32 → Int32 → mjH → mjU) : Prop := ∀ (l0 : Nat) (l1 : Int32) (l2 : Int32) (hp : mjH) (q : Option Value × mjH), k l0 l1 l2 hp = some q → mjG X d C S J_200 (mjEq q) 0 [some (.ref l0), some (.int l1), some (.int l2), none, none, none] [] hp kc ks
noncomputable def b_200_43 (R : mjR)  (hp : mjH) : mjU := some (some (.int (-1 : Int32)), hp)
theorem t_200_43 {X : mjX} {d C S kc ks : Nat} {R : mjR} (hR : mjC R d) (h1 : kc ≤ C) (h2 : ks ≤ S) : P_200_43 X (d + 1) C S kc ks (b_200_43 R) := by
  intro  hp q h
  unfold b_200_43 at h
  refine mjq_ic (v := (-1 : Int32)) D_200_43 rfl ?_
  exact mjq_ret D_200_44 rfl h1 h2 h
noncomputable def b_200_51 (R : mjR) (k51 : Nat → Int32 → Int32 → Int32 → mjH → mjU) (l0 : Nat) (l2 : Int32) (l4 : Int32) (l5 : Int32) (hp : mjH) : mjU := (if l5 ≤ l2 then some (some (.int l4), hp) else gR hp l0 10 4 (fun v1 => aI hp v1 l4 (fun v2 => k51 l0 l2 v2 (l5 + (-1 : Int32)) hp)))
theorem t_200_51 {X : mjX} {d C S kc ks : Nat} {R : mjR} (hR : mjC R d) (h1 : kc ≤ C) (h2 : ks ≤ S) {k51 : Nat → Int32 → Int32 → Int32 → mjH → mjU} (hk51 : P_200_51 X (d + 1) C S kc ks k51) : P_200_51 X (d + 1) C S kc ks (b_200_51 R k51) := by
  intro l0 l2 l4 l5 hp q h
  unfold b_200_51 at h
  refine mjr_iload (x := l5) D_200_51 rfl ?_
  refine mjr_iload_n (x := l2) D_200_53 rfl ?_
  refine mjq_icmp_le (tgt := 72) D_200_54 rfl h (fun h => ?_) (fun h => ?_)
  · refine mjr_iload (x := l4) D_200_72 rfl ?_
    exact mjq_ret D_200_74 rfl h1 h2 h
  · refine mjr_aload_n (x := l0) D_200_57 rfl ?_
    refine mjq_gR D_200_58 fr_10_25 h (fun v1 h => ?_)
    refine mjr_iload (x := l4) D_200_61 rfl ?_
    refine mjq_aI D_200_63 h (fun v2 h => ?_)
    refine mjq_istore (lo' := [some (.ref l0), none, some (.int l2), none, some (.int v2), some (.int l5)]) D_200_64 (Nat.le_of_ble_eq_true rfl) rfl ?_
    refine mjq_iinc (x := l5) (c := (-1 : Int32)) (lo' := [some (.ref l0), none, some (.int l2), none, some (.int v2), some (.int (l5 + (-1 : Int32)))]) D_200_66 rfl (Nat.le_of_ble_eq_true rfl) rfl rfl ?_
    refine mjr_goto (tgt := 51) D_200_69 rfl ?_
    exact hk51 _ _ _ _ _ _ h
noncomputable def L_200_51 (R : mjR) (n : Nat) : Nat → Int32 → Int32 → Int32 → mjH → mjU := Nat.rec (motive := fun _ => Nat → Int32 → Int32 → Int32 → mjH → mjU) (fun _ _ _ _ _ => none) (fun _ self => b_200_51 R self) n
theorem T_200_51 {X : mjX} {d C S kc ks : Nat} {R : mjR} (hR : mjC R d) (h1 : kc ≤ C) (h2 : ks ≤ S) (n : Nat) : P_200_51 X (d + 1) C S kc ks (L_200_51 R n) := by
  induction n with
  | zero => intro _ _ _ _ _ _ h; exact mj_no h
  | succ n ih => exact t_200_51 hR h1 h2 ih
noncomputable def b_200_0 (R : mjR) (l0 : Nat) (l1 : Int32) (l2 : Int32) (hp : mjH) : mjU := rV hp l0 10 (bN (R 193 [.ref l0] hp) (fun  hp1 => rV hp1 l0 10 (bI (R 197 [.ref l0, .int l1] hp1) (fun v2 hp3 => (if v2 = 0 then some (some (.int (-1 : Int32)), hp3) else gR hp3 l0 10 0 (fun v4 => rV hp3 v4 3 (bI (R 49 [.ref v4, .int l1, .int (0 : Int32)] hp3) (fun v5 hp6 => rV hp6 l0 10 (bN (R 186 [.ref l0, .int (0 : Int32), .int v5] hp6) (fun  hp7 => rV hp7 l0 10 (bI (R 191 [.ref l0, .int l1] hp7) (fun v8 hp9 => (if l2 < 0 then b_200_43 R hp9 else (if l2 ≤ v8 then L_200_51 R mjN l0 l2 l1 v8 hp9 else b_200_43 R hp9))))))))))))))
theorem t_200_0 {X : mjX} {d C S kc ks : Nat} {R : mjR} (hR : mjC R d) (h1 : kc ≤ C) (h2 : ks ≤ S) : P_200_0 X (d + 1) C S kc ks (b_200_0 R) := by
  intro l0 l1 l2 hp q h
  unfold b_200_0 at h
  refine mjr_aload_n (x := l0) D_200_0 rfl ?_
  refine mjq_vN (As := []) (rest := []) D_200_1 mr_10_93 V_193 rfl rfl rfl hR (Nat.le_refl _) h1 h2 h (fun  hp1 h => ?_)
  refine mjr_aload_n (x := l0) D_200_4 rfl ?_
  refine mjr_iload_n (x := l1) D_200_5 rfl ?_
  refine mjq_vI (As := [.int l1]) (rest := []) D_200_6 mr_10_102 V_197 rfl rfl rfl hR (Nat.le_refl _) h1 h2 h (fun v2 hp3 h => ?_)
  refine mjq_if_ne (tgt := 14) D_200_9 rfl h (fun h => ?_) (fun h => ?_)
  · refine mjr_aload_n (x := l0) D_200_14 rfl ?_
    refine mjq_ic (v := (0 : Int32)) D_200_15 rfl ?_
    refine mjr_aload_n (x := l0) D_200_16 rfl ?_
    refine mjq_gR D_200_17 fr_10_9 h (fun v4 h => ?_)
    refine mjr_iload_n (x := l1) D_200_20 rfl ?_
    refine mjq_ic (v := (0 : Int32)) D_200_21 rfl ?_
    refine mjq_vI (As := [.int l1, .int (0 : Int32)]) (rest := [.int (0 : Int32), .ref l0]) D_200_22 mr_10_58 V_49 rfl rfl rfl hR (Nat.le_refl _) h1 h2 h (fun v5 hp6 h => ?_)
    refine mjq_vN (As := [.int (0 : Int32), .int v5]) (rest := []) D_200_25 mr_10_87 V_186 rfl rfl rfl hR (Nat.le_refl _) h1 h2 h (fun  hp7 h => ?_)
    refine mjr_aload_n (x := l0) D_200_28 rfl ?_
    refine mjr_iload_n (x := l1) D_200_29 rfl ?_
    refine mjq_vI (As := [.int l1]) (rest := []) D_200_30 mr_10_90 V_191 rfl rfl rfl hR (Nat.le_refl _) h1 h2 h (fun v8 hp9 h => ?_)
    refine mjq_istore_n (lo' := [some (.ref l0), some (.int l1), some (.int l2), some (.int v8), none, none]) D_200_33 (Nat.le_of_ble_eq_true rfl) rfl ?_
    refine mjr_iload_n (x := l2) D_200_34 rfl ?_
    refine mjq_if_lt (tgt := 43) D_200_35 rfl h (fun h => ?_) (fun h => ?_)
    · exact mjG.fg (lo' := [none, none, none, none, none, none]) True.intro ((t_200_43 hR h1 h2) _ _ h)
    · refine mjr_iload_n (x := l2) D_200_38 rfl ?_
      refine mjr_iload_n (x := v8) D_200_39 rfl ?_
      refine mjq_icmp_le (tgt := 45) D_200_40 rfl h (fun h => ?_) (fun h => ?_)
      · refine mjr_iload_n (x := l1) D_200_45 rfl ?_
        refine mjq_istore (lo' := [some (.ref l0), some (.int l1), some (.int l2), some (.int v8), some (.int l1), none]) D_200_46 (Nat.le_of_ble_eq_true rfl) rfl ?_
        refine mjr_iload_n (x := v8) D_200_48 rfl ?_
        refine mjq_istore (lo' := [some (.ref l0), some (.int l1), some (.int l2), some (.int v8), some (.int l1), some (.int v8)]) D_200_49 (Nat.le_of_ble_eq_true rfl) rfl ?_
        exact mjG.fg (lo' := [some (.ref l0), none, some (.int l2), none, some (.int l1), some (.int v8)]) (And.intro rfl (And.intro rfl (And.intro rfl (And.intro rfl True.intro)))) ((T_200_51 hR h1 h2 mjN) _ _ _ _ _ _ h)
      · exact mjG.fg (lo' := [none, none, none, none, none, none]) True.intro ((t_200_43 hR h1 h2) _ _ h)
  · refine mjq_ic (v := (-1 : Int32)) D_200_12 rfl ?_
    exact mjq_ret D_200_13 rfl h1 h2 h
noncomputable def f_200 (R : mjR) (a0 : Nat) (a1 : Int32) (a2 : Int32) (hp : mjH) : mjU := b_200_0 R a0 a1 a2 hp
theorem c_200 {R : mjR} {d : Nat} (hR : mjC R d) {a0 : Nat} {a1 : Int32} {a2 : Int32} {hp : mjH} {q : Option Value × mjH} (h : f_200 R a0 a1 a2 hp = some q) : mjM (d + 1) 0 0 200 [.ref a0, .int a1, .int a2] hp (mjEq q) :=
  mjM_of Ja_200 (Nat.le_of_ble_eq_true rfl) (mjG.fg (lo' := [some (.ref a0), some (.int a1), some (.int a2), none, none, none]) (And.intro rfl (And.intro rfl (And.intro rfl True.intro))) ((t_200_0 hR (Nat.le_refl 0) (Nat.le_refl 0)) a0 a1 a2 hp q h))
def J_202 : mjI := (⟨"OwnerHeap", "feed", "(IIIII)I"⟩, 11, prog_1_method_2_code, 6, (some .int), 5, false)
theorem Ja_202 : mjMt 202 = some J_202 := by rfl
theorem D_202_0 : decode J_202.2.2.1 0 = .ok (.aload_n 0, 1) := dzq_42 (by decide +kernel)
theorem D_202_1 : decode J_202.2.2.1 1 = .ok (.getfield 87, 3) := dzq_180 (by decide +kernel)
theorem D_202_4 : decode J_202.2.2.1 4 = .ok (.bipush 20, 2) := dzq_16 (by decide +kernel)
theorem D_202_6 : decode J_202.2.2.1 6 = .ok (.iadd, 1) := dzq_96 (by decide +kernel)
theorem D_202_7 : decode J_202.2.2.1 7 = .ok (.sipush 3000, 3) := dzq_17 (by decide +kernel)
theorem D_202_10 : decode J_202.2.2.1 10 = .ok (.if_icmp .le 5, 3) := dzq_164 (by decide +kernel)
theorem D_202_13 : decode J_202.2.2.1 13 = .ok (.iconst (-1), 1) := dzq_2 (by decide +kernel)
theorem D_202_14 : decode J_202.2.2.1 14 = .ok (.ireturn, 1) := dzq_172 (by decide +kernel)
theorem D_202_15 : decode J_202.2.2.1 15 = .ok (.aload_n 0, 1) := dzq_42 (by decide +kernel)
theorem D_202_16 : decode J_202.2.2.1 16 = .ok (.iload_n 1, 1) := dzq_27 (by decide +kernel)
theorem D_202_17 : decode J_202.2.2.1 17 = .ok (.invokevirtual 90, 3) := dzq_182 (by decide +kernel)
theorem D_202_20 : decode J_202.2.2.1 20 = .ok (.aload_n 0, 1) := dzq_42 (by decide +kernel)
theorem D_202_21 : decode J_202.2.2.1 21 = .ok (.iload_n 2, 1) := dzq_28 (by decide +kernel)
theorem D_202_22 : decode J_202.2.2.1 22 = .ok (.invokevirtual 90, 3) := dzq_182 (by decide +kernel)
theorem D_202_25 : decode J_202.2.2.1 25 = .ok (.aload_n 0, 1) := dzq_42 (by decide +kernel)
theorem D_202_26 : decode J_202.2.2.1 26 = .ok (.iload_n 3, 1) := dzq_29 (by decide +kernel)
theorem D_202_27 : decode J_202.2.2.1 27 = .ok (.invokevirtual 90, 3) := dzq_182 (by decide +kernel)
theorem D_202_30 : decode J_202.2.2.1 30 = .ok (.aload_n 0, 1) := dzq_42 (by decide +kernel)
theorem D_202_31 : decode J_202.2.2.1 31 = .ok (.iload 4, 2) := dzq_21 (by decide +kernel)
theorem D_202_33 : decode J_202.2.2.1 33 = .ok (.invokevirtual 90, 3) := dzq_182 (by decide +kernel)
theorem D_202_36 : decode J_202.2.2.1 36 = .ok (.aload_n 0, 1) := dzq_42 (by decide +kernel)
theorem D_202_37 : decode J_202.2.2.1 37 = .ok (.iload 5, 2) := dzq_21 (by decide +kernel)
theorem D_202_39 : decode J_202.2.2.1 39 = .ok (.invokevirtual 90, 3) := dzq_182 (by decide +kernel)
theorem D_202_42 : decode J_202.2.2.1 42 = .ok (.aload_n 0, 1) := dzq_42 (by decide +kernel)
theorem D_202_43 : decode J_202.2.2.1 43 = .ok (.getfield 87, 3) := dzq_180 (by decide +kernel)
theorem D_202_46 : decode J_202.2.2.1 46 = .ok (.ireturn, 1) := dzq_172 (by decide +kernel)
def P_202_0 (X : mjX) (d C S kc ks : Nat) (k : Nat → Int32 → Int32 → Int32 → Int32 → Int32 → mjH → mjU) : Prop := ∀ (l0 : Nat) (l1 : Int32) (l2 : Int32) (l3 : Int32) (l4 : Int32) (l5 : Int32) (hp : mjH) (q : Option Value × mjH), k l0 l1 l2 l3 l4 l5 hp = some q → mjG X d C S J_202 (mjEq q) 0 [some (.ref l0), some (.int l1), some (.int l2), some (.int l3), some (.int l4), some (.int l5)] [] hp kc ks
noncomputable def b_202_0 (R : mjR) (l0 : Nat) (l1 : Int32) (l2 : Int32) (l3 : Int32) (l4 : Int32) (l5 : Int32) (hp : mjH) : mjU := gI hp l0 11 1 (fun v1 => (if (v1 + (20 : Int32)) ≤ (3000 : Int32) then rV hp l0 11 (bN (R 203 [.ref l0, .int l1] hp) (fun  hp2 => rV hp2 l0 11 (bN (R 203 [.ref l0, .int l2] hp2) (fun  hp3 => rV hp3 l0 11 (bN (R 203 [.ref l0, .int l3] hp3) (fun  hp4 => rV hp4 l0 11 (bN (R 203 [.ref l0, .int l4] hp4) (fun  hp5 => rV hp5 l0 11 (bN (R 203 [.ref l0, .int l5] hp5) (fun  hp6 => gI hp6 l0 11 1 (fun v7 => some (some (.int v7), hp6)))))))))))) else some (some (.int (-1 : Int32)), hp)))
theorem t_202_0 {X : mjX} {d C S kc ks : Nat} {R : mjR} (hR : mjC R d) (h1 : kc ≤ C) (h2 : ks ≤ S) : P_202_0 X (d + 1) C S kc ks (b_202_0 R) := by
  intro l0 l1 l2 l3 l4 l5 hp q h
  unfold b_202_0 at h
  refine mjr_aload_n (x := l0) D_202_0 rfl ?_
  refine mjq_gI D_202_1 fr_11_87 h (fun v1 h => ?_)
  refine mjq_bi (v := (20 : Int32)) D_202_4 rfl ?_
  refine mjr_iadd D_202_6 ?_
  refine mjq_si (v := (3000 : Int32)) D_202_7 rfl ?_
  refine mjq_icmp_le (tgt := 15) D_202_10 rfl h (fun h => ?_) (fun h => ?_)
  · refine mjr_aload_n (x := l0) D_202_15 rfl ?_
    refine mjr_iload_n (x := l1) D_202_16 rfl ?_
    refine mjq_vN (As := [.int l1]) (rest := []) D_202_17 mr_11_90 V_203 rfl rfl rfl hR (Nat.le_refl _) h1 h2 h (fun  hp2 h => ?_)
    refine mjr_aload_n (x := l0) D_202_20 rfl ?_
    refine mjr_iload_n (x := l2) D_202_21 rfl ?_
    refine mjq_vN (As := [.int l2]) (rest := []) D_202_22 mr_11_90 V_203 rfl rfl rfl hR (Nat.le_refl _) h1 h2 h (fun  hp3 h => ?_)
    refine mjr_aload_n (x := l0) D_202_25 rfl ?_
    refine mjr_iload_n (x := l3) D_202_26 rfl ?_
    refine mjq_vN (As := [.int l3]) (rest := []) D_202_27 mr_11_90 V_203 rfl rfl rfl hR (Nat.le_refl _) h1 h2 h (fun  hp4 h => ?_)
    refine mjr_aload_n (x := l0) D_202_30 rfl ?_
    refine mjr_iload (x := l4) D_202_31 rfl ?_
    refine mjq_vN (As := [.int l4]) (rest := []) D_202_33 mr_11_90 V_203 rfl rfl rfl hR (Nat.le_refl _) h1 h2 h (fun  hp5 h => ?_)
    refine mjr_aload_n (x := l0) D_202_36 rfl ?_
    refine mjr_iload (x := l5) D_202_37 rfl ?_
    refine mjq_vN (As := [.int l5]) (rest := []) D_202_39 mr_11_90 V_203 rfl rfl rfl hR (Nat.le_refl _) h1 h2 h (fun  hp6 h => ?_)
    refine mjr_aload_n (x := l0) D_202_42 rfl ?_
    refine mjq_gI D_202_43 fr_11_87 h (fun v7 h => ?_)
    exact mjq_ret D_202_46 rfl h1 h2 h
  · refine mjq_ic (v := (-1 : Int32)) D_202_13 rfl ?_
    exact mjq_ret D_202_14 rfl h1 h2 h
noncomputable def f_202 (R : mjR) (a0 : Nat) (a1 : Int32) (a2 : Int32) (a3 : Int32) (a4 : Int32) (a5 : Int32) (hp : mjH) : mjU := b_202_0 R a0 a1 a2 a3 a4 a5 hp
theorem c_202 {R : mjR} {d : Nat} (hR : mjC R d) {a0 : Nat} {a1 : Int32} {a2 : Int32} {a3 : Int32} {a4 : Int32} {a5 : Int32} {hp : mjH} {q : Option Value × mjH} (h : f_202 R a0 a1 a2 a3 a4 a5 hp = some q) : mjM (d + 1) 0 0 202 [.ref a0, .int a1, .int a2, .int a3, .int a4, .int a5] hp (mjEq q) :=
  mjM_of Ja_202 (Nat.le_of_ble_eq_true rfl) (mjG.fg (lo' := [some (.ref a0), some (.int a1), some (.int a2), some (.int a3), some (.int a4), some (.int a5)]) (And.intro rfl (And.intro rfl (And.intro rfl (And.intro rfl (And.intro rfl (And.intro rfl True.intro)))))) ((t_202_0 hR (Nat.le_refl 0) (Nat.le_refl 0)) a0 a1 a2 a3 a4 a5 hp q h))
def J_203 : mjI := (⟨"OwnerHeap", "tapeInt", "(I)V"⟩, 11, prog_1_method_3_code, 3, none, 1, false)
theorem Ja_203 : mjMt 203 = some J_203 := by rfl
theorem D_203_0 : decode J_203.2.2.1 0 = .ok (.bipush 24, 2) := dzq_16 (by decide +kernel)
theorem D_203_2 : decode J_203.2.2.1 2 = .ok (.istore_n 2, 1) := dzq_61 (by decide +kernel)
theorem D_203_3 : decode J_203.2.2.1 3 = .ok (.iload_n 2, 1) := dzq_28 (by decide +kernel)
theorem D_203_4 : decode J_203.2.2.1 4 = .ok (.ifCond .lt 42, 3) := dzq_155 (by decide +kernel)
theorem D_203_7 : decode J_203.2.2.1 7 = .ok (.aload_n 0, 1) := dzq_42 (by decide +kernel)
theorem D_203_8 : decode J_203.2.2.1 8 = .ok (.getfield 87, 3) := dzq_180 (by decide +kernel)
theorem D_203_11 : decode J_203.2.2.1 11 = .ok (.sipush 3000, 3) := dzq_17 (by decide +kernel)
theorem D_203_14 : decode J_203.2.2.1 14 = .ok (.if_icmp .ge 32, 3) := dzq_162 (by decide +kernel)
theorem D_203_17 : decode J_203.2.2.1 17 = .ok (.aload_n 0, 1) := dzq_42 (by decide +kernel)
theorem D_203_18 : decode J_203.2.2.1 18 = .ok (.getfield 9, 3) := dzq_180 (by decide +kernel)
theorem D_203_21 : decode J_203.2.2.1 21 = .ok (.aload_n 0, 1) := dzq_42 (by decide +kernel)
theorem D_203_22 : decode J_203.2.2.1 22 = .ok (.getfield 87, 3) := dzq_180 (by decide +kernel)
theorem D_203_25 : decode J_203.2.2.1 25 = .ok (.iload_n 1, 1) := dzq_27 (by decide +kernel)
theorem D_203_26 : decode J_203.2.2.1 26 = .ok (.iload_n 2, 1) := dzq_28 (by decide +kernel)
theorem D_203_27 : decode J_203.2.2.1 27 = .ok (.ishr, 1) := by decide +kernel
theorem D_203_28 : decode J_203.2.2.1 28 = .ok (.i2b, 1) := by decide +kernel
theorem D_203_29 : decode J_203.2.2.1 29 = .ok (.bastore, 1) := by decide +kernel
theorem D_203_30 : decode J_203.2.2.1 30 = .ok (.aload_n 0, 1) := dzq_42 (by decide +kernel)
theorem D_203_31 : decode J_203.2.2.1 31 = .ok (.dup, 1) := dzq_89 (by decide +kernel)
theorem D_203_32 : decode J_203.2.2.1 32 = .ok (.getfield 87, 3) := dzq_180 (by decide +kernel)
theorem D_203_35 : decode J_203.2.2.1 35 = .ok (.iconst 1, 1) := dzq_4 (by decide +kernel)
theorem D_203_36 : decode J_203.2.2.1 36 = .ok (.iadd, 1) := dzq_96 (by decide +kernel)
theorem D_203_37 : decode J_203.2.2.1 37 = .ok (.putfield 87, 3) := dzq_181 (by decide +kernel)
theorem D_203_40 : decode J_203.2.2.1 40 = .ok (.iinc 2 (-8), 3) := dzq_132 (by decide +kernel)
theorem D_203_43 : decode J_203.2.2.1 43 = .ok (.goto (-40), 3) := dzq_167 (by decide +kernel)
theorem D_203_46 : decode J_203.2.2.1 46 = .ok (.return_, 1) := dzq_177 (by decide +kernel)
def P_203_3 (X : mjX) (d C S kc ks : Nat) (k : Nat → Int32 → Int32 → mjH → mjU) : Prop := ∀ (l0 : Nat) (l1 : Int32) (l2 : Int32) (hp : mjH) (q : Option Value × mjH), k l0 l1 l2 hp = some q → mjG X d C S J_203 (mjEq q) 3 [some (.ref l0), some (.int l1), some (.int l2)] [] hp kc ks
def P_203_0 (X : mjX) (d C S kc ks : Nat) (k : Nat → Int32 → mjH → mjU) : Prop := ∀ (l0 : Nat) (l1 : Int32) (hp : mjH) (q : Option Value × mjH), k l0 l1 hp = some q → mjG X d C S J_203 (mjEq q) 0 [some (.ref l0), some (.int l1), none] [] hp kc ks
noncomputable def b_203_3 (R : mjR) (k3 : Nat → Int32 → Int32 → mjH → mjU) (l0 : Nat) (l1 : Int32) (l2 : Int32) (hp : mjH) : mjU := (if l2 < 0 then some (none, hp) else gI hp l0 11 1 (fun v1 => (if (3000 : Int32) ≤ v1 then some (none, hp) else gR hp l0 11 0 (fun v2 => gI hp l0 11 1 (fun v3 => sB hp v2 v3 ((l1 >>> (l2 &&& 31))).toInt8.toInt32 (fun hp4 => gI hp4 l0 11 1 (fun v5 => pI hp4 l0 11 1 (v5 + (1 : Int32)) (fun hp6 => k3 l0 l1 (l2 + (-8 : Int32)) hp6))))))))
theorem t_203_3 {X : mjX} {d C S kc ks : Nat} {R : mjR} (hR : mjC R d) (h1 : kc ≤ C) (h2 : ks ≤ S) {k3 : Nat → Int32 → Int32 → mjH → mjU} (hk3 : P_203_3 X (d + 1) C S kc ks k3) : P_203_3 X (d + 1) C S kc ks (b_203_3 R k3) := by
  intro l0 l1 l2 hp q h
  unfold b_203_3 at h
  refine mjr_iload_n (x := l2) D_203_3 rfl ?_
  refine mjq_if_lt (tgt := 46) D_203_4 rfl h (fun h => ?_) (fun h => ?_)
  · exact mjq_nret D_203_46 rfl h1 h2 h
  · refine mjr_aload_n (x := l0) D_203_7 rfl ?_
    refine mjq_gI D_203_8 fr_11_87 h (fun v1 h => ?_)
    refine mjq_si (v := (3000 : Int32)) D_203_11 rfl ?_
    refine mjq_icmp_ge (tgt := 46) D_203_14 rfl h (fun h => ?_) (fun h => ?_)
    · exact mjq_nret D_203_46 rfl h1 h2 h
    · refine mjr_aload_n (x := l0) D_203_17 rfl ?_
      refine mjq_gR D_203_18 fr_11_9 h (fun v2 h => ?_)
      refine mjr_aload_n (x := l0) D_203_21 rfl ?_
      refine mjq_gI D_203_22 fr_11_87 h (fun v3 h => ?_)
      refine mjr_iload_n (x := l1) D_203_25 rfl ?_
      refine mjr_iload_n (x := l2) D_203_26 rfl ?_
      refine mjr_ishr D_203_27 ?_
      refine mjr_i2b D_203_28 ?_
      refine mjq_sB D_203_29 h (fun hp4 h => ?_)
      refine mjr_aload_n (x := l0) D_203_30 rfl ?_
      refine mjr_dup D_203_31 rfl ?_
      refine mjq_gI D_203_32 fr_11_87 h (fun v5 h => ?_)
      refine mjq_ic (v := (1 : Int32)) D_203_35 rfl ?_
      refine mjr_iadd D_203_36 ?_
      refine mjq_pI D_203_37 fr_11_87 rfl rfl h (fun hp6 h => ?_)
      refine mjq_iinc (x := l2) (c := (-8 : Int32)) (lo' := [some (.ref l0), some (.int l1), some (.int (l2 + (-8 : Int32)))]) D_203_40 rfl (Nat.le_of_ble_eq_true rfl) rfl rfl ?_
      refine mjr_goto (tgt := 3) D_203_43 rfl ?_
      exact hk3 _ _ _ _ _ h
noncomputable def L_203_3 (R : mjR) (n : Nat) : Nat → Int32 → Int32 → mjH → mjU := Nat.rec (motive := fun _ => Nat → Int32 → Int32 → mjH → mjU) (fun _ _ _ _ => none) (fun _ self => b_203_3 R self) n
theorem T_203_3 {X : mjX} {d C S kc ks : Nat} {R : mjR} (hR : mjC R d) (h1 : kc ≤ C) (h2 : ks ≤ S) (n : Nat) : P_203_3 X (d + 1) C S kc ks (L_203_3 R n) := by
  induction n with
  | zero => intro _ _ _ _ _ h; exact mj_no h
  | succ n ih => exact t_203_3 hR h1 h2 ih
noncomputable def b_203_0 (R : mjR) (l0 : Nat) (l1 : Int32) (hp : mjH) : mjU := L_203_3 R mjN l0 l1 (24 : Int32) hp
theorem t_203_0 {X : mjX} {d C S kc ks : Nat} {R : mjR} (hR : mjC R d) (h1 : kc ≤ C) (h2 : ks ≤ S) : P_203_0 X (d + 1) C S kc ks (b_203_0 R) := by
  intro l0 l1 hp q h
  unfold b_203_0 at h
  refine mjq_bi (v := (24 : Int32)) D_203_0 rfl ?_
  refine mjq_istore_n (lo' := [some (.ref l0), some (.int l1), some (.int (24 : Int32))]) D_203_2 (Nat.le_of_ble_eq_true rfl) rfl ?_
  exact (T_203_3 hR h1 h2 mjN) _ _ _ _ _ h
noncomputable def f_203 (R : mjR) (a0 : Nat) (a1 : Int32) (hp : mjH) : mjU := b_203_0 R a0 a1 hp
theorem c_203 {R : mjR} {d : Nat} (hR : mjC R d) {a0 : Nat} {a1 : Int32} {hp : mjH} {q : Option Value × mjH} (h : f_203 R a0 a1 hp = some q) : mjM (d + 1) 0 0 203 [.ref a0, .int a1] hp (mjEq q) :=
  mjM_of Ja_203 (Nat.le_of_ble_eq_true rfl) (mjG.fg (lo' := [some (.ref a0), some (.int a1), none]) (And.intro rfl (And.intro rfl True.intro)) ((t_203_0 hR (Nat.le_refl 0) (Nat.le_refl 0)) a0 a1 hp q h))
def J_204 : mjI := (⟨"OwnerHeap", "load", "(IZ)I"⟩, 11, prog_1_method_4_code, 3, (some .int), 2, false)
theorem Ja_204 : mjMt 204 = some J_204 := by rfl
theorem D_204_0 : decode J_204.2.2.1 0 = .ok (.iload_n 1, 1) := dzq_27 (by decide +kernel)
theorem D_204_1 : decode J_204.2.2.1 1 = .ok (.ifCond .lt 11, 3) := dzq_155 (by decide +kernel)
theorem D_204_4 : decode J_204.2.2.1 4 = .ok (.iload_n 1, 1) := dzq_27 (by decide +kernel)
theorem D_204_5 : decode J_204.2.2.1 5 = .ok (.aload_n 0, 1) := dzq_42 (by decide +kernel)
theorem D_204_6 : decode J_204.2.2.1 6 = .ok (.getfield 87, 3) := dzq_180 (by decide +kernel)
theorem D_204_9 : decode J_204.2.2.1 9 = .ok (.if_icmp .le 5, 3) := dzq_164 (by decide +kernel)
theorem D_204_12 : decode J_204.2.2.1 12 = .ok (.iconst (-1), 1) := dzq_2 (by decide +kernel)
theorem D_204_13 : decode J_204.2.2.1 13 = .ok (.ireturn, 1) := dzq_172 (by decide +kernel)
theorem D_204_14 : decode J_204.2.2.1 14 = .ok (.aload_n 0, 1) := dzq_42 (by decide +kernel)
theorem D_204_15 : decode J_204.2.2.1 15 = .ok (.iconst 0, 1) := dzq_3 (by decide +kernel)
theorem D_204_16 : decode J_204.2.2.1 16 = .ok (.putfield 87, 3) := dzq_181 (by decide +kernel)
theorem D_204_19 : decode J_204.2.2.1 19 = .ok (.aload_n 0, 1) := dzq_42 (by decide +kernel)
theorem D_204_20 : decode J_204.2.2.1 20 = .ok (.getfield 26, 3) := dzq_180 (by decide +kernel)
theorem D_204_23 : decode J_204.2.2.1 23 = .ok (.aload_n 0, 1) := dzq_42 (by decide +kernel)
theorem D_204_24 : decode J_204.2.2.1 24 = .ok (.getfield 9, 3) := dzq_180 (by decide +kernel)
theorem D_204_27 : decode J_204.2.2.1 27 = .ok (.iload_n 1, 1) := dzq_27 (by decide +kernel)
theorem D_204_28 : decode J_204.2.2.1 28 = .ok (.invokevirtual 94, 3) := dzq_182 (by decide +kernel)
theorem D_204_31 : decode J_204.2.2.1 31 = .ok (.aload_n 0, 1) := dzq_42 (by decide +kernel)
theorem D_204_32 : decode J_204.2.2.1 32 = .ok (.getfield 20, 3) := dzq_180 (by decide +kernel)
theorem D_204_35 : decode J_204.2.2.1 35 = .ok (.invokevirtual 98, 3) := dzq_182 (by decide +kernel)
theorem D_204_38 : decode J_204.2.2.1 38 = .ok (.aload_n 0, 1) := dzq_42 (by decide +kernel)
theorem D_204_39 : decode J_204.2.2.1 39 = .ok (.getfield 35, 3) := dzq_180 (by decide +kernel)
theorem D_204_42 : decode J_204.2.2.1 42 = .ok (.aload_n 0, 1) := dzq_42 (by decide +kernel)
theorem D_204_43 : decode J_204.2.2.1 43 = .ok (.getfield 20, 3) := dzq_180 (by decide +kernel)
theorem D_204_46 : decode J_204.2.2.1 46 = .ok (.invokevirtual 101, 3) := dzq_182 (by decide +kernel)
theorem D_204_49 : decode J_204.2.2.1 49 = .ok (.aload_n 0, 1) := dzq_42 (by decide +kernel)
theorem D_204_50 : decode J_204.2.2.1 50 = .ok (.getfield 26, 3) := dzq_180 (by decide +kernel)
theorem D_204_53 : decode J_204.2.2.1 53 = .ok (.invokevirtual 105, 3) := dzq_182 (by decide +kernel)
theorem D_204_56 : decode J_204.2.2.1 56 = .ok (.ifCond .eq 15, 3) := dzq_153 (by decide +kernel)
theorem D_204_59 : decode J_204.2.2.1 59 = .ok (.aload_n 0, 1) := dzq_42 (by decide +kernel)
theorem D_204_60 : decode J_204.2.2.1 60 = .ok (.getfield 44, 3) := dzq_180 (by decide +kernel)
theorem D_204_63 : decode J_204.2.2.1 63 = .ok (.aload_n 0, 1) := dzq_42 (by decide +kernel)
theorem D_204_64 : decode J_204.2.2.1 64 = .ok (.getfield 20, 3) := dzq_180 (by decide +kernel)
theorem D_204_67 : decode J_204.2.2.1 67 = .ok (.iload_n 2, 1) := dzq_28 (by decide +kernel)
theorem D_204_68 : decode J_204.2.2.1 68 = .ok (.invokevirtual 109, 3) := dzq_182 (by decide +kernel)
theorem D_204_71 : decode J_204.2.2.1 71 = .ok (.aload_n 0, 1) := dzq_42 (by decide +kernel)
theorem D_204_72 : decode J_204.2.2.1 72 = .ok (.getfield 26, 3) := dzq_180 (by decide +kernel)
theorem D_204_75 : decode J_204.2.2.1 75 = .ok (.invokevirtual 105, 3) := dzq_182 (by decide +kernel)
theorem D_204_78 : decode J_204.2.2.1 78 = .ok (.ifCond .eq 14, 3) := dzq_153 (by decide +kernel)
theorem D_204_81 : decode J_204.2.2.1 81 = .ok (.aload_n 0, 1) := dzq_42 (by decide +kernel)
theorem D_204_82 : decode J_204.2.2.1 82 = .ok (.getfield 53, 3) := dzq_180 (by decide +kernel)
theorem D_204_85 : decode J_204.2.2.1 85 = .ok (.aload_n 0, 1) := dzq_42 (by decide +kernel)
theorem D_204_86 : decode J_204.2.2.1 86 = .ok (.getfield 20, 3) := dzq_180 (by decide +kernel)
theorem D_204_89 : decode J_204.2.2.1 89 = .ok (.invokevirtual 113, 3) := dzq_182 (by decide +kernel)
theorem D_204_92 : decode J_204.2.2.1 92 = .ok (.aload_n 0, 1) := dzq_42 (by decide +kernel)
theorem D_204_93 : decode J_204.2.2.1 93 = .ok (.aload_n 0, 1) := dzq_42 (by decide +kernel)
theorem D_204_94 : decode J_204.2.2.1 94 = .ok (.getfield 26, 3) := dzq_180 (by decide +kernel)
theorem D_204_97 : decode J_204.2.2.1 97 = .ok (.getfield 116, 3) := dzq_180 (by decide +kernel)
theorem D_204_100 : decode J_204.2.2.1 100 = .ok (.putfield 57, 3) := dzq_181 (by decide +kernel)
theorem D_204_103 : decode J_204.2.2.1 103 = .ok (.aload_n 0, 1) := dzq_42 (by decide +kernel)
theorem D_204_104 : decode J_204.2.2.1 104 = .ok (.aload_n 0, 1) := dzq_42 (by decide +kernel)
theorem D_204_105 : decode J_204.2.2.1 105 = .ok (.getfield 26, 3) := dzq_180 (by decide +kernel)
theorem D_204_108 : decode J_204.2.2.1 108 = .ok (.getfield 117, 3) := dzq_180 (by decide +kernel)
theorem D_204_111 : decode J_204.2.2.1 111 = .ok (.putfield 61, 3) := dzq_181 (by decide +kernel)
theorem D_204_114 : decode J_204.2.2.1 114 = .ok (.aload_n 0, 1) := dzq_42 (by decide +kernel)
theorem D_204_115 : decode J_204.2.2.1 115 = .ok (.getfield 57, 3) := dzq_180 (by decide +kernel)
theorem D_204_118 : decode J_204.2.2.1 118 = .ok (.ifCond .ne 7, 3) := dzq_154 (by decide +kernel)
theorem D_204_121 : decode J_204.2.2.1 121 = .ok (.aload_n 0, 1) := dzq_42 (by decide +kernel)
theorem D_204_122 : decode J_204.2.2.1 122 = .ok (.invokevirtual 118, 3) := dzq_182 (by decide +kernel)
theorem D_204_125 : decode J_204.2.2.1 125 = .ok (.aload_n 0, 1) := dzq_42 (by decide +kernel)
theorem D_204_126 : decode J_204.2.2.1 126 = .ok (.getfield 57, 3) := dzq_180 (by decide +kernel)
theorem D_204_129 : decode J_204.2.2.1 129 = .ok (.ireturn, 1) := dzq_172 (by decide +kernel)
def P_204_12 (X : mjX) (d C S kc ks : Nat) (k : mjH → mjU) : Prop := ∀  (hp : mjH) (q : Option Value × mjH), k  hp = some q → mjG X d C S J_204 (mjEq q) 12 [none, none, none] [] hp kc ks
def P_204_125 (X : mjX) (d C S kc ks : Nat) (k : Nat → mjH → mjU) : Prop := ∀ (l0 : Nat) (hp : mjH) (q : Option Value × mjH), k l0 hp = some q → mjG X d C S J_204 (mjEq q) 125 [some (.ref l0), none, none] [] hp kc ks
def P_204_92 (X : mjX) (d C S kc ks : Nat) (k : Nat → mjH → mjU) : Prop := ∀ (l0 : Nat) (hp : mjH) (q : Option Value × mjH), k l0 hp = some q → mjG X d C S J_204 (mjEq q) 92 [some (.ref l0), none, none] [] hp kc ks
def P_204_71 (X : mjX) (d C S kc ks : Nat) (k : Nat → mjH → mjU) : Prop := ∀ (l0 : Nat) (hp : mjH) (q : Option Value × mjH), k l0 hp = some q → mjG X d C S J_204 (mjEq q) 71 [some (.ref l0), none, none] [] hp kc ks
def P_204_0 (X : mjX) (d C S kc ks : Nat) (k : Nat → Int32 → Int32 → mjH → mjU) : Prop := ∀ (l0 : Nat) (l1 : Int32) (l2 : Int32) (hp : mjH) (q : Option Value × mjH), k l0 l1 l2 hp = some q → mjG X d C S J_204 (mjEq q) 0 [some (.ref l0), some (.int l1), some (.int l2)] [] hp kc ks
noncomputable def b_204_12 (R : mjR)  (hp : mjH) : mjU := some (some (.int (-1 : Int32)), hp)
theorem t_204_12 {X : mjX} {d C S kc ks : Nat} {R : mjR} (hR : mjC R d) (h1 : kc ≤ C) (h2 : ks ≤ S) : P_204_12 X (d + 1) C S kc ks (b_204_12 R) := by
  intro  hp q h
  unfold b_204_12 at h
  refine mjq_ic (v := (-1 : Int32)) D_204_12 rfl ?_
  exact mjq_ret D_204_13 rfl h1 h2 h
noncomputable def b_204_125 (R : mjR) (l0 : Nat) (hp : mjH) : mjU := gI hp l0 11 9 (fun v1 => some (some (.int v1), hp))
theorem t_204_125 {X : mjX} {d C S kc ks : Nat} {R : mjR} (hR : mjC R d) (h1 : kc ≤ C) (h2 : ks ≤ S) : P_204_125 X (d + 1) C S kc ks (b_204_125 R) := by
  intro l0 hp q h
  unfold b_204_125 at h
  refine mjr_aload_n (x := l0) D_204_125 rfl ?_
  refine mjq_gI D_204_126 fr_11_57 h (fun v1 h => ?_)
  exact mjq_ret D_204_129 rfl h1 h2 h
noncomputable def b_204_92 (R : mjR) (l0 : Nat) (hp : mjH) : mjU := gR hp l0 11 2 (fun v1 => gI hp v1 9 7 (fun v2 => pI hp l0 11 9 v2 (fun hp3 => gR hp3 l0 11 2 (fun v4 => gI hp3 v4 9 8 (fun v5 => pI hp3 l0 11 10 v5 (fun hp6 => gI hp6 l0 11 9 (fun v7 => (if v7 = 0 then rV hp6 l0 11 (bN (R 205 [.ref l0] hp6) (fun  hp8 => b_204_125 R l0 hp8)) else b_204_125 R l0 hp6))))))))
theorem t_204_92 {X : mjX} {d C S kc ks : Nat} {R : mjR} (hR : mjC R d) (h1 : kc ≤ C) (h2 : ks ≤ S) : P_204_92 X (d + 1) C S kc ks (b_204_92 R) := by
  intro l0 hp q h
  unfold b_204_92 at h
  refine mjr_aload_n (x := l0) D_204_92 rfl ?_
  refine mjr_aload_n (x := l0) D_204_93 rfl ?_
  refine mjq_gR D_204_94 fr_11_26 h (fun v1 h => ?_)
  refine mjq_gI D_204_97 fr_11_116 h (fun v2 h => ?_)
  refine mjq_pI D_204_100 fr_11_57 rfl rfl h (fun hp3 h => ?_)
  refine mjr_aload_n (x := l0) D_204_103 rfl ?_
  refine mjr_aload_n (x := l0) D_204_104 rfl ?_
  refine mjq_gR D_204_105 fr_11_26 h (fun v4 h => ?_)
  refine mjq_gI D_204_108 fr_11_117 h (fun v5 h => ?_)
  refine mjq_pI D_204_111 fr_11_61 rfl rfl h (fun hp6 h => ?_)
  refine mjr_aload_n (x := l0) D_204_114 rfl ?_
  refine mjq_gI D_204_115 fr_11_57 h (fun v7 h => ?_)
  refine mjq_if_ne (tgt := 125) D_204_118 rfl h (fun h => ?_) (fun h => ?_)
  · exact (t_204_125 hR h1 h2) _ _ _ h
  · refine mjr_aload_n (x := l0) D_204_121 rfl ?_
    refine mjq_vN (As := []) (rest := []) D_204_122 mr_11_118 V_205 rfl rfl rfl hR (Nat.le_refl _) h1 h2 h (fun  hp8 h => ?_)
    exact (t_204_125 hR h1 h2) _ _ _ h
noncomputable def b_204_71 (R : mjR) (l0 : Nat) (hp : mjH) : mjU := gR hp l0 11 2 (fun v1 => rV hp v1 9 (bI (R 172 [.ref v1] hp) (fun v2 hp3 => (if v2 = 0 then b_204_92 R l0 hp3 else gR hp3 l0 11 5 (fun v4 => gR hp3 l0 11 7 (fun v5 => rV hp3 v4 1 (bN (R 4 [.ref v4, .ref v5] hp3) (fun  hp6 => b_204_92 R l0 hp6))))))))
theorem t_204_71 {X : mjX} {d C S kc ks : Nat} {R : mjR} (hR : mjC R d) (h1 : kc ≤ C) (h2 : ks ≤ S) : P_204_71 X (d + 1) C S kc ks (b_204_71 R) := by
  intro l0 hp q h
  unfold b_204_71 at h
  refine mjr_aload_n (x := l0) D_204_71 rfl ?_
  refine mjq_gR D_204_72 fr_11_26 h (fun v1 h => ?_)
  refine mjq_vI (As := []) (rest := []) D_204_75 mr_11_105 V_172 rfl rfl rfl hR (Nat.le_refl _) h1 h2 h (fun v2 hp3 h => ?_)
  refine mjq_if_eq (tgt := 92) D_204_78 rfl h (fun h => ?_) (fun h => ?_)
  · exact (t_204_92 hR h1 h2) _ _ _ h
  · refine mjr_aload_n (x := l0) D_204_81 rfl ?_
    refine mjq_gR D_204_82 fr_11_53 h (fun v4 h => ?_)
    refine mjr_aload_n (x := l0) D_204_85 rfl ?_
    refine mjq_gR D_204_86 fr_11_20 h (fun v5 h => ?_)
    refine mjq_vN (As := [.ref v5]) (rest := []) D_204_89 mr_11_113 V_4 rfl rfl rfl hR (Nat.le_refl _) h1 h2 h (fun  hp6 h => ?_)
    exact (t_204_92 hR h1 h2) _ _ _ h
noncomputable def b_204_0 (R : mjR) (l0 : Nat) (l1 : Int32) (l2 : Int32) (hp : mjH) : mjU := (if l1 < 0 then b_204_12 R hp else gI hp l0 11 1 (fun v1 => (if l1 ≤ v1 then pI hp l0 11 1 (0 : Int32) (fun hp2 => gR hp2 l0 11 2 (fun v3 => gR hp2 l0 11 0 (fun v4 => rV hp2 v3 9 (bN (R 154 [.ref v3, .ref v4, .int l1] hp2) (fun  hp5 => gR hp5 l0 11 7 (fun v6 => rV hp5 v6 7 (bN (R 101 [.ref v6] hp5) (fun  hp7 => gR hp7 l0 11 3 (fun v8 => gR hp7 l0 11 7 (fun v9 => rV hp7 v8 8 (bN (R 126 [.ref v8, .ref v9] hp7) (fun  hp10 => gR hp10 l0 11 2 (fun v11 => rV hp10 v11 9 (bI (R 172 [.ref v11] hp10) (fun v12 hp13 => (if v12 = 0 then b_204_71 R l0 hp13 else gR hp13 l0 11 4 (fun v14 => gR hp13 l0 11 7 (fun v15 => rV hp13 v14 4 (bN (R 54 [.ref v14, .ref v15, .int l2] hp13) (fun  hp16 => b_204_71 R l0 hp16)))))))))))))))))))) else b_204_12 R hp)))
theorem t_204_0 {X : mjX} {d C S kc ks : Nat} {R : mjR} (hR : mjC R d) (h1 : kc ≤ C) (h2 : ks ≤ S) : P_204_0 X (d + 1) C S kc ks (b_204_0 R) := by
  intro l0 l1 l2 hp q h
  unfold b_204_0 at h
  refine mjr_iload_n (x := l1) D_204_0 rfl ?_
  refine mjq_if_lt (tgt := 12) D_204_1 rfl h (fun h => ?_) (fun h => ?_)
  · exact mjG.fg (lo' := [none, none, none]) True.intro ((t_204_12 hR h1 h2) _ _ h)
  · refine mjr_iload_n (x := l1) D_204_4 rfl ?_
    refine mjr_aload_n (x := l0) D_204_5 rfl ?_
    refine mjq_gI D_204_6 fr_11_87 h (fun v1 h => ?_)
    refine mjq_icmp_le (tgt := 14) D_204_9 rfl h (fun h => ?_) (fun h => ?_)
    · refine mjr_aload_n (x := l0) D_204_14 rfl ?_
      refine mjq_ic (v := (0 : Int32)) D_204_15 rfl ?_
      refine mjq_pI D_204_16 fr_11_87 rfl rfl h (fun hp2 h => ?_)
      refine mjr_aload_n (x := l0) D_204_19 rfl ?_
      refine mjq_gR D_204_20 fr_11_26 h (fun v3 h => ?_)
      refine mjr_aload_n (x := l0) D_204_23 rfl ?_
      refine mjq_gR D_204_24 fr_11_9 h (fun v4 h => ?_)
      refine mjr_iload_n (x := l1) D_204_27 rfl ?_
      refine mjq_vN (As := [.ref v4, .int l1]) (rest := []) D_204_28 mr_11_94 V_154 rfl rfl rfl hR (Nat.le_refl _) h1 h2 h (fun  hp5 h => ?_)
      refine mjr_aload_n (x := l0) D_204_31 rfl ?_
      refine mjq_gR D_204_32 fr_11_20 h (fun v6 h => ?_)
      refine mjq_vN (As := []) (rest := []) D_204_35 mr_11_98 V_101 rfl rfl rfl hR (Nat.le_refl _) h1 h2 h (fun  hp7 h => ?_)
      refine mjr_aload_n (x := l0) D_204_38 rfl ?_
      refine mjq_gR D_204_39 fr_11_35 h (fun v8 h => ?_)
      refine mjr_aload_n (x := l0) D_204_42 rfl ?_
      refine mjq_gR D_204_43 fr_11_20 h (fun v9 h => ?_)
      refine mjq_vN (As := [.ref v9]) (rest := []) D_204_46 mr_11_101 V_126 rfl rfl rfl hR (Nat.le_refl _) h1 h2 h (fun  hp10 h => ?_)
      refine mjr_aload_n (x := l0) D_204_49 rfl ?_
      refine mjq_gR D_204_50 fr_11_26 h (fun v11 h => ?_)
      refine mjq_vI (As := []) (rest := []) D_204_53 mr_11_105 V_172 rfl rfl rfl hR (Nat.le_refl _) h1 h2 h (fun v12 hp13 h => ?_)
      refine mjq_if_eq (tgt := 71) D_204_56 rfl h (fun h => ?_) (fun h => ?_)
      · exact mjG.fg (lo' := [some (.ref l0), none, none]) (And.intro rfl True.intro) ((t_204_71 hR h1 h2) _ _ _ h)
      · refine mjr_aload_n (x := l0) D_204_59 rfl ?_
        refine mjq_gR D_204_60 fr_11_44 h (fun v14 h => ?_)
        refine mjr_aload_n (x := l0) D_204_63 rfl ?_
        refine mjq_gR D_204_64 fr_11_20 h (fun v15 h => ?_)
        refine mjr_iload_n (x := l2) D_204_67 rfl ?_
        refine mjq_vN (As := [.ref v15, .int l2]) (rest := []) D_204_68 mr_11_109 V_54 rfl rfl rfl hR (Nat.le_refl _) h1 h2 h (fun  hp16 h => ?_)
        exact mjG.fg (lo' := [some (.ref l0), none, none]) (And.intro rfl True.intro) ((t_204_71 hR h1 h2) _ _ _ h)
    · exact mjG.fg (lo' := [none, none, none]) True.intro ((t_204_12 hR h1 h2) _ _ h)
noncomputable def f_204 (R : mjR) (a0 : Nat) (a1 : Int32) (a2 : Int32) (hp : mjH) : mjU := b_204_0 R a0 a1 a2 hp
theorem c_204 {R : mjR} {d : Nat} (hR : mjC R d) {a0 : Nat} {a1 : Int32} {a2 : Int32} {hp : mjH} {q : Option Value × mjH} (h : f_204 R a0 a1 a2 hp = some q) : mjM (d + 1) 0 0 204 [.ref a0, .int a1, .int a2] hp (mjEq q) :=
  mjM_of Ja_204 (Nat.le_of_ble_eq_true rfl) (mjG.fg (lo' := [some (.ref a0), some (.int a1), some (.int a2)]) (And.intro rfl (And.intro rfl (And.intro rfl True.intro))) ((t_204_0 hR (Nat.le_refl 0) (Nat.le_refl 0)) a0 a1 a2 hp q h))
def J_205 : mjI := (⟨"OwnerHeap", "takeSpare", "()V"⟩, 11, prog_1_method_5_code, 2, none, 0, false)
theorem Ja_205 : mjMt 205 = some J_205 := by rfl
theorem D_205_0 : decode J_205.2.2.1 0 = .ok (.aload_n 0, 1) := dzq_42 (by decide +kernel)
theorem D_205_1 : decode J_205.2.2.1 1 = .ok (.getfield 16, 3) := dzq_180 (by decide +kernel)
theorem D_205_4 : decode J_205.2.2.1 4 = .ok (.astore_n 1, 1) := by decide +kernel
theorem D_205_5 : decode J_205.2.2.1 5 = .ok (.aload_n 0, 1) := dzq_42 (by decide +kernel)
theorem D_205_6 : decode J_205.2.2.1 6 = .ok (.aload_n 0, 1) := dzq_42 (by decide +kernel)
theorem D_205_7 : decode J_205.2.2.1 7 = .ok (.getfield 20, 3) := dzq_180 (by decide +kernel)
theorem D_205_10 : decode J_205.2.2.1 10 = .ok (.putfield 16, 3) := dzq_181 (by decide +kernel)
theorem D_205_13 : decode J_205.2.2.1 13 = .ok (.aload_n 0, 1) := dzq_42 (by decide +kernel)
theorem D_205_14 : decode J_205.2.2.1 14 = .ok (.aload_n 1, 1) := dzq_43 (by decide +kernel)
theorem D_205_15 : decode J_205.2.2.1 15 = .ok (.putfield 20, 3) := dzq_181 (by decide +kernel)
theorem D_205_18 : decode J_205.2.2.1 18 = .ok (.aload_n 0, 1) := dzq_42 (by decide +kernel)
theorem D_205_19 : decode J_205.2.2.1 19 = .ok (.iconst 1, 1) := dzq_4 (by decide +kernel)
theorem D_205_20 : decode J_205.2.2.1 20 = .ok (.putfield 121, 3) := dzq_181 (by decide +kernel)
theorem D_205_23 : decode J_205.2.2.1 23 = .ok (.aload_n 0, 1) := dzq_42 (by decide +kernel)
theorem D_205_24 : decode J_205.2.2.1 24 = .ok (.getfield 76, 3) := dzq_180 (by decide +kernel)
theorem D_205_27 : decode J_205.2.2.1 27 = .ok (.invokevirtual 125, 3) := dzq_182 (by decide +kernel)
theorem D_205_30 : decode J_205.2.2.1 30 = .ok (.aload_n 0, 1) := dzq_42 (by decide +kernel)
theorem D_205_31 : decode J_205.2.2.1 31 = .ok (.getfield 83, 3) := dzq_180 (by decide +kernel)
theorem D_205_34 : decode J_205.2.2.1 34 = .ok (.invokevirtual 128, 3) := dzq_182 (by decide +kernel)
theorem D_205_37 : decode J_205.2.2.1 37 = .ok (.return_, 1) := dzq_177 (by decide +kernel)
def P_205_0 (X : mjX) (d C S kc ks : Nat) (k : Nat → mjH → mjU) : Prop := ∀ (l0 : Nat) (hp : mjH) (q : Option Value × mjH), k l0 hp = some q → mjG X d C S J_205 (mjEq q) 0 [some (.ref l0), none] [] hp kc ks
noncomputable def b_205_0 (R : mjR) (l0 : Nat) (hp : mjH) : mjU := gR hp l0 11 6 (fun v1 => gR hp l0 11 7 (fun v2 => pR hp l0 11 6 v2 (fun hp3 => pR hp3 l0 11 7 v1 (fun hp4 => pZ hp4 l0 11 8 (1 : Int32) (fun hp5 => gR hp5 l0 11 12 (fun v6 => rV hp5 v6 5 (bN (R 73 [.ref v6] hp5) (fun  hp7 => gR hp7 l0 11 13 (fun v8 => rV hp7 v8 10 (bN (R 183 [.ref v8] hp7) (fun  hp9 => some (none, hp9))))))))))))
theorem t_205_0 {X : mjX} {d C S kc ks : Nat} {R : mjR} (hR : mjC R d) (h1 : kc ≤ C) (h2 : ks ≤ S) : P_205_0 X (d + 1) C S kc ks (b_205_0 R) := by
  intro l0 hp q h
  unfold b_205_0 at h
  refine mjr_aload_n (x := l0) D_205_0 rfl ?_
  refine mjq_gR D_205_1 fr_11_16 h (fun v1 h => ?_)
  refine mjq_astore_n (lo' := [some (.ref l0), some (.ref v1)]) D_205_4 (Nat.le_of_ble_eq_true rfl) rfl ?_
  refine mjr_aload_n (x := l0) D_205_5 rfl ?_
  refine mjr_aload_n (x := l0) D_205_6 rfl ?_
  refine mjq_gR D_205_7 fr_11_20 h (fun v2 h => ?_)
  refine mjq_pR D_205_10 fr_11_16 rfl (fun _ => ⟨rfl, rfl⟩) h (fun hp3 h => ?_)
  refine mjr_aload_n (x := l0) D_205_13 rfl ?_
  refine mjr_aload_n (x := v1) D_205_14 rfl ?_
  refine mjq_pR D_205_15 fr_11_20 rfl (fun _ => ⟨rfl, rfl⟩) h (fun hp4 h => ?_)
  refine mjr_aload_n (x := l0) D_205_18 rfl ?_
  refine mjq_ic (v := (1 : Int32)) D_205_19 rfl ?_
  refine mjq_pZ D_205_20 fr_11_121 rfl rfl h (fun hp5 h => ?_)
  refine mjr_aload_n (x := l0) D_205_23 rfl ?_
  refine mjq_gR D_205_24 fr_11_76 h (fun v6 h => ?_)
  refine mjq_vN (As := []) (rest := []) D_205_27 mr_11_125 V_73 rfl rfl rfl hR (Nat.le_refl _) h1 h2 h (fun  hp7 h => ?_)
  refine mjr_aload_n (x := l0) D_205_30 rfl ?_
  refine mjq_gR D_205_31 fr_11_83 h (fun v8 h => ?_)
  refine mjq_vN (As := []) (rest := []) D_205_34 mr_11_128 V_183 rfl rfl rfl hR (Nat.le_refl _) h1 h2 h (fun  hp9 h => ?_)
  exact mjq_nret D_205_37 rfl h1 h2 h
noncomputable def f_205 (R : mjR) (a0 : Nat) (hp : mjH) : mjU := b_205_0 R a0 hp
theorem c_205 {R : mjR} {d : Nat} (hR : mjC R d) {a0 : Nat} {hp : mjH} {q : Option Value × mjH} (h : f_205 R a0 hp = some q) : mjM (d + 1) 0 0 205 [.ref a0] hp (mjEq q) :=
  mjM_of Ja_205 (Nat.le_of_ble_eq_true rfl) (mjG.fg (lo' := [some (.ref a0), none]) (And.intro rfl True.intro) ((t_205_0 hR (Nat.le_refl 0) (Nat.le_refl 0)) a0 hp q h))
def J_206 : mjI := (⟨"OwnerHeap", "fault", "(I)I"⟩, 11, prog_1_method_6_code, 2, (some .int), 1, false)
theorem Ja_206 : mjMt 206 = some J_206 := by rfl
theorem D_206_0 : decode J_206.2.2.1 0 = .ok (.iload_n 1, 1) := dzq_27 (by decide +kernel)
theorem D_206_1 : decode J_206.2.2.1 1 = .ok (.ifCond .ne 8, 3) := dzq_154 (by decide +kernel)
theorem D_206_4 : decode J_206.2.2.1 4 = .ok (.aload_n 0, 1) := dzq_42 (by decide +kernel)
theorem D_206_5 : decode J_206.2.2.1 5 = .ok (.getfield 57, 3) := dzq_180 (by decide +kernel)
theorem D_206_8 : decode J_206.2.2.1 8 = .ok (.ireturn, 1) := dzq_172 (by decide +kernel)
theorem D_206_9 : decode J_206.2.2.1 9 = .ok (.iload_n 1, 1) := dzq_27 (by decide +kernel)
theorem D_206_10 : decode J_206.2.2.1 10 = .ok (.iconst 1, 1) := dzq_4 (by decide +kernel)
theorem D_206_11 : decode J_206.2.2.1 11 = .ok (.if_icmp .ne 10, 3) := dzq_160 (by decide +kernel)
theorem D_206_14 : decode J_206.2.2.1 14 = .ok (.aload_n 0, 1) := dzq_42 (by decide +kernel)
theorem D_206_15 : decode J_206.2.2.1 15 = .ok (.getfield 61, 3) := dzq_180 (by decide +kernel)
theorem D_206_18 : decode J_206.2.2.1 18 = .ok (.goto 4, 3) := dzq_167 (by decide +kernel)
theorem D_206_21 : decode J_206.2.2.1 21 = .ok (.iconst (-1), 1) := dzq_2 (by decide +kernel)
theorem D_206_22 : decode J_206.2.2.1 22 = .ok (.ireturn, 1) := dzq_172 (by decide +kernel)
def P_206_0 (X : mjX) (d C S kc ks : Nat) (k : Nat → Int32 → mjH → mjU) : Prop := ∀ (l0 : Nat) (l1 : Int32) (hp : mjH) (q : Option Value × mjH), k l0 l1 hp = some q → mjG X d C S J_206 (mjEq q) 0 [some (.ref l0), some (.int l1)] [] hp kc ks
noncomputable def b_206_0 (R : mjR) (l0 : Nat) (l1 : Int32) (hp : mjH) : mjU := (if l1 = 0 then gI hp l0 11 9 (fun v2 => some (some (.int v2), hp)) else (if l1 = (1 : Int32) then gI hp l0 11 10 (fun v1 => some (some (.int v1), hp)) else some (some (.int (-1 : Int32)), hp)))
theorem t_206_0 {X : mjX} {d C S kc ks : Nat} {R : mjR} (hR : mjC R d) (h1 : kc ≤ C) (h2 : ks ≤ S) : P_206_0 X (d + 1) C S kc ks (b_206_0 R) := by
  intro l0 l1 hp q h
  unfold b_206_0 at h
  refine mjr_iload_n (x := l1) D_206_0 rfl ?_
  refine mjq_if_ne (tgt := 9) D_206_1 rfl h (fun h => ?_) (fun h => ?_)
  · refine mjr_iload_n (x := l1) D_206_9 rfl ?_
    refine mjq_ic (v := (1 : Int32)) D_206_10 rfl ?_
    refine mjq_icmp_ne (tgt := 21) D_206_11 rfl h (fun h => ?_) (fun h => ?_)
    · refine mjq_ic (v := (-1 : Int32)) D_206_21 rfl ?_
      exact mjq_ret D_206_22 rfl h1 h2 h
    · refine mjr_aload_n (x := l0) D_206_14 rfl ?_
      refine mjq_gI D_206_15 fr_11_61 h (fun v1 h => ?_)
      refine mjr_goto (tgt := 22) D_206_18 rfl ?_
      exact mjq_ret D_206_22 rfl h1 h2 h
  · refine mjr_aload_n (x := l0) D_206_4 rfl ?_
    refine mjq_gI D_206_5 fr_11_57 h (fun v2 h => ?_)
    exact mjq_ret D_206_8 rfl h1 h2 h
noncomputable def f_206 (R : mjR) (a0 : Nat) (a1 : Int32) (hp : mjH) : mjU := b_206_0 R a0 a1 hp
theorem c_206 {R : mjR} {d : Nat} (hR : mjC R d) {a0 : Nat} {a1 : Int32} {hp : mjH} {q : Option Value × mjH} (h : f_206 R a0 a1 hp = some q) : mjM (d + 1) 0 0 206 [.ref a0, .int a1] hp (mjEq q) :=
  mjM_of Ja_206 (Nat.le_of_ble_eq_true rfl) (mjG.fg (lo' := [some (.ref a0), some (.int a1)]) (And.intro rfl (And.intro rfl True.intro)) ((t_206_0 hR (Nat.le_refl 0) (Nat.le_refl 0)) a0 a1 hp q h))
