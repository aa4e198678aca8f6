def J_322 : mjI := (⟨"OwnerHeapModel", "judgeBody", "(I)V"⟩, 12, prog_14_method_72_code, 3, none, 1, false)
theorem Ja_322 : mjMt 322 = some J_322 := by rfl
theorem D_322_0 : decode J_322.2.2.1 0 = .ok (.aload_n 0, 1) := dzq_42 (by decide +kernel)
theorem D_322_1 : decode J_322.2.2.1 1 = .ok (.iload_n 1, 1) := dzq_27 (by decide +kernel)
theorem D_322_2 : decode J_322.2.2.1 2 = .ok (.putfield 579, 3) := dzq_181 (by decide +kernel)
theorem D_322_5 : decode J_322.2.2.1 5 = .ok (.aload_n 0, 1) := dzq_42 (by decide +kernel)
theorem D_322_6 : decode J_322.2.2.1 6 = .ok (.iload_n 1, 1) := dzq_27 (by decide +kernel)
theorem D_322_7 : decode J_322.2.2.1 7 = .ok (.iconst (-1), 1) := dzq_2 (by decide +kernel)
theorem D_322_8 : decode J_322.2.2.1 8 = .ok (.if_icmp .ne 7, 3) := dzq_160 (by decide +kernel)
theorem D_322_11 : decode J_322.2.2.1 11 = .ok (.iconst (-1), 1) := dzq_2 (by decide +kernel)
theorem D_322_12 : decode J_322.2.2.1 12 = .ok (.goto 9, 3) := dzq_167 (by decide +kernel)
theorem D_322_15 : decode J_322.2.2.1 15 = .ok (.aload_n 0, 1) := dzq_42 (by decide +kernel)
theorem D_322_16 : decode J_322.2.2.1 16 = .ok (.getfield 91, 3) := dzq_180 (by decide +kernel)
theorem D_322_19 : decode J_322.2.2.1 19 = .ok (.iload_n 1, 1) := dzq_27 (by decide +kernel)
theorem D_322_20 : decode J_322.2.2.1 20 = .ok (.iaload, 1) := dzq_46 (by decide +kernel)
theorem D_322_21 : decode J_322.2.2.1 21 = .ok (.putfield 582, 3) := dzq_181 (by decide +kernel)
theorem D_322_24 : decode J_322.2.2.1 24 = .ok (.aload_n 0, 1) := dzq_42 (by decide +kernel)
theorem D_322_25 : decode J_322.2.2.1 25 = .ok (.iconst 0, 1) := dzq_3 (by decide +kernel)
theorem D_322_26 : decode J_322.2.2.1 26 = .ok (.putfield 567, 3) := dzq_181 (by decide +kernel)
theorem D_322_29 : decode J_322.2.2.1 29 = .ok (.aload_n 0, 1) := dzq_42 (by decide +kernel)
theorem D_322_30 : decode J_322.2.2.1 30 = .ok (.iconst 0, 1) := dzq_3 (by decide +kernel)
theorem D_322_31 : decode J_322.2.2.1 31 = .ok (.putfield 585, 3) := dzq_181 (by decide +kernel)
theorem D_322_34 : decode J_322.2.2.1 34 = .ok (.aload_n 0, 1) := dzq_42 (by decide +kernel)
theorem D_322_35 : decode J_322.2.2.1 35 = .ok (.iconst 0, 1) := dzq_3 (by decide +kernel)
theorem D_322_36 : decode J_322.2.2.1 36 = .ok (.putfield 588, 3) := dzq_181 (by decide +kernel)
theorem D_322_39 : decode J_322.2.2.1 39 = .ok (.aload_n 0, 1) := dzq_42 (by decide +kernel)
theorem D_322_40 : decode J_322.2.2.1 40 = .ok (.iconst 0, 1) := dzq_3 (by decide +kernel)
theorem D_322_41 : decode J_322.2.2.1 41 = .ok (.putfield 591, 3) := dzq_181 (by decide +kernel)
theorem D_322_44 : decode J_322.2.2.1 44 = .ok (.iload_n 1, 1) := dzq_27 (by decide +kernel)
theorem D_322_45 : decode J_322.2.2.1 45 = .ok (.iconst (-1), 1) := dzq_2 (by decide +kernel)
theorem D_322_46 : decode J_322.2.2.1 46 = .ok (.if_icmp .eq 79, 3) := dzq_159 (by decide +kernel)
theorem D_322_49 : decode J_322.2.2.1 49 = .ok (.iconst 0, 1) := dzq_3 (by decide +kernel)
theorem D_322_50 : decode J_322.2.2.1 50 = .ok (.istore_n 2, 1) := dzq_61 (by decide +kernel)
theorem D_322_51 : decode J_322.2.2.1 51 = .ok (.iload_n 2, 1) := dzq_28 (by decide +kernel)
theorem D_322_52 : decode J_322.2.2.1 52 = .ok (.aload_n 0, 1) := dzq_42 (by decide +kernel)
theorem D_322_53 : decode J_322.2.2.1 53 = .ok (.getfield 103, 3) := dzq_180 (by decide +kernel)
theorem D_322_56 : decode J_322.2.2.1 56 = .ok (.iload_n 1, 1) := dzq_27 (by decide +kernel)
theorem D_322_57 : decode J_322.2.2.1 57 = .ok (.iaload, 1) := dzq_46 (by decide +kernel)
theorem D_322_58 : decode J_322.2.2.1 58 = .ok (.if_icmp .ge 67, 3) := dzq_162 (by decide +kernel)
theorem D_322_61 : decode J_322.2.2.1 61 = .ok (.aload_n 0, 1) := dzq_42 (by decide +kernel)
theorem D_322_62 : decode J_322.2.2.1 62 = .ok (.getfield 200, 3) := dzq_180 (by decide +kernel)
theorem D_322_65 : decode J_322.2.2.1 65 = .ok (.iload_n 2, 1) := dzq_28 (by decide +kernel)
theorem D_322_66 : decode J_322.2.2.1 66 = .ok (.aload_n 0, 1) := dzq_42 (by decide +kernel)
theorem D_322_67 : decode J_322.2.2.1 67 = .ok (.getfield 124, 3) := dzq_180 (by decide +kernel)
theorem D_322_70 : decode J_322.2.2.1 70 = .ok (.bipush 6, 2) := dzq_16 (by decide +kernel)
theorem D_322_72 : decode J_322.2.2.1 72 = .ok (.iload_n 1, 1) := dzq_27 (by decide +kernel)
theorem D_322_73 : decode J_322.2.2.1 73 = .ok (.imul, 1) := dzq_104 (by decide +kernel)
theorem D_322_74 : decode J_322.2.2.1 74 = .ok (.iload_n 2, 1) := dzq_28 (by decide +kernel)
theorem D_322_75 : decode J_322.2.2.1 75 = .ok (.iadd, 1) := dzq_96 (by decide +kernel)
theorem D_322_76 : decode J_322.2.2.1 76 = .ok (.laload, 1) := dzq_47 (by decide +kernel)
theorem D_322_77 : decode J_322.2.2.1 77 = .ok (.lastore, 1) := by decide +kernel
theorem D_322_78 : decode J_322.2.2.1 78 = .ok (.aload_n 0, 1) := dzq_42 (by decide +kernel)
theorem D_322_79 : decode J_322.2.2.1 79 = .ok (.getfield 203, 3) := dzq_180 (by decide +kernel)
theorem D_322_82 : decode J_322.2.2.1 82 = .ok (.iload_n 2, 1) := dzq_28 (by decide +kernel)
theorem D_322_83 : decode J_322.2.2.1 83 = .ok (.aload_n 0, 1) := dzq_42 (by decide +kernel)
theorem D_322_84 : decode J_322.2.2.1 84 = .ok (.getfield 118, 3) := dzq_180 (by decide +kernel)
theorem D_322_87 : decode J_322.2.2.1 87 = .ok (.bipush 6, 2) := dzq_16 (by decide +kernel)
theorem D_322_89 : decode J_322.2.2.1 89 = .ok (.iload_n 1, 1) := dzq_27 (by decide +kernel)
theorem D_322_90 : decode J_322.2.2.1 90 = .ok (.imul, 1) := dzq_104 (by decide +kernel)
theorem D_322_91 : decode J_322.2.2.1 91 = .ok (.iload_n 2, 1) := dzq_28 (by decide +kernel)
theorem D_322_92 : decode J_322.2.2.1 92 = .ok (.iadd, 1) := dzq_96 (by decide +kernel)
theorem D_322_93 : decode J_322.2.2.1 93 = .ok (.iaload, 1) := dzq_46 (by decide +kernel)
theorem D_322_94 : decode J_322.2.2.1 94 = .ok (.iastore, 1) := dzq_79 (by decide +kernel)
theorem D_322_95 : decode J_322.2.2.1 95 = .ok (.aload_n 0, 1) := dzq_42 (by decide +kernel)
theorem D_322_96 : decode J_322.2.2.1 96 = .ok (.getfield 206, 3) := dzq_180 (by decide +kernel)
theorem D_322_99 : decode J_322.2.2.1 99 = .ok (.iload_n 2, 1) := dzq_28 (by decide +kernel)
theorem D_322_100 : decode J_322.2.2.1 100 = .ok (.iconst 0, 1) := dzq_3 (by decide +kernel)
theorem D_322_101 : decode J_322.2.2.1 101 = .ok (.iastore, 1) := dzq_79 (by decide +kernel)
theorem D_322_102 : decode J_322.2.2.1 102 = .ok (.aload_n 0, 1) := dzq_42 (by decide +kernel)
theorem D_322_103 : decode J_322.2.2.1 103 = .ok (.getfield 209, 3) := dzq_180 (by decide +kernel)
theorem D_322_106 : decode J_322.2.2.1 106 = .ok (.iload_n 2, 1) := dzq_28 (by decide +kernel)
theorem D_322_107 : decode J_322.2.2.1 107 = .ok (.iconst 1, 1) := dzq_4 (by decide +kernel)
theorem D_322_108 : decode J_322.2.2.1 108 = .ok (.bastore, 1) := by decide +kernel
theorem D_322_109 : decode J_322.2.2.1 109 = .ok (.aload_n 0, 1) := dzq_42 (by decide +kernel)
theorem D_322_110 : decode J_322.2.2.1 110 = .ok (.dup, 1) := dzq_89 (by decide +kernel)
theorem D_322_111 : decode J_322.2.2.1 111 = .ok (.getfield 585, 3) := dzq_180 (by decide +kernel)
theorem D_322_114 : decode J_322.2.2.1 114 = .ok (.iconst 1, 1) := dzq_4 (by decide +kernel)
theorem D_322_115 : decode J_322.2.2.1 115 = .ok (.iadd, 1) := dzq_96 (by decide +kernel)
theorem D_322_116 : decode J_322.2.2.1 116 = .ok (.putfield 585, 3) := dzq_181 (by decide +kernel)
theorem D_322_119 : decode J_322.2.2.1 119 = .ok (.iinc 2 1, 3) := dzq_132 (by decide +kernel)
theorem D_322_122 : decode J_322.2.2.1 122 = .ok (.goto (-71), 3) := dzq_167 (by decide +kernel)
theorem D_322_125 : decode J_322.2.2.1 125 = .ok (.sipush 5000, 3) := dzq_17 (by decide +kernel)
theorem D_322_128 : decode J_322.2.2.1 128 = .ok (.aload_n 0, 1) := dzq_42 (by decide +kernel)
theorem D_322_129 : decode J_322.2.2.1 129 = .ok (.getfield 356, 3) := dzq_180 (by decide +kernel)
theorem D_322_132 : decode J_322.2.2.1 132 = .ok (.imul, 1) := dzq_104 (by decide +kernel)
theorem D_322_133 : decode J_322.2.2.1 133 = .ok (.iload_n 1, 1) := dzq_27 (by decide +kernel)
theorem D_322_134 : decode J_322.2.2.1 134 = .ok (.iconst (-1), 1) := dzq_2 (by decide +kernel)
theorem D_322_135 : decode J_322.2.2.1 135 = .ok (.if_icmp .ne 15, 3) := dzq_160 (by decide +kernel)
theorem D_322_138 : decode J_322.2.2.1 138 = .ok (.aload_n 0, 1) := dzq_42 (by decide +kernel)
theorem D_322_139 : decode J_322.2.2.1 139 = .ok (.getfield 88, 3) := dzq_180 (by decide +kernel)
theorem D_322_142 : decode J_322.2.2.1 142 = .ok (.aload_n 0, 1) := dzq_42 (by decide +kernel)
theorem D_322_143 : decode J_322.2.2.1 143 = .ok (.getfield 356, 3) := dzq_180 (by decide +kernel)
theorem D_322_146 : decode J_322.2.2.1 146 = .ok (.iaload, 1) := dzq_46 (by decide +kernel)
theorem D_322_147 : decode J_322.2.2.1 147 = .ok (.goto 9, 3) := dzq_167 (by decide +kernel)
theorem D_322_150 : decode J_322.2.2.1 150 = .ok (.aload_n 0, 1) := dzq_42 (by decide +kernel)
theorem D_322_151 : decode J_322.2.2.1 151 = .ok (.getfield 106, 3) := dzq_180 (by decide +kernel)
theorem D_322_154 : decode J_322.2.2.1 154 = .ok (.iload_n 1, 1) := dzq_27 (by decide +kernel)
theorem D_322_155 : decode J_322.2.2.1 155 = .ok (.iaload, 1) := dzq_46 (by decide +kernel)
theorem D_322_156 : decode J_322.2.2.1 156 = .ok (.iadd, 1) := dzq_96 (by decide +kernel)
theorem D_322_157 : decode J_322.2.2.1 157 = .ok (.istore_n 2, 1) := dzq_61 (by decide +kernel)
theorem D_322_158 : decode J_322.2.2.1 158 = .ok (.aload_n 0, 1) := dzq_42 (by decide +kernel)
theorem D_322_159 : decode J_322.2.2.1 159 = .ok (.getfield 333, 3) := dzq_180 (by decide +kernel)
theorem D_322_162 : decode J_322.2.2.1 162 = .ok (.ifCond .ne 34, 3) := dzq_154 (by decide +kernel)
theorem D_322_165 : decode J_322.2.2.1 165 = .ok (.aload_n 0, 1) := dzq_42 (by decide +kernel)
theorem D_322_166 : decode J_322.2.2.1 166 = .ok (.getfield 148, 3) := dzq_180 (by decide +kernel)
theorem D_322_169 : decode J_322.2.2.1 169 = .ok (.iload_n 2, 1) := dzq_28 (by decide +kernel)
theorem D_322_170 : decode J_322.2.2.1 170 = .ok (.iaload, 1) := dzq_46 (by decide +kernel)
theorem D_322_171 : decode J_322.2.2.1 171 = .ok (.bipush 28, 2) := dzq_16 (by decide +kernel)
theorem D_322_173 : decode J_322.2.2.1 173 = .ok (.if_icmp .ne 12, 3) := dzq_160 (by decide +kernel)
theorem D_322_176 : decode J_322.2.2.1 176 = .ok (.aload_n 0, 1) := dzq_42 (by decide +kernel)
theorem D_322_177 : decode J_322.2.2.1 177 = .ok (.getfield 154, 3) := dzq_180 (by decide +kernel)
theorem D_322_180 : decode J_322.2.2.1 180 = .ok (.iload_n 2, 1) := dzq_28 (by decide +kernel)
theorem D_322_181 : decode J_322.2.2.1 181 = .ok (.iaload, 1) := dzq_46 (by decide +kernel)
theorem D_322_182 : decode J_322.2.2.1 182 = .ok (.ifCond .eq 14, 3) := dzq_153 (by decide +kernel)
theorem D_322_185 : decode J_322.2.2.1 185 = .ok (.aload_n 0, 1) := dzq_42 (by decide +kernel)
theorem D_322_186 : decode J_322.2.2.1 186 = .ok (.iload_n 2, 1) := dzq_28 (by decide +kernel)
theorem D_322_187 : decode J_322.2.2.1 187 = .ok (.invokevirtual 594, 3) := dzq_182 (by decide +kernel)
theorem D_322_190 : decode J_322.2.2.1 190 = .ok (.iinc 2 1, 3) := dzq_132 (by decide +kernel)
theorem D_322_193 : decode J_322.2.2.1 193 = .ok (.goto (-35), 3) := dzq_167 (by decide +kernel)
theorem D_322_196 : decode J_322.2.2.1 196 = .ok (.return_, 1) := dzq_177 (by decide +kernel)
def P_322_185 (X : mjX) (d C S kc ks : Nat) (k : Nat → Int32 → mjH → mjU) : Prop := ∀ (l0 : Nat) (l2 : Int32) (hp : mjH) (q : Option Value × mjH), k l0 l2 hp = some q → mjG X d C S J_322 (mjEq q) 185 [some (.ref l0), none, some (.int l2)] [] hp kc ks
def P_322_158 (X : mjX) (d C S kc ks : Nat) (k : Nat → Int32 → mjH → mjU) : Prop := ∀ (l0 : Nat) (l2 : Int32) (hp : mjH) (q : Option Value × mjH), k l0 l2 hp = some q → mjG X d C S J_322 (mjEq q) 158 [some (.ref l0), none, some (.int l2)] [] hp kc ks
def P_322_156 (X : mjX) (d C S kc ks : Nat) (k : Nat → Int32 → Int32 → mjH → mjU) : Prop := ∀ (l0 : Nat) (s0 : Int32) (s1 : Int32) (hp : mjH) (q : Option Value × mjH), k l0 s0 s1 hp = some q → mjG X d C S J_322 (mjEq q) 156 [some (.ref l0), none, none] [.int s1, .int s0] hp kc ks
def P_322_125 (X : mjX) (d C S kc ks : Nat) (k : Nat → Int32 → mjH → mjU) : Prop := ∀ (l0 : Nat) (l1 : Int32) (hp : mjH) (q : Option Value × mjH), k l0 l1 hp = some q → mjG X d C S J_322 (mjEq q) 125 [some (.ref l0), some (.int l1), none] [] hp kc ks
def P_322_51 (X : mjX) (d C S kc ks : Nat) (k : Nat → Int32 → Int32 → mjH → mjU) : Prop := ∀ (l0 : Nat) (l1 : Int32) (l2 : Int32) (hp : mjH) (q : Option Value × mjH), k l0 l1 l2 hp = some q → mjG X d C S J_322 (mjEq q) 51 [some (.ref l0), some (.int l1), some (.int l2)] [] hp kc ks
def P_322_21 (X : mjX) (d C S kc ks : Nat) (k : Nat → Int32 → Nat → Int32 → mjH → mjU) : Prop := ∀ (l0 : Nat) (l1 : Int32) (s0 : Nat) (s1 : Int32) (hp : mjH) (q : Option Value × mjH), k l0 l1 s0 s1 hp = some q → mjG X d C S J_322 (mjEq q) 21 [some (.ref l0), some (.int l1), none] [.int s1, .ref s0] hp kc ks
def P_322_0 (X : mjX) (d C S kc ks : Nat) (k : Nat → Int32 → mjH → mjU) : Prop := ∀ (l0 : Nat) (l1 : Int32) (hp : mjH) (q : Option Value × mjH), k l0 l1 hp = some q → mjG X d C S J_322 (mjEq q) 0 [some (.ref l0), some (.int l1), none] [] hp kc ks
noncomputable def b_322_185 (R : mjR) (k158 : Nat → Int32 → mjH → mjU) (l0 : Nat) (l2 : Int32) (hp : mjH) : mjU := rV hp l0 12 (bN (R 323 [.ref l0, .int l2] hp) (fun  hp1 => k158 l0 (l2 + (1 : Int32)) hp1))
theorem t_322_185 {X : mjX} {d C S kc ks : Nat} {R : mjR} (hR : mjC R d) (h1 : kc ≤ C) (h2 : ks ≤ S) {k158 : Nat → Int32 → mjH → mjU} (hk158 : P_322_158 X (d + 1) C S kc ks k158) : P_322_185 X (d + 1) C S kc ks (b_322_185 R k158) := by
  intro l0 l2 hp q h
  unfold b_322_185 at h
  refine mjr_aload_n (x := l0) D_322_185 rfl ?_
  refine mjr_iload_n (x := l2) D_322_186 rfl ?_
  refine mjq_vN (As := [.int l2]) (rest := []) D_322_187 mr_12_594 V_323 rfl rfl rfl hR (Nat.le_refl _) h1 h2 h (fun  hp1 h => ?_)
  refine mjq_iinc (x := l2) (c := (1 : Int32)) (lo' := [some (.ref l0), none, some (.int (l2 + (1 : Int32)))]) D_322_190 rfl (Nat.le_of_ble_eq_true rfl) rfl rfl ?_
  refine mjr_goto (tgt := 158) D_322_193 rfl ?_
  exact hk158 _ _ _ _ h
noncomputable def b_322_158 (R : mjR) (k158 : Nat → Int32 → mjH → mjU) (l0 : Nat) (l2 : Int32) (hp : mjH) : mjU := gI hp l0 12 61 (fun v1 => (if v1 = 0 then gR hp l0 12 54 (fun v2 => aI hp v2 l2 (fun v3 => (if v3 = (28 : Int32) then gR hp l0 12 56 (fun v4 => aI hp v4 l2 (fun v5 => (if v5 = 0 then some (none, hp) else b_322_185 R k158 l0 l2 hp))) else b_322_185 R k158 l0 l2 hp))) else some (none, hp)))
theorem t_322_158 {X : mjX} {d C S kc ks : Nat} {R : mjR} (hR : mjC R d) (h1 : kc ≤ C) (h2 : ks ≤ S) {k158 : Nat → Int32 → mjH → mjU} (hk158 : P_322_158 X (d + 1) C S kc ks k158) : P_322_158 X (d + 1) C S kc ks (b_322_158 R k158) := by
  intro l0 l2 hp q h
  unfold b_322_158 at h
  refine mjr_aload_n (x := l0) D_322_158 rfl ?_
  refine mjq_gI D_322_159 fr_12_333 h (fun v1 h => ?_)
  refine mjq_if_ne (tgt := 196) D_322_162 rfl h (fun h => ?_) (fun h => ?_)
  · exact mjq_nret D_322_196 rfl h1 h2 h
  · refine mjr_aload_n (x := l0) D_322_165 rfl ?_
    refine mjq_gR D_322_166 fr_12_148 h (fun v2 h => ?_)
    refine mjr_iload_n (x := l2) D_322_169 rfl ?_
    refine mjq_aI D_322_170 h (fun v3 h => ?_)
    refine mjq_bi (v := (28 : Int32)) D_322_171 rfl ?_
    refine mjq_icmp_ne (tgt := 185) D_322_173 rfl h (fun h => ?_) (fun h => ?_)
    · exact (t_322_185 hR h1 h2 hk158) _ _ _ _ h
    · refine mjr_aload_n (x := l0) D_322_176 rfl ?_
      refine mjq_gR D_322_177 fr_12_154 h (fun v4 h => ?_)
      refine mjr_iload_n (x := l2) D_322_180 rfl ?_
      refine mjq_aI D_322_181 h (fun v5 h => ?_)
      refine mjq_if_eq (tgt := 196) D_322_182 rfl h (fun h => ?_) (fun h => ?_)
      · exact mjq_nret D_322_196 rfl h1 h2 h
      · exact (t_322_185 hR h1 h2 hk158) _ _ _ _ h
noncomputable def L_322_158 (R : mjR) (n : Nat) : Nat → Int32 → mjH → mjU := Nat.rec (motive := fun _ => Nat → Int32 → mjH → mjU) (fun _ _ _ => none) (fun _ self => b_322_158 R self) n
theorem T_322_158 {X : mjX} {d C S kc ks : Nat} {R : mjR} (hR : mjC R d) (h1 : kc ≤ C) (h2 : ks ≤ S) (n : Nat) : P_322_158 X (d + 1) C S kc ks (L_322_158 R n) := by
  induction n with
  | zero => intro _ _ _ _ h; exact mj_no h
  | succ n ih => exact t_322_158 hR h1 h2 ih
noncomputable def b_322_156 (R : mjR) (l0 : Nat) (s0 : Int32) (s1 : Int32) (hp : mjH) : mjU := L_322_158 R mjN l0 (s0 + s1) hp
theorem t_322_156 {X : mjX} {d C S kc ks : Nat} {R : mjR} (hR : mjC R d) (h1 : kc ≤ C) (h2 : ks ≤ S) : P_322_156 X (d + 1) C S kc ks (b_322_156 R) := by
  intro l0 s0 s1 hp q h
  unfold b_322_156 at h
  refine mjr_iadd D_322_156 ?_
  refine mjq_istore_n (lo' := [some (.ref l0), none, some (.int (s0 + s1))]) D_322_157 (Nat.le_of_ble_eq_true rfl) rfl ?_
  exact (T_322_158 hR h1 h2 mjN) _ _ _ _ h
noncomputable def b_322_125 (R : mjR) (l0 : Nat) (l1 : Int32) (hp : mjH) : mjU := gI hp l0 12 63 (fun v1 => (if l1 = (-1 : Int32) then gR hp l0 12 34 (fun v4 => gI hp l0 12 63 (fun v5 => aI hp v4 v5 (fun v6 => b_322_156 R l0 ((5000 : Int32) * v1) v6 hp))) else gR hp l0 12 40 (fun v2 => aI hp v2 l1 (fun v3 => b_322_156 R l0 ((5000 : Int32) * v1) v3 hp))))
theorem t_322_125 {X : mjX} {d C S kc ks : Nat} {R : mjR} (hR : mjC R d) (h1 : kc ≤ C) (h2 : ks ≤ S) : P_322_125 X (d + 1) C S kc ks (b_322_125 R) := by
  intro l0 l1 hp q h
  unfold b_322_125 at h
  refine mjq_si (v := (5000 : Int32)) D_322_125 rfl ?_
  refine mjr_aload_n (x := l0) D_322_128 rfl ?_
  refine mjq_gI D_322_129 fr_12_356 h (fun v1 h => ?_)
  refine mjr_imul D_322_132 ?_
  refine mjr_iload_n (x := l1) D_322_133 rfl ?_
  refine mjq_ic (v := (-1 : Int32)) D_322_134 rfl ?_
  refine mjq_icmp_ne (tgt := 150) D_322_135 rfl h (fun h => ?_) (fun h => ?_)
  · refine mjr_aload_n (x := l0) D_322_150 rfl ?_
    refine mjq_gR D_322_151 fr_12_106 h (fun v2 h => ?_)
    refine mjr_iload_n (x := l1) D_322_154 rfl ?_
    refine mjq_aI D_322_155 h (fun v3 h => ?_)
    exact mjG.fg (lo' := [some (.ref l0), none, none]) (And.intro rfl True.intro) ((t_322_156 hR h1 h2) _ _ _ _ _ h)
  · refine mjr_aload_n (x := l0) D_322_138 rfl ?_
    refine mjq_gR D_322_139 fr_12_88 h (fun v4 h => ?_)
    refine mjr_aload_n (x := l0) D_322_142 rfl ?_
    refine mjq_gI D_322_143 fr_12_356 h (fun v5 h => ?_)
    refine mjq_aI D_322_146 h (fun v6 h => ?_)
    refine mjr_goto (tgt := 156) D_322_147 rfl ?_
    exact mjG.fg (lo' := [some (.ref l0), none, none]) (And.intro rfl True.intro) ((t_322_156 hR h1 h2) _ _ _ _ _ h)
noncomputable def b_322_51 (R : mjR) (k51 : Nat → Int32 → Int32 → mjH → mjU) (l0 : Nat) (l1 : Int32) (l2 : Int32) (hp : mjH) : mjU := gR hp l0 12 39 (fun v1 => aI hp v1 l1 (fun v2 => (if v2 ≤ l2 then b_322_125 R l0 l1 hp else gR hp l0 12 83 (fun v3 => gR hp l0 12 46 (fun v4 => aL hp v4 (((6 : Int32) * l1) + l2) (fun v5 => sL hp v3 l2 v5 (fun hp6 => gR hp6 l0 12 84 (fun v7 => gR hp6 l0 12 44 (fun v8 => aI hp6 v8 (((6 : Int32) * l1) + l2) (fun v9 => sI hp6 v7 l2 v9 (fun hp10 => gR hp10 l0 12 85 (fun v11 => sI hp10 v11 l2 (0 : Int32) (fun hp12 => gR hp12 l0 12 86 (fun v13 => sB hp12 v13 l2 (1 : Int32) (fun hp14 => gI hp14 l0 12 87 (fun v15 => pI hp14 l0 12 87 (v15 + (1 : Int32)) (fun hp16 => k51 l0 l1 (l2 + (1 : Int32)) hp16)))))))))))))))))
theorem t_322_51 {X : mjX} {d C S kc ks : Nat} {R : mjR} (hR : mjC R d) (h1 : kc ≤ C) (h2 : ks ≤ S) {k51 : Nat → Int32 → Int32 → mjH → mjU} (hk51 : P_322_51 X (d + 1) C S kc ks k51) : P_322_51 X (d + 1) C S kc ks (b_322_51 R k51) := by
  intro l0 l1 l2 hp q h
  unfold b_322_51 at h
  refine mjr_iload_n (x := l2) D_322_51 rfl ?_
  refine mjr_aload_n (x := l0) D_322_52 rfl ?_
  refine mjq_gR D_322_53 fr_12_103 h (fun v1 h => ?_)
  refine mjr_iload_n (x := l1) D_322_56 rfl ?_
  refine mjq_aI D_322_57 h (fun v2 h => ?_)
  refine mjq_icmp_ge (tgt := 125) D_322_58 rfl h (fun h => ?_) (fun h => ?_)
  · exact mjG.fg (lo' := [some (.ref l0), some (.int l1), none]) (And.intro rfl (And.intro rfl True.intro)) ((t_322_125 hR h1 h2) _ _ _ _ h)
  · refine mjr_aload_n (x := l0) D_322_61 rfl ?_
    refine mjq_gR D_322_62 fr_12_200 h (fun v3 h => ?_)
    refine mjr_iload_n (x := l2) D_322_65 rfl ?_
    refine mjr_aload_n (x := l0) D_322_66 rfl ?_
    refine mjq_gR D_322_67 fr_12_124 h (fun v4 h => ?_)
    refine mjq_bi (v := (6 : Int32)) D_322_70 rfl ?_
    refine mjr_iload_n (x := l1) D_322_72 rfl ?_
    refine mjr_imul D_322_73 ?_
    refine mjr_iload_n (x := l2) D_322_74 rfl ?_
    refine mjr_iadd D_322_75 ?_
    refine mjq_aL D_322_76 h (fun v5 h => ?_)
    refine mjq_sL D_322_77 h (fun hp6 h => ?_)
    refine mjr_aload_n (x := l0) D_322_78 rfl ?_
    refine mjq_gR D_322_79 fr_12_203 h (fun v7 h => ?_)
    refine mjr_iload_n (x := l2) D_322_82 rfl ?_
    refine mjr_aload_n (x := l0) D_322_83 rfl ?_
    refine mjq_gR D_322_84 fr_12_118 h (fun v8 h => ?_)
    refine mjq_bi (v := (6 : Int32)) D_322_87 rfl ?_
    refine mjr_iload_n (x := l1) D_322_89 rfl ?_
    refine mjr_imul D_322_90 ?_
    refine mjr_iload_n (x := l2) D_322_91 rfl ?_
    refine mjr_iadd D_322_92 ?_
    refine mjq_aI D_322_93 h (fun v9 h => ?_)
    refine mjq_sI D_322_94 h (fun hp10 h => ?_)
    refine mjr_aload_n (x := l0) D_322_95 rfl ?_
    refine mjq_gR D_322_96 fr_12_206 h (fun v11 h => ?_)
    refine mjr_iload_n (x := l2) D_322_99 rfl ?_
    refine mjq_ic (v := (0 : Int32)) D_322_100 rfl ?_
    refine mjq_sI D_322_101 h (fun hp12 h => ?_)
    refine mjr_aload_n (x := l0) D_322_102 rfl ?_
    refine mjq_gR D_322_103 fr_12_209 h (fun v13 h => ?_)
    refine mjr_iload_n (x := l2) D_322_106 rfl ?_
    refine mjq_ic (v := (1 : Int32)) D_322_107 rfl ?_
    refine mjq_sB D_322_108 h (fun hp14 h => ?_)
    refine mjr_aload_n (x := l0) D_322_109 rfl ?_
    refine mjr_dup D_322_110 rfl ?_
    refine mjq_gI D_322_111 fr_12_585 h (fun v15 h => ?_)
    refine mjq_ic (v := (1 : Int32)) D_322_114 rfl ?_
    refine mjr_iadd D_322_115 ?_
    refine mjq_pI D_322_116 fr_12_585 rfl rfl h (fun hp16 h => ?_)
    refine mjq_iinc (x := l2) (c := (1 : Int32)) (lo' := [some (.ref l0), some (.int l1), some (.int (l2 + (1 : Int32)))]) D_322_119 rfl (Nat.le_of_ble_eq_true rfl) rfl rfl ?_
    refine mjr_goto (tgt := 51) D_322_122 rfl ?_
    exact hk51 _ _ _ _ _ h
noncomputable def L_322_51 (R : mjR) (n : Nat) : Nat → Int32 → Int32 → mjH → mjU := Nat.rec (motive := fun _ => Nat → Int32 → Int32 → mjH → mjU) (fun _ _ _ _ => none) (fun _ self => b_322_51 R self) n
theorem T_322_51 {X : mjX} {d C S kc ks : Nat} {R : mjR} (hR : mjC R d) (h1 : kc ≤ C) (h2 : ks ≤ S) (n : Nat) : P_322_51 X (d + 1) C S kc ks (L_322_51 R n) := by
  induction n with
  | zero => intro _ _ _ _ _ h; exact mj_no h
  | succ n ih => exact t_322_51 hR h1 h2 ih
noncomputable def b_322_21 (R : mjR) (l0 : Nat) (l1 : Int32) (s0 : Nat) (s1 : Int32) (hp : mjH) : mjU := pI hp s0 12 132 s1 (fun hp1 => pI hp1 l0 12 82 (0 : Int32) (fun hp2 => pI hp2 l0 12 87 (0 : Int32) (fun hp3 => pI hp3 l0 12 88 (0 : Int32) (fun hp4 => pI hp4 l0 12 92 (0 : Int32) (fun hp5 => (if l1 = (-1 : Int32) then b_322_125 R l0 l1 hp5 else L_322_51 R mjN l0 l1 (0 : Int32) hp5))))))
theorem t_322_21 {X : mjX} {d C S kc ks : Nat} {R : mjR} (hR : mjC R d) (h1 : kc ≤ C) (h2 : ks ≤ S) : P_322_21 X (d + 1) C S kc ks (b_322_21 R) := by
  intro l0 l1 s0 s1 hp q h
  unfold b_322_21 at h
  refine mjq_pI D_322_21 fr_12_582 rfl rfl h (fun hp1 h => ?_)
  refine mjr_aload_n (x := l0) D_322_24 rfl ?_
  refine mjq_ic (v := (0 : Int32)) D_322_25 rfl ?_
  refine mjq_pI D_322_26 fr_12_567 rfl rfl h (fun hp2 h => ?_)
  refine mjr_aload_n (x := l0) D_322_29 rfl ?_
  refine mjq_ic (v := (0 : Int32)) D_322_30 rfl ?_
  refine mjq_pI D_322_31 fr_12_585 rfl rfl h (fun hp3 h => ?_)
  refine mjr_aload_n (x := l0) D_322_34 rfl ?_
  refine mjq_ic (v := (0 : Int32)) D_322_35 rfl ?_
  refine mjq_pI D_322_36 fr_12_588 rfl rfl h (fun hp4 h => ?_)
  refine mjr_aload_n (x := l0) D_322_39 rfl ?_
  refine mjq_ic (v := (0 : Int32)) D_322_40 rfl ?_
  refine mjq_pI D_322_41 fr_12_591 rfl rfl h (fun hp5 h => ?_)
  refine mjr_iload_n (x := l1) D_322_44 rfl ?_
  refine mjq_ic (v := (-1 : Int32)) D_322_45 rfl ?_
  refine mjq_icmp_eq (tgt := 125) D_322_46 rfl h (fun h => ?_) (fun h => ?_)
  · exact (t_322_125 hR h1 h2) _ _ _ _ h
  · refine mjq_ic (v := (0 : Int32)) D_322_49 rfl ?_
    refine mjq_istore_n (lo' := [some (.ref l0), some (.int l1), some (.int (0 : Int32))]) D_322_50 (Nat.le_of_ble_eq_true rfl) rfl ?_
    exact (T_322_51 hR h1 h2 mjN) _ _ _ _ _ h
noncomputable def b_322_0 (R : mjR) (l0 : Nat) (l1 : Int32) (hp : mjH) : mjU := pI hp l0 12 133 l1 (fun hp1 => (if l1 = (-1 : Int32) then b_322_21 R l0 l1 l0 (-1 : Int32) hp1 else gR hp1 l0 12 35 (fun v2 => aI hp1 v2 l1 (fun v3 => b_322_21 R l0 l1 l0 v3 hp1))))
theorem t_322_0 {X : mjX} {d C S kc ks : Nat} {R : mjR} (hR : mjC R d) (h1 : kc ≤ C) (h2 : ks ≤ S) : P_322_0 X (d + 1) C S kc ks (b_322_0 R) := by
  intro l0 l1 hp q h
  unfold b_322_0 at h
  refine mjr_aload_n (x := l0) D_322_0 rfl ?_
  refine mjr_iload_n (x := l1) D_322_1 rfl ?_
  refine mjq_pI D_322_2 fr_12_579 rfl rfl h (fun hp1 h => ?_)
  refine mjr_aload_n (x := l0) D_322_5 rfl ?_
  refine mjr_iload_n (x := l1) D_322_6 rfl ?_
  refine mjq_ic (v := (-1 : Int32)) D_322_7 rfl ?_
  refine mjq_icmp_ne (tgt := 15) D_322_8 rfl h (fun h => ?_) (fun h => ?_)
  · refine mjr_aload_n (x := l0) D_322_15 rfl ?_
    refine mjq_gR D_322_16 fr_12_91 h (fun v2 h => ?_)
    refine mjr_iload_n (x := l1) D_322_19 rfl ?_
    refine mjq_aI D_322_20 h (fun v3 h => ?_)
    exact (t_322_21 hR h1 h2) _ _ _ _ _ _ h
  · refine mjq_ic (v := (-1 : Int32)) D_322_11 rfl ?_
    refine mjr_goto (tgt := 21) D_322_12 rfl ?_
    exact (t_322_21 hR h1 h2) _ _ _ _ _ _ h
noncomputable def f_322 (R : mjR) (a0 : Nat) (a1 : Int32) (hp : mjH) : mjU := b_322_0 R a0 a1 hp
theorem c_322 {R : mjR} {d : Nat} (hR : mjC R d) {a0 : Nat} {a1 : Int32} {hp : mjH} {q : Option Value × mjH} (h : f_322 R a0 a1 hp = some q) : mjM (d + 1) 0 0 322 [.ref a0, .int a1] hp (mjEq q) :=
  mjM_of Ja_322 (Nat.le_of_ble_eq_true rfl) (mjG.fg (lo' := [some (.ref a0), some (.int a1), none]) (And.intro rfl (And.intro rfl True.intro)) ((t_322_0 hR (Nat.le_refl 0) (Nat.le_refl 0)) a0 a1 hp q h))
def J_323 : mjI := (⟨"OwnerHeapModel", "judge", "(I)V"⟩, 12, prog_14_method_74_code, 3, none, 1, false)
theorem Ja_323 : mjMt 323 = some J_323 := by rfl
theorem D_323_0 : decode J_323.2.2.1 0 = .ok (.aload_n 0, 1) := dzq_42 (by decide +kernel)
theorem D_323_1 : decode J_323.2.2.1 1 = .ok (.getfield 148, 3) := dzq_180 (by decide +kernel)
theorem D_323_4 : decode J_323.2.2.1 4 = .ok (.iload_n 1, 1) := dzq_27 (by decide +kernel)
theorem D_323_5 : decode J_323.2.2.1 5 = .ok (.iaload, 1) := dzq_46 (by decide +kernel)
theorem D_323_6 : decode J_323.2.2.1 6 = .ok (.tableswitch 511 3 30 #[126, 134, 143, 217, 267, 316, 346, 354, 354, 362, 370, 433, 217, 354, 511, 511, 511, 511, 511, 511, 511, 511, 511, 511, 511, 511, 511, 301], 126) := by decide +kernel
theorem D_323_132 : decode J_323.2.2.1 132 = .ok (.aload_n 0, 1) := dzq_42 (by decide +kernel)
theorem D_323_133 : decode J_323.2.2.1 133 = .ok (.iconst (-1), 1) := dzq_2 (by decide +kernel)
theorem D_323_134 : decode J_323.2.2.1 134 = .ok (.invokevirtual 570, 3) := dzq_182 (by decide +kernel)
theorem D_323_137 : decode J_323.2.2.1 137 = .ok (.goto 385, 3) := dzq_167 (by decide +kernel)
theorem D_323_140 : decode J_323.2.2.1 140 = .ok (.aload_n 0, 1) := dzq_42 (by decide +kernel)
theorem D_323_141 : decode J_323.2.2.1 141 = .ok (.bipush (-2), 2) := dzq_16 (by decide +kernel)
theorem D_323_143 : decode J_323.2.2.1 143 = .ok (.invokevirtual 570, 3) := dzq_182 (by decide +kernel)
theorem D_323_146 : decode J_323.2.2.1 146 = .ok (.goto 376, 3) := dzq_167 (by decide +kernel)
theorem D_323_149 : decode J_323.2.2.1 149 = .ok (.aload_n 0, 1) := dzq_42 (by decide +kernel)
theorem D_323_150 : decode J_323.2.2.1 150 = .ok (.getfield 582, 3) := dzq_180 (by decide +kernel)
theorem D_323_153 : decode J_323.2.2.1 153 = .ok (.iconst (-1), 1) := dzq_2 (by decide +kernel)
theorem D_323_154 : decode J_323.2.2.1 154 = .ok (.if_icmp .ne 17, 3) := dzq_160 (by decide +kernel)
theorem D_323_157 : decode J_323.2.2.1 157 = .ok (.aload_n 0, 1) := dzq_42 (by decide +kernel)
theorem D_323_158 : decode J_323.2.2.1 158 = .ok (.iconst 5, 1) := dzq_8 (by decide +kernel)
theorem D_323_159 : decode J_323.2.2.1 159 = .ok (.aload_n 0, 1) := dzq_42 (by decide +kernel)
theorem D_323_160 : decode J_323.2.2.1 160 = .ok (.getfield 151, 3) := dzq_180 (by decide +kernel)
theorem D_323_163 : decode J_323.2.2.1 163 = .ok (.iload_n 1, 1) := dzq_27 (by decide +kernel)
theorem D_323_164 : decode J_323.2.2.1 164 = .ok (.iaload, 1) := dzq_46 (by decide +kernel)
theorem D_323_165 : decode J_323.2.2.1 165 = .ok (.invokevirtual 339, 3) := dzq_182 (by decide +kernel)
theorem D_323_168 : decode J_323.2.2.1 168 = .ok (.goto 354, 3) := dzq_167 (by decide +kernel)
theorem D_323_171 : decode J_323.2.2.1 171 = .ok (.aload_n 0, 1) := dzq_42 (by decide +kernel)
theorem D_323_172 : decode J_323.2.2.1 172 = .ok (.aload_n 0, 1) := dzq_42 (by decide +kernel)
theorem D_323_173 : decode J_323.2.2.1 173 = .ok (.getfield 582, 3) := dzq_180 (by decide +kernel)
theorem D_323_176 : decode J_323.2.2.1 176 = .ok (.invokevirtual 570, 3) := dzq_182 (by decide +kernel)
theorem D_323_179 : decode J_323.2.2.1 179 = .ok (.iconst 0, 1) := dzq_3 (by decide +kernel)
theorem D_323_180 : decode J_323.2.2.1 180 = .ok (.istore_n 2, 1) := dzq_61 (by decide +kernel)
theorem D_323_181 : decode J_323.2.2.1 181 = .ok (.iload_n 2, 1) := dzq_28 (by decide +kernel)
theorem D_323_182 : decode J_323.2.2.1 182 = .ok (.iconst 5, 1) := dzq_8 (by decide +kernel)
theorem D_323_183 : decode J_323.2.2.1 183 = .ok (.if_icmp .ge 25, 3) := dzq_162 (by decide +kernel)
theorem D_323_186 : decode J_323.2.2.1 186 = .ok (.aload_n 0, 1) := dzq_42 (by decide +kernel)
theorem D_323_187 : decode J_323.2.2.1 187 = .ok (.getfield 197, 3) := dzq_180 (by decide +kernel)
theorem D_323_190 : decode J_323.2.2.1 190 = .ok (.iconst 5, 1) := dzq_8 (by decide +kernel)
theorem D_323_191 : decode J_323.2.2.1 191 = .ok (.aload_n 0, 1) := dzq_42 (by decide +kernel)
theorem D_323_192 : decode J_323.2.2.1 192 = .ok (.getfield 567, 3) := dzq_180 (by decide +kernel)
theorem D_323_195 : decode J_323.2.2.1 195 = .ok (.imul, 1) := dzq_104 (by decide +kernel)
theorem D_323_196 : decode J_323.2.2.1 196 = .ok (.iconst 5, 1) := dzq_8 (by decide +kernel)
theorem D_323_197 : decode J_323.2.2.1 197 = .ok (.isub, 1) := dzq_100 (by decide +kernel)
theorem D_323_198 : decode J_323.2.2.1 198 = .ok (.iload_n 2, 1) := dzq_28 (by decide +kernel)
theorem D_323_199 : decode J_323.2.2.1 199 = .ok (.iadd, 1) := dzq_96 (by decide +kernel)
theorem D_323_200 : decode J_323.2.2.1 200 = .ok (.iload_n 2, 1) := dzq_28 (by decide +kernel)
theorem D_323_201 : decode J_323.2.2.1 201 = .ok (.iastore, 1) := dzq_79 (by decide +kernel)
theorem D_323_202 : decode J_323.2.2.1 202 = .ok (.iinc 2 1, 3) := dzq_132 (by decide +kernel)
theorem D_323_205 : decode J_323.2.2.1 205 = .ok (.goto (-24), 3) := dzq_167 (by decide +kernel)
theorem D_323_208 : decode J_323.2.2.1 208 = .ok (.aload_n 0, 1) := dzq_42 (by decide +kernel)
theorem D_323_209 : decode J_323.2.2.1 209 = .ok (.getfield 194, 3) := dzq_180 (by decide +kernel)
theorem D_323_212 : decode J_323.2.2.1 212 = .ok (.aload_n 0, 1) := dzq_42 (by decide +kernel)
theorem D_323_213 : decode J_323.2.2.1 213 = .ok (.getfield 567, 3) := dzq_180 (by decide +kernel)
theorem D_323_216 : decode J_323.2.2.1 216 = .ok (.iconst 1, 1) := dzq_4 (by decide +kernel)
theorem D_323_217 : decode J_323.2.2.1 217 = .ok (.isub, 1) := dzq_100 (by decide +kernel)
theorem D_323_218 : decode J_323.2.2.1 218 = .ok (.iconst 1, 1) := dzq_4 (by decide +kernel)
theorem D_323_219 : decode J_323.2.2.1 219 = .ok (.iastore, 1) := dzq_79 (by decide +kernel)
theorem D_323_220 : decode J_323.2.2.1 220 = .ok (.goto 302, 3) := dzq_167 (by decide +kernel)
theorem D_323_223 : decode J_323.2.2.1 223 = .ok (.aload_n 0, 1) := dzq_42 (by decide +kernel)
theorem D_323_224 : decode J_323.2.2.1 224 = .ok (.aload_n 0, 1) := dzq_42 (by decide +kernel)
theorem D_323_225 : decode J_323.2.2.1 225 = .ok (.getfield 160, 3) := dzq_180 (by decide +kernel)
theorem D_323_228 : decode J_323.2.2.1 228 = .ok (.iload_n 1, 1) := dzq_27 (by decide +kernel)
theorem D_323_229 : decode J_323.2.2.1 229 = .ok (.laload, 1) := dzq_47 (by decide +kernel)
theorem D_323_230 : decode J_323.2.2.1 230 = .ok (.invokevirtual 597, 3) := dzq_182 (by decide +kernel)
theorem D_323_233 : decode J_323.2.2.1 233 = .ok (.istore_n 2, 1) := dzq_61 (by decide +kernel)
theorem D_323_234 : decode J_323.2.2.1 234 = .ok (.iload_n 2, 1) := dzq_28 (by decide +kernel)
theorem D_323_235 : decode J_323.2.2.1 235 = .ok (.iconst (-1), 1) := dzq_2 (by decide +kernel)
theorem D_323_236 : decode J_323.2.2.1 236 = .ok (.if_icmp .ne 17, 3) := dzq_160 (by decide +kernel)
theorem D_323_239 : decode J_323.2.2.1 239 = .ok (.aload_n 0, 1) := dzq_42 (by decide +kernel)
theorem D_323_240 : decode J_323.2.2.1 240 = .ok (.iconst 5, 1) := dzq_8 (by decide +kernel)
theorem D_323_241 : decode J_323.2.2.1 241 = .ok (.aload_n 0, 1) := dzq_42 (by decide +kernel)
theorem D_323_242 : decode J_323.2.2.1 242 = .ok (.getfield 151, 3) := dzq_180 (by decide +kernel)
theorem D_323_245 : decode J_323.2.2.1 245 = .ok (.iload_n 1, 1) := dzq_27 (by decide +kernel)
theorem D_323_246 : decode J_323.2.2.1 246 = .ok (.iaload, 1) := dzq_46 (by decide +kernel)
theorem D_323_247 : decode J_323.2.2.1 247 = .ok (.invokevirtual 339, 3) := dzq_182 (by decide +kernel)
theorem D_323_250 : decode J_323.2.2.1 250 = .ok (.goto 272, 3) := dzq_167 (by decide +kernel)
theorem D_323_253 : decode J_323.2.2.1 253 = .ok (.aload_n 0, 1) := dzq_42 (by decide +kernel)
theorem D_323_254 : decode J_323.2.2.1 254 = .ok (.getfield 154, 3) := dzq_180 (by decide +kernel)
theorem D_323_257 : decode J_323.2.2.1 257 = .ok (.iload_n 1, 1) := dzq_27 (by decide +kernel)
theorem D_323_258 : decode J_323.2.2.1 258 = .ok (.iload_n 2, 1) := dzq_28 (by decide +kernel)
theorem D_323_259 : decode J_323.2.2.1 259 = .ok (.iastore, 1) := dzq_79 (by decide +kernel)
theorem D_323_260 : decode J_323.2.2.1 260 = .ok (.aload_n 0, 1) := dzq_42 (by decide +kernel)
theorem D_323_261 : decode J_323.2.2.1 261 = .ok (.aload_n 0, 1) := dzq_42 (by decide +kernel)
theorem D_323_262 : decode J_323.2.2.1 262 = .ok (.getfield 203, 3) := dzq_180 (by decide +kernel)
theorem D_323_265 : decode J_323.2.2.1 265 = .ok (.iload_n 2, 1) := dzq_28 (by decide +kernel)
theorem D_323_266 : decode J_323.2.2.1 266 = .ok (.iaload, 1) := dzq_46 (by decide +kernel)
theorem D_323_267 : decode J_323.2.2.1 267 = .ok (.invokevirtual 573, 3) := dzq_182 (by decide +kernel)
theorem D_323_270 : decode J_323.2.2.1 270 = .ok (.goto 252, 3) := dzq_167 (by decide +kernel)
theorem D_323_273 : decode J_323.2.2.1 273 = .ok (.aload_n 0, 1) := dzq_42 (by decide +kernel)
theorem D_323_274 : decode J_323.2.2.1 274 = .ok (.aload_n 0, 1) := dzq_42 (by decide +kernel)
theorem D_323_275 : decode J_323.2.2.1 275 = .ok (.getfield 154, 3) := dzq_180 (by decide +kernel)
theorem D_323_278 : decode J_323.2.2.1 278 = .ok (.iload_n 1, 1) := dzq_27 (by decide +kernel)
theorem D_323_279 : decode J_323.2.2.1 279 = .ok (.iaload, 1) := dzq_46 (by decide +kernel)
theorem D_323_280 : decode J_323.2.2.1 280 = .ok (.aload_n 0, 1) := dzq_42 (by decide +kernel)
theorem D_323_281 : decode J_323.2.2.1 281 = .ok (.getfield 582, 3) := dzq_180 (by decide +kernel)
theorem D_323_284 : decode J_323.2.2.1 284 = .ok (.invokevirtual 541, 3) := dzq_182 (by decide +kernel)
theorem D_323_287 : decode J_323.2.2.1 287 = .ok (.aload_n 0, 1) := dzq_42 (by decide +kernel)
theorem D_323_288 : decode J_323.2.2.1 288 = .ok (.getfield 333, 3) := dzq_180 (by decide +kernel)
theorem D_323_291 : decode J_323.2.2.1 291 = .ok (.ifCond .ne 231, 3) := dzq_154 (by decide +kernel)
theorem D_323_294 : decode J_323.2.2.1 294 = .ok (.aload_n 0, 1) := dzq_42 (by decide +kernel)
theorem D_323_295 : decode J_323.2.2.1 295 = .ok (.aload_n 0, 1) := dzq_42 (by decide +kernel)
theorem D_323_296 : decode J_323.2.2.1 296 = .ok (.getfield 154, 3) := dzq_180 (by decide +kernel)
theorem D_323_299 : decode J_323.2.2.1 299 = .ok (.iload_n 1, 1) := dzq_27 (by decide +kernel)
theorem D_323_300 : decode J_323.2.2.1 300 = .ok (.iaload, 1) := dzq_46 (by decide +kernel)
theorem D_323_301 : decode J_323.2.2.1 301 = .ok (.invokevirtual 573, 3) := dzq_182 (by decide +kernel)
theorem D_323_304 : decode J_323.2.2.1 304 = .ok (.goto 218, 3) := dzq_167 (by decide +kernel)
theorem D_323_307 : decode J_323.2.2.1 307 = .ok (.aload_n 0, 1) := dzq_42 (by decide +kernel)
theorem D_323_308 : decode J_323.2.2.1 308 = .ok (.getfield 194, 3) := dzq_180 (by decide +kernel)
theorem D_323_311 : decode J_323.2.2.1 311 = .ok (.aload_n 0, 1) := dzq_42 (by decide +kernel)
theorem D_323_312 : decode J_323.2.2.1 312 = .ok (.getfield 567, 3) := dzq_180 (by decide +kernel)
theorem D_323_315 : decode J_323.2.2.1 315 = .ok (.iconst 1, 1) := dzq_4 (by decide +kernel)
theorem D_323_316 : decode J_323.2.2.1 316 = .ok (.isub, 1) := dzq_100 (by decide +kernel)
theorem D_323_317 : decode J_323.2.2.1 317 = .ok (.iconst 0, 1) := dzq_3 (by decide +kernel)
theorem D_323_318 : decode J_323.2.2.1 318 = .ok (.iastore, 1) := dzq_79 (by decide +kernel)
theorem D_323_319 : decode J_323.2.2.1 319 = .ok (.goto 203, 3) := dzq_167 (by decide +kernel)
theorem D_323_322 : decode J_323.2.2.1 322 = .ok (.aload_n 0, 1) := dzq_42 (by decide +kernel)
theorem D_323_323 : decode J_323.2.2.1 323 = .ok (.getfield 191, 3) := dzq_180 (by decide +kernel)
theorem D_323_326 : decode J_323.2.2.1 326 = .ok (.aload_n 0, 1) := dzq_42 (by decide +kernel)
theorem D_323_327 : decode J_323.2.2.1 327 = .ok (.getfield 567, 3) := dzq_180 (by decide +kernel)
theorem D_323_330 : decode J_323.2.2.1 330 = .ok (.iconst 1, 1) := dzq_4 (by decide +kernel)
theorem D_323_331 : decode J_323.2.2.1 331 = .ok (.isub, 1) := dzq_100 (by decide +kernel)
theorem D_323_332 : decode J_323.2.2.1 332 = .ok (.iaload, 1) := dzq_46 (by decide +kernel)
theorem D_323_333 : decode J_323.2.2.1 333 = .ok (.iconst (-1), 1) := dzq_2 (by decide +kernel)
theorem D_323_334 : decode J_323.2.2.1 334 = .ok (.if_icmp .eq 188, 3) := dzq_159 (by decide +kernel)
theorem D_323_337 : decode J_323.2.2.1 337 = .ok (.aload_n 0, 1) := dzq_42 (by decide +kernel)
theorem D_323_338 : decode J_323.2.2.1 338 = .ok (.bipush 7, 2) := dzq_16 (by decide +kernel)
theorem D_323_340 : decode J_323.2.2.1 340 = .ok (.aload_n 0, 1) := dzq_42 (by decide +kernel)
theorem D_323_341 : decode J_323.2.2.1 341 = .ok (.getfield 151, 3) := dzq_180 (by decide +kernel)
theorem D_323_344 : decode J_323.2.2.1 344 = .ok (.iload_n 1, 1) := dzq_27 (by decide +kernel)
theorem D_323_345 : decode J_323.2.2.1 345 = .ok (.iaload, 1) := dzq_46 (by decide +kernel)
theorem D_323_346 : decode J_323.2.2.1 346 = .ok (.invokevirtual 339, 3) := dzq_182 (by decide +kernel)
theorem D_323_349 : decode J_323.2.2.1 349 = .ok (.goto 173, 3) := dzq_167 (by decide +kernel)
theorem D_323_352 : decode J_323.2.2.1 352 = .ok (.aload_n 0, 1) := dzq_42 (by decide +kernel)
theorem D_323_353 : decode J_323.2.2.1 353 = .ok (.iload_n 1, 1) := dzq_27 (by decide +kernel)
theorem D_323_354 : decode J_323.2.2.1 354 = .ok (.invokevirtual 600, 3) := dzq_182 (by decide +kernel)
theorem D_323_357 : decode J_323.2.2.1 357 = .ok (.goto 165, 3) := dzq_167 (by decide +kernel)
theorem D_323_360 : decode J_323.2.2.1 360 = .ok (.aload_n 0, 1) := dzq_42 (by decide +kernel)
theorem D_323_361 : decode J_323.2.2.1 361 = .ok (.iload_n 1, 1) := dzq_27 (by decide +kernel)
theorem D_323_362 : decode J_323.2.2.1 362 = .ok (.invokevirtual 603, 3) := dzq_182 (by decide +kernel)
theorem D_323_365 : decode J_323.2.2.1 365 = .ok (.goto 157, 3) := dzq_167 (by decide +kernel)
theorem D_323_368 : decode J_323.2.2.1 368 = .ok (.aload_n 0, 1) := dzq_42 (by decide +kernel)
theorem D_323_369 : decode J_323.2.2.1 369 = .ok (.iload_n 1, 1) := dzq_27 (by decide +kernel)
theorem D_323_370 : decode J_323.2.2.1 370 = .ok (.invokevirtual 606, 3) := dzq_182 (by decide +kernel)
theorem D_323_373 : decode J_323.2.2.1 373 = .ok (.goto 149, 3) := dzq_167 (by decide +kernel)
theorem D_323_376 : decode J_323.2.2.1 376 = .ok (.aload_n 0, 1) := dzq_42 (by decide +kernel)
theorem D_323_377 : decode J_323.2.2.1 377 = .ok (.dup, 1) := dzq_89 (by decide +kernel)
theorem D_323_378 : decode J_323.2.2.1 378 = .ok (.getfield 591, 3) := dzq_180 (by decide +kernel)
theorem D_323_381 : decode J_323.2.2.1 381 = .ok (.iconst 1, 1) := dzq_4 (by decide +kernel)
theorem D_323_382 : decode J_323.2.2.1 382 = .ok (.isub, 1) := dzq_100 (by decide +kernel)
theorem D_323_383 : decode J_323.2.2.1 383 = .ok (.putfield 591, 3) := dzq_181 (by decide +kernel)
theorem D_323_386 : decode J_323.2.2.1 386 = .ok (.iconst 0, 1) := dzq_3 (by decide +kernel)
theorem D_323_387 : decode J_323.2.2.1 387 = .ok (.istore_n 2, 1) := dzq_61 (by decide +kernel)
theorem D_323_388 : decode J_323.2.2.1 388 = .ok (.iload_n 2, 1) := dzq_28 (by decide +kernel)
theorem D_323_389 : decode J_323.2.2.1 389 = .ok (.iconst 5, 1) := dzq_8 (by decide +kernel)
theorem D_323_390 : decode J_323.2.2.1 390 = .ok (.if_icmp .ge 28, 3) := dzq_162 (by decide +kernel)
theorem D_323_393 : decode J_323.2.2.1 393 = .ok (.aload_n 0, 1) := dzq_42 (by decide +kernel)
theorem D_323_394 : decode J_323.2.2.1 394 = .ok (.getfield 221, 3) := dzq_180 (by decide +kernel)
theorem D_323_397 : decode J_323.2.2.1 397 = .ok (.iload_n 2, 1) := dzq_28 (by decide +kernel)
theorem D_323_398 : decode J_323.2.2.1 398 = .ok (.aload_n 0, 1) := dzq_42 (by decide +kernel)
theorem D_323_399 : decode J_323.2.2.1 399 = .ok (.getfield 215, 3) := dzq_180 (by decide +kernel)
theorem D_323_402 : decode J_323.2.2.1 402 = .ok (.iconst 5, 1) := dzq_8 (by decide +kernel)
theorem D_323_403 : decode J_323.2.2.1 403 = .ok (.aload_n 0, 1) := dzq_42 (by decide +kernel)
theorem D_323_404 : decode J_323.2.2.1 404 = .ok (.getfield 591, 3) := dzq_180 (by decide +kernel)
theorem D_323_407 : decode J_323.2.2.1 407 = .ok (.imul, 1) := dzq_104 (by decide +kernel)
theorem D_323_408 : decode J_323.2.2.1 408 = .ok (.iload_n 2, 1) := dzq_28 (by decide +kernel)
theorem D_323_409 : decode J_323.2.2.1 409 = .ok (.iadd, 1) := dzq_96 (by decide +kernel)
theorem D_323_410 : decode J_323.2.2.1 410 = .ok (.iaload, 1) := dzq_46 (by decide +kernel)
theorem D_323_411 : decode J_323.2.2.1 411 = .ok (.iastore, 1) := dzq_79 (by decide +kernel)
theorem D_323_412 : decode J_323.2.2.1 412 = .ok (.iinc 2 1, 3) := dzq_132 (by decide +kernel)
theorem D_323_415 : decode J_323.2.2.1 415 = .ok (.goto (-27), 3) := dzq_167 (by decide +kernel)
theorem D_323_418 : decode J_323.2.2.1 418 = .ok (.aload_n 0, 1) := dzq_42 (by decide +kernel)
theorem D_323_419 : decode J_323.2.2.1 419 = .ok (.aload_n 0, 1) := dzq_42 (by decide +kernel)
theorem D_323_420 : decode J_323.2.2.1 420 = .ok (.getfield 97, 3) := dzq_180 (by decide +kernel)
theorem D_323_423 : decode J_323.2.2.1 423 = .ok (.aload_n 0, 1) := dzq_42 (by decide +kernel)
theorem D_323_424 : decode J_323.2.2.1 424 = .ok (.getfield 212, 3) := dzq_180 (by decide +kernel)
theorem D_323_427 : decode J_323.2.2.1 427 = .ok (.aload_n 0, 1) := dzq_42 (by decide +kernel)
theorem D_323_428 : decode J_323.2.2.1 428 = .ok (.getfield 591, 3) := dzq_180 (by decide +kernel)
theorem D_323_431 : decode J_323.2.2.1 431 = .ok (.iaload, 1) := dzq_46 (by decide +kernel)
theorem D_323_432 : decode J_323.2.2.1 432 = .ok (.iaload, 1) := dzq_46 (by decide +kernel)
theorem D_323_433 : decode J_323.2.2.1 433 = .ok (.invokevirtual 609, 3) := dzq_182 (by decide +kernel)
theorem D_323_436 : decode J_323.2.2.1 436 = .ok (.goto 86, 3) := dzq_167 (by decide +kernel)
theorem D_323_439 : decode J_323.2.2.1 439 = .ok (.aload_n 0, 1) := dzq_42 (by decide +kernel)
theorem D_323_440 : decode J_323.2.2.1 440 = .ok (.aload_n 0, 1) := dzq_42 (by decide +kernel)
theorem D_323_441 : decode J_323.2.2.1 441 = .ok (.getfield 154, 3) := dzq_180 (by decide +kernel)
theorem D_323_444 : decode J_323.2.2.1 444 = .ok (.iload_n 1, 1) := dzq_27 (by decide +kernel)
theorem D_323_445 : decode J_323.2.2.1 445 = .ok (.iaload, 1) := dzq_46 (by decide +kernel)
theorem D_323_446 : decode J_323.2.2.1 446 = .ok (.aload_n 0, 1) := dzq_42 (by decide +kernel)
theorem D_323_447 : decode J_323.2.2.1 447 = .ok (.getfield 582, 3) := dzq_180 (by decide +kernel)
theorem D_323_450 : decode J_323.2.2.1 450 = .ok (.invokevirtual 541, 3) := dzq_182 (by decide +kernel)
theorem D_323_453 : decode J_323.2.2.1 453 = .ok (.aload_n 0, 1) := dzq_42 (by decide +kernel)
theorem D_323_454 : decode J_323.2.2.1 454 = .ok (.getfield 333, 3) := dzq_180 (by decide +kernel)
theorem D_323_457 : decode J_323.2.2.1 457 = .ok (.ifCond .ne 30, 3) := dzq_154 (by decide +kernel)
theorem D_323_460 : decode J_323.2.2.1 460 = .ok (.aload_n 0, 1) := dzq_42 (by decide +kernel)
theorem D_323_461 : decode J_323.2.2.1 461 = .ok (.getfield 191, 3) := dzq_180 (by decide +kernel)
theorem D_323_464 : decode J_323.2.2.1 464 = .ok (.aload_n 0, 1) := dzq_42 (by decide +kernel)
theorem D_323_465 : decode J_323.2.2.1 465 = .ok (.getfield 567, 3) := dzq_180 (by decide +kernel)
theorem D_323_468 : decode J_323.2.2.1 468 = .ok (.iconst 1, 1) := dzq_4 (by decide +kernel)
theorem D_323_469 : decode J_323.2.2.1 469 = .ok (.isub, 1) := dzq_100 (by decide +kernel)
theorem D_323_470 : decode J_323.2.2.1 470 = .ok (.iaload, 1) := dzq_46 (by decide +kernel)
theorem D_323_471 : decode J_323.2.2.1 471 = .ok (.iconst (-1), 1) := dzq_2 (by decide +kernel)
theorem D_323_472 : decode J_323.2.2.1 472 = .ok (.if_icmp .ne 15, 3) := dzq_160 (by decide +kernel)
theorem D_323_475 : decode J_323.2.2.1 475 = .ok (.aload_n 0, 1) := dzq_42 (by decide +kernel)
theorem D_323_476 : decode J_323.2.2.1 476 = .ok (.bipush 7, 2) := dzq_16 (by decide +kernel)
theorem D_323_478 : decode J_323.2.2.1 478 = .ok (.aload_n 0, 1) := dzq_42 (by decide +kernel)
theorem D_323_479 : decode J_323.2.2.1 479 = .ok (.getfield 151, 3) := dzq_180 (by decide +kernel)
theorem D_323_482 : decode J_323.2.2.1 482 = .ok (.iload_n 1, 1) := dzq_27 (by decide +kernel)
theorem D_323_483 : decode J_323.2.2.1 483 = .ok (.iaload, 1) := dzq_46 (by decide +kernel)
theorem D_323_484 : decode J_323.2.2.1 484 = .ok (.invokevirtual 339, 3) := dzq_182 (by decide +kernel)
theorem D_323_487 : decode J_323.2.2.1 487 = .ok (.aload_n 0, 1) := dzq_42 (by decide +kernel)
theorem D_323_488 : decode J_323.2.2.1 488 = .ok (.dup, 1) := dzq_89 (by decide +kernel)
theorem D_323_489 : decode J_323.2.2.1 489 = .ok (.getfield 567, 3) := dzq_180 (by decide +kernel)
theorem D_323_492 : decode J_323.2.2.1 492 = .ok (.iconst 1, 1) := dzq_4 (by decide +kernel)
theorem D_323_493 : decode J_323.2.2.1 493 = .ok (.isub, 1) := dzq_100 (by decide +kernel)
theorem D_323_494 : decode J_323.2.2.1 494 = .ok (.putfield 567, 3) := dzq_181 (by decide +kernel)
theorem D_323_497 : decode J_323.2.2.1 497 = .ok (.aload_n 0, 1) := dzq_42 (by decide +kernel)
theorem D_323_498 : decode J_323.2.2.1 498 = .ok (.getfield 333, 3) := dzq_180 (by decide +kernel)
theorem D_323_501 : decode J_323.2.2.1 501 = .ok (.ifCond .ne 21, 3) := dzq_154 (by decide +kernel)
theorem D_323_504 : decode J_323.2.2.1 504 = .ok (.aload_n 0, 1) := dzq_42 (by decide +kernel)
theorem D_323_505 : decode J_323.2.2.1 505 = .ok (.aload_n 0, 1) := dzq_42 (by decide +kernel)
theorem D_323_506 : decode J_323.2.2.1 506 = .ok (.getfield 154, 3) := dzq_180 (by decide +kernel)
theorem D_323_509 : decode J_323.2.2.1 509 = .ok (.iload_n 1, 1) := dzq_27 (by decide +kernel)
theorem D_323_510 : decode J_323.2.2.1 510 = .ok (.iaload, 1) := dzq_46 (by decide +kernel)
theorem D_323_511 : decode J_323.2.2.1 511 = .ok (.invokevirtual 573, 3) := dzq_182 (by decide +kernel)
theorem D_323_514 : decode J_323.2.2.1 514 = .ok (.goto 8, 3) := dzq_167 (by decide +kernel)
theorem D_323_517 : decode J_323.2.2.1 517 = .ok (.aload_n 0, 1) := dzq_42 (by decide +kernel)
theorem D_323_518 : decode J_323.2.2.1 518 = .ok (.iload_n 1, 1) := dzq_27 (by decide +kernel)
theorem D_323_519 : decode J_323.2.2.1 519 = .ok (.invokevirtual 612, 3) := dzq_182 (by decide +kernel)
theorem D_323_522 : decode J_323.2.2.1 522 = .ok (.return_, 1) := dzq_177 (by decide +kernel)
def P_323_181 (X : mjX) (d C S kc ks : Nat) (k : Nat → Int32 → mjH → mjU) : Prop := ∀ (l0 : Nat) (l2 : Int32) (hp : mjH) (q : Option Value × mjH), k l0 l2 hp = some q → mjG X d C S J_323 (mjEq q) 181 [some (.ref l0), none, some (.int l2)] [] hp kc ks
def P_323_223 (X : mjX) (d C S kc ks : Nat) (k : Nat → Int32 → mjH → mjU) : Prop := ∀ (l0 : Nat) (l1 : Int32) (hp : mjH) (q : Option Value × mjH), k l0 l1 hp = some q → mjG X d C S J_323 (mjEq q) 223 [some (.ref l0), some (.int l1), none] [] hp kc ks
def P_323_360 (X : mjX) (d C S kc ks : Nat) (k : Nat → Int32 → mjH → mjU) : Prop := ∀ (l0 : Nat) (l1 : Int32) (hp : mjH) (q : Option Value × mjH), k l0 l1 hp = some q → mjG X d C S J_323 (mjEq q) 360 [some (.ref l0), some (.int l1), none] [] hp kc ks
def P_323_388 (X : mjX) (d C S kc ks : Nat) (k : Nat → Int32 → mjH → mjU) : Prop := ∀ (l0 : Nat) (l2 : Int32) (hp : mjH) (q : Option Value × mjH), k l0 l2 hp = some q → mjG X d C S J_323 (mjEq q) 388 [some (.ref l0), none, some (.int l2)] [] hp kc ks
def P_323_487 (X : mjX) (d C S kc ks : Nat) (k : Nat → Int32 → mjH → mjU) : Prop := ∀ (l0 : Nat) (l1 : Int32) (hp : mjH) (q : Option Value × mjH), k l0 l1 hp = some q → mjG X d C S J_323 (mjEq q) 487 [some (.ref l0), some (.int l1), none] [] hp kc ks
def P_323_517 (X : mjX) (d C S kc ks : Nat) (k : Nat → Int32 → mjH → mjU) : Prop := ∀ (l0 : Nat) (l1 : Int32) (hp : mjH) (q : Option Value × mjH), k l0 l1 hp = some q → mjG X d C S J_323 (mjEq q) 517 [some (.ref l0), some (.int l1), none] [] hp kc ks
def P_323_0 (X : mjX) (d C S kc ks : Nat) (k : Nat → Int32 → mjH → mjU) : Prop := ∀ (l0 : Nat) (l1 : Int32) (hp : mjH) (q : Option Value × mjH), k l0 l1 hp = some q → mjG X d C S J_323 (mjEq q) 0 [some (.ref l0), some (.int l1), none] [] hp kc ks
noncomputable def b_323_181 (R : mjR) (k181 : Nat → Int32 → mjH → mjU) (l0 : Nat) (l2 : Int32) (hp : mjH) : mjU := (if (5 : Int32) ≤ l2 then gR hp l0 12 80 (fun v1 => gI hp l0 12 82 (fun v2 => sI hp v1 (v2 - (1 : Int32)) (1 : Int32) (fun hp3 => some (none, hp3)))) else gR hp l0 12 81 (fun v4 => gI hp l0 12 82 (fun v5 => sI hp v4 ((((5 : Int32) * v5) - (5 : Int32)) + l2) l2 (fun hp6 => k181 l0 (l2 + (1 : Int32)) hp6))))
theorem t_323_181 {X : mjX} {d C S kc ks : Nat} {R : mjR} (hR : mjC R d) (h1 : kc ≤ C) (h2 : ks ≤ S) {k181 : Nat → Int32 → mjH → mjU} (hk181 : P_323_181 X (d + 1) C S kc ks k181) : P_323_181 X (d + 1) C S kc ks (b_323_181 R k181) := by
  intro l0 l2 hp q h
  unfold b_323_181 at h
  refine mjr_iload_n (x := l2) D_323_181 rfl ?_
  refine mjq_ic (v := (5 : Int32)) D_323_182 rfl ?_
  refine mjq_icmp_ge (tgt := 208) D_323_183 rfl h (fun h => ?_) (fun h => ?_)
  · refine mjr_aload_n (x := l0) D_323_208 rfl ?_
    refine mjq_gR D_323_209 fr_12_194 h (fun v1 h => ?_)
    refine mjr_aload_n (x := l0) D_323_212 rfl ?_
    refine mjq_gI D_323_213 fr_12_567 h (fun v2 h => ?_)
    refine mjq_ic (v := (1 : Int32)) D_323_216 rfl ?_
    refine mjr_isub D_323_217 ?_
    refine mjq_ic (v := (1 : Int32)) D_323_218 rfl ?_
    refine mjq_sI D_323_219 h (fun hp3 h => ?_)
    refine mjr_goto (tgt := 522) D_323_220 rfl ?_
    exact mjq_nret D_323_522 rfl h1 h2 h
  · refine mjr_aload_n (x := l0) D_323_186 rfl ?_
    refine mjq_gR D_323_187 fr_12_197 h (fun v4 h => ?_)
    refine mjq_ic (v := (5 : Int32)) D_323_190 rfl ?_
    refine mjr_aload_n (x := l0) D_323_191 rfl ?_
    refine mjq_gI D_323_192 fr_12_567 h (fun v5 h => ?_)
    refine mjr_imul D_323_195 ?_
    refine mjq_ic (v := (5 : Int32)) D_323_196 rfl ?_
    refine mjr_isub D_323_197 ?_
    refine mjr_iload_n (x := l2) D_323_198 rfl ?_
    refine mjr_iadd D_323_199 ?_
    refine mjr_iload_n (x := l2) D_323_200 rfl ?_
    refine mjq_sI D_323_201 h (fun hp6 h => ?_)
    refine mjq_iinc (x := l2) (c := (1 : Int32)) (lo' := [some (.ref l0), none, some (.int (l2 + (1 : Int32)))]) D_323_202 rfl (Nat.le_of_ble_eq_true rfl) rfl rfl ?_
    refine mjr_goto (tgt := 181) D_323_205 rfl ?_
    exact hk181 _ _ _ _ h
noncomputable def L_323_181 (R : mjR) (n : Nat) : Nat → Int32 → mjH → mjU := Nat.rec (motive := fun _ => Nat → Int32 → mjH → mjU) (fun _ _ _ => none) (fun _ self => b_323_181 R self) n
theorem T_323_181 {X : mjX} {d C S kc ks : Nat} {R : mjR} (hR : mjC R d) (h1 : kc ≤ C) (h2 : ks ≤ S) (n : Nat) : P_323_181 X (d + 1) C S kc ks (L_323_181 R n) := by
  induction n with
  | zero => intro _ _ _ _ h; exact mj_no h
  | succ n ih => exact t_323_181 hR h1 h2 ih
noncomputable def b_323_223 (R : mjR) (l0 : Nat) (l1 : Int32) (hp : mjH) : mjU := gR hp l0 12 58 (fun v1 => aL hp v1 l1 (fun v2 => rV hp l0 12 (bI (R 325 [.ref l0, .long v2] hp) (fun v3 hp4 => (if v3 = (-1 : Int32) then gR hp4 l0 12 55 (fun v10 => aI hp4 v10 l1 (fun v11 => rV hp4 l0 12 (bN (R 268 [.ref l0, .int (5 : Int32), .int v11] hp4) (fun  hp12 => some (none, hp12))))) else gR hp4 l0 12 56 (fun v5 => sI hp4 v5 l1 v3 (fun hp6 => gR hp6 l0 12 84 (fun v7 => aI hp6 v7 v3 (fun v8 => rV hp6 l0 12 (bN (R 326 [.ref l0, .int v8] hp6) (fun  hp9 => some (none, hp9))))))))))))
theorem t_323_223 {X : mjX} {d C S kc ks : Nat} {R : mjR} (hR : mjC R d) (h1 : kc ≤ C) (h2 : ks ≤ S) : P_323_223 X (d + 1) C S kc ks (b_323_223 R) := by
  intro l0 l1 hp q h
  unfold b_323_223 at h
  refine mjr_aload_n (x := l0) D_323_223 rfl ?_
  refine mjr_aload_n (x := l0) D_323_224 rfl ?_
  refine mjq_gR D_323_225 fr_12_160 h (fun v1 h => ?_)
  refine mjr_iload_n (x := l1) D_323_228 rfl ?_
  refine mjq_aL D_323_229 h (fun v2 h => ?_)
  refine mjq_vI (As := [.long v2]) (rest := []) D_323_230 mr_12_597 V_325 rfl rfl rfl hR (Nat.le_refl _) h1 h2 h (fun v3 hp4 h => ?_)
  refine mjq_istore_n (lo' := [some (.ref l0), some (.int l1), some (.int v3)]) D_323_233 (Nat.le_of_ble_eq_true rfl) rfl ?_
  refine mjr_iload_n (x := v3) D_323_234 rfl ?_
  refine mjq_ic (v := (-1 : Int32)) D_323_235 rfl ?_
  refine mjq_icmp_ne (tgt := 253) D_323_236 rfl h (fun h => ?_) (fun h => ?_)
  · refine mjr_aload_n (x := l0) D_323_253 rfl ?_
    refine mjq_gR D_323_254 fr_12_154 h (fun v5 h => ?_)
    refine mjr_iload_n (x := l1) D_323_257 rfl ?_
    refine mjr_iload_n (x := v3) D_323_258 rfl ?_
    refine mjq_sI D_323_259 h (fun hp6 h => ?_)
    refine mjr_aload_n (x := l0) D_323_260 rfl ?_
    refine mjr_aload_n (x := l0) D_323_261 rfl ?_
    refine mjq_gR D_323_262 fr_12_203 h (fun v7 h => ?_)
    refine mjr_iload_n (x := v3) D_323_265 rfl ?_
    refine mjq_aI D_323_266 h (fun v8 h => ?_)
    refine mjq_vN (As := [.int v8]) (rest := []) D_323_267 mr_12_573 V_326 rfl rfl rfl hR (Nat.le_refl _) h1 h2 h (fun  hp9 h => ?_)
    refine mjr_goto (tgt := 522) D_323_270 rfl ?_
    exact mjq_nret D_323_522 rfl h1 h2 h
  · refine mjr_aload_n (x := l0) D_323_239 rfl ?_
    refine mjq_ic (v := (5 : Int32)) D_323_240 rfl ?_
    refine mjr_aload_n (x := l0) D_323_241 rfl ?_
    refine mjq_gR D_323_242 fr_12_151 h (fun v10 h => ?_)
    refine mjr_iload_n (x := l1) D_323_245 rfl ?_
    refine mjq_aI D_323_246 h (fun v11 h => ?_)
    refine mjq_vN (As := [.int (5 : Int32), .int v11]) (rest := []) D_323_247 mr_12_339 V_268 rfl rfl rfl hR (Nat.le_refl _) h1 h2 h (fun  hp12 h => ?_)
    refine mjr_goto (tgt := 522) D_323_250 rfl ?_
    exact mjq_nret D_323_522 rfl h1 h2 h
noncomputable def b_323_360 (R : mjR) (l0 : Nat) (l1 : Int32) (hp : mjH) : mjU := rV hp l0 12 (bN (R 328 [.ref l0, .int l1] hp) (fun  hp1 => some (none, hp1)))
theorem t_323_360 {X : mjX} {d C S kc ks : Nat} {R : mjR} (hR : mjC R d) (h1 : kc ≤ C) (h2 : ks ≤ S) : P_323_360 X (d + 1) C S kc ks (b_323_360 R) := by
  intro l0 l1 hp q h
  unfold b_323_360 at h
  refine mjr_aload_n (x := l0) D_323_360 rfl ?_
  refine mjr_iload_n (x := l1) D_323_361 rfl ?_
  refine mjq_vN (As := [.int l1]) (rest := []) D_323_362 mr_12_603 V_328 rfl rfl rfl hR (Nat.le_refl _) h1 h2 h (fun  hp1 h => ?_)
  refine mjr_goto (tgt := 522) D_323_365 rfl ?_
  exact mjq_nret D_323_522 rfl h1 h2 h
noncomputable def b_323_388 (R : mjR) (k388 : Nat → Int32 → mjH → mjU) (l0 : Nat) (l2 : Int32) (hp : mjH) : mjU := (if (5 : Int32) ≤ l2 then gR hp l0 12 37 (fun v1 => gR hp l0 12 89 (fun v2 => gI hp l0 12 92 (fun v3 => aI hp v2 v3 (fun v4 => aI hp v1 v4 (fun v5 => rV hp l0 12 (bN (R 332 [.ref l0, .int v5] hp) (fun  hp6 => some (none, hp6)))))))) else gR hp l0 12 93 (fun v7 => gR hp l0 12 90 (fun v8 => gI hp l0 12 92 (fun v9 => aI hp v8 (((5 : Int32) * v9) + l2) (fun v10 => sI hp v7 l2 v10 (fun hp11 => k388 l0 (l2 + (1 : Int32)) hp11))))))
theorem t_323_388 {X : mjX} {d C S kc ks : Nat} {R : mjR} (hR : mjC R d) (h1 : kc ≤ C) (h2 : ks ≤ S) {k388 : Nat → Int32 → mjH → mjU} (hk388 : P_323_388 X (d + 1) C S kc ks k388) : P_323_388 X (d + 1) C S kc ks (b_323_388 R k388) := by
  intro l0 l2 hp q h
  unfold b_323_388 at h
  refine mjr_iload_n (x := l2) D_323_388 rfl ?_
  refine mjq_ic (v := (5 : Int32)) D_323_389 rfl ?_
  refine mjq_icmp_ge (tgt := 418) D_323_390 rfl h (fun h => ?_) (fun h => ?_)
  · refine mjr_aload_n (x := l0) D_323_418 rfl ?_
    refine mjr_aload_n (x := l0) D_323_419 rfl ?_
    refine mjq_gR D_323_420 fr_12_97 h (fun v1 h => ?_)
    refine mjr_aload_n (x := l0) D_323_423 rfl ?_
    refine mjq_gR D_323_424 fr_12_212 h (fun v2 h => ?_)
    refine mjr_aload_n (x := l0) D_323_427 rfl ?_
    refine mjq_gI D_323_428 fr_12_591 h (fun v3 h => ?_)
    refine mjq_aI D_323_431 h (fun v4 h => ?_)
    refine mjq_aI D_323_432 h (fun v5 h => ?_)
    refine mjq_vN (As := [.int v5]) (rest := []) D_323_433 mr_12_609 V_332 rfl rfl rfl hR (Nat.le_refl _) h1 h2 h (fun  hp6 h => ?_)
    refine mjr_goto (tgt := 522) D_323_436 rfl ?_
    exact mjq_nret D_323_522 rfl h1 h2 h
  · refine mjr_aload_n (x := l0) D_323_393 rfl ?_
    refine mjq_gR D_323_394 fr_12_221 h (fun v7 h => ?_)
    refine mjr_iload_n (x := l2) D_323_397 rfl ?_
    refine mjr_aload_n (x := l0) D_323_398 rfl ?_
    refine mjq_gR D_323_399 fr_12_215 h (fun v8 h => ?_)
    refine mjq_ic (v := (5 : Int32)) D_323_402 rfl ?_
    refine mjr_aload_n (x := l0) D_323_403 rfl ?_
    refine mjq_gI D_323_404 fr_12_591 h (fun v9 h => ?_)
    refine mjr_imul D_323_407 ?_
    refine mjr_iload_n (x := l2) D_323_408 rfl ?_
    refine mjr_iadd D_323_409 ?_
    refine mjq_aI D_323_410 h (fun v10 h => ?_)
    refine mjq_sI D_323_411 h (fun hp11 h => ?_)
    refine mjq_iinc (x := l2) (c := (1 : Int32)) (lo' := [some (.ref l0), none, some (.int (l2 + (1 : Int32)))]) D_323_412 rfl (Nat.le_of_ble_eq_true rfl) rfl rfl ?_
    refine mjr_goto (tgt := 388) D_323_415 rfl ?_
    exact hk388 _ _ _ _ h
noncomputable def L_323_388 (R : mjR) (n : Nat) : Nat → Int32 → mjH → mjU := Nat.rec (motive := fun _ => Nat → Int32 → mjH → mjU) (fun _ _ _ => none) (fun _ self => b_323_388 R self) n
theorem T_323_388 {X : mjX} {d C S kc ks : Nat} {R : mjR} (hR : mjC R d) (h1 : kc ≤ C) (h2 : ks ≤ S) (n : Nat) : P_323_388 X (d + 1) C S kc ks (L_323_388 R n) := by
  induction n with
  | zero => intro _ _ _ _ h; exact mj_no h
  | succ n ih => exact t_323_388 hR h1 h2 ih
noncomputable def b_323_487 (R : mjR) (l0 : Nat) (l1 : Int32) (hp : mjH) : mjU := gI hp l0 12 82 (fun v1 => pI hp l0 12 82 (v1 - (1 : Int32)) (fun hp2 => gI hp2 l0 12 61 (fun v3 => (if v3 = 0 then gR hp2 l0 12 56 (fun v4 => aI hp2 v4 l1 (fun v5 => rV hp2 l0 12 (bN (R 326 [.ref l0, .int v5] hp2) (fun  hp6 => some (none, hp6))))) else some (none, hp2)))))
theorem t_323_487 {X : mjX} {d C S kc ks : Nat} {R : mjR} (hR : mjC R d) (h1 : kc ≤ C) (h2 : ks ≤ S) : P_323_487 X (d + 1) C S kc ks (b_323_487 R) := by
  intro l0 l1 hp q h
  unfold b_323_487 at h
  refine mjr_aload_n (x := l0) D_323_487 rfl ?_
  refine mjr_dup D_323_488 rfl ?_
  refine mjq_gI D_323_489 fr_12_567 h (fun v1 h => ?_)
  refine mjq_ic (v := (1 : Int32)) D_323_492 rfl ?_
  refine mjr_isub D_323_493 ?_
  refine mjq_pI D_323_494 fr_12_567 rfl rfl h (fun hp2 h => ?_)
  refine mjr_aload_n (x := l0) D_323_497 rfl ?_
  refine mjq_gI D_323_498 fr_12_333 h (fun v3 h => ?_)
  refine mjq_if_ne (tgt := 522) D_323_501 rfl h (fun h => ?_) (fun h => ?_)
  · exact mjq_nret D_323_522 rfl h1 h2 h
  · refine mjr_aload_n (x := l0) D_323_504 rfl ?_
    refine mjr_aload_n (x := l0) D_323_505 rfl ?_
    refine mjq_gR D_323_506 fr_12_154 h (fun v4 h => ?_)
    refine mjr_iload_n (x := l1) D_323_509 rfl ?_
    refine mjq_aI D_323_510 h (fun v5 h => ?_)
    refine mjq_vN (As := [.int v5]) (rest := []) D_323_511 mr_12_573 V_326 rfl rfl rfl hR (Nat.le_refl _) h1 h2 h (fun  hp6 h => ?_)
    refine mjr_goto (tgt := 522) D_323_514 rfl ?_
    exact mjq_nret D_323_522 rfl h1 h2 h
noncomputable def b_323_517 (R : mjR) (l0 : Nat) (l1 : Int32) (hp : mjH) : mjU := rV hp l0 12 (bN (R 335 [.ref l0, .int l1] hp) (fun  hp1 => some (none, hp1)))
theorem t_323_517 {X : mjX} {d C S kc ks : Nat} {R : mjR} (hR : mjC R d) (h1 : kc ≤ C) (h2 : ks ≤ S) : P_323_517 X (d + 1) C S kc ks (b_323_517 R) := by
  intro l0 l1 hp q h
  unfold b_323_517 at h
  refine mjr_aload_n (x := l0) D_323_517 rfl ?_
  refine mjr_iload_n (x := l1) D_323_518 rfl ?_
  refine mjq_vN (As := [.int l1]) (rest := []) D_323_519 mr_12_612 V_335 rfl rfl rfl hR (Nat.le_refl _) h1 h2 h (fun  hp1 h => ?_)
  exact mjq_nret D_323_522 rfl h1 h2 h
noncomputable def b_323_0 (R : mjR) (l0 : Nat) (l1 : Int32) (hp : mjH) : mjU := gR hp l0 12 54 (fun v1 => aI hp v1 l1 (fun v2 => (if v2 = (3 : Int32) then rV hp l0 12 (bN (R 324 [.ref l0, .int (-1 : Int32)] hp) (fun  hp4 => some (none, hp4))) else if v2 = (4 : Int32) then rV hp l0 12 (bN (R 324 [.ref l0, .int (-2 : Int32)] hp) (fun  hp6 => some (none, hp6))) else if v2 = (5 : Int32) then gI hp l0 12 132 (fun v8 => (if v8 = (-1 : Int32) then gR hp l0 12 55 (fun v11 => aI hp v11 l1 (fun v12 => rV hp l0 12 (bN (R 268 [.ref l0, .int (5 : Int32), .int v12] hp) (fun  hp13 => some (none, hp13))))) else gI hp l0 12 132 (fun v9 => rV hp l0 12 (bN (R 324 [.ref l0, .int v9] hp) (fun  hp10 => L_323_181 R mjN l0 (0 : Int32) hp10))))) else if v2 = (6 : Int32) then b_323_223 R l0 l1 hp else if v2 = (7 : Int32) then gR hp l0 12 56 (fun v16 => aI hp v16 l1 (fun v17 => gI hp l0 12 132 (fun v18 => rV hp l0 12 (bN (R 313 [.ref l0, .int v17, .int v18] hp) (fun  hp19 => gI hp19 l0 12 61 (fun v20 => (if v20 = 0 then gR hp19 l0 12 56 (fun v21 => aI hp19 v21 l1 (fun v22 => rV hp19 l0 12 (bN (R 326 [.ref l0, .int v22] hp19) (fun  hp23 => some (none, hp23))))) else some (none, hp19)))))))) else if v2 = (8 : Int32) then gR hp l0 12 79 (fun v25 => gI hp l0 12 82 (fun v26 => aI hp v25 (v26 - (1 : Int32)) (fun v27 => (if v27 = (-1 : Int32) then some (none, hp) else gR hp l0 12 55 (fun v28 => aI hp v28 l1 (fun v29 => rV hp l0 12 (bN (R 268 [.ref l0, .int (7 : Int32), .int v29] hp) (fun  hp30 => some (none, hp30))))))))) else if v2 = (9 : Int32) then rV hp l0 12 (bN (R 327 [.ref l0, .int l1] hp) (fun  hp32 => some (none, hp32))) else if v2 = (10 : Int32) then b_323_360 R l0 l1 hp else if v2 = (11 : Int32) then b_323_360 R l0 l1 hp else if v2 = (12 : Int32) then rV hp l0 12 (bN (R 333 [.ref l0, .int l1] hp) (fun  hp36 => some (none, hp36))) else if v2 = (13 : Int32) then gI hp l0 12 92 (fun v38 => pI hp l0 12 92 (v38 - (1 : Int32)) (fun hp39 => L_323_388 R mjN l0 (0 : Int32) hp39)) else if v2 = (14 : Int32) then gR hp l0 12 56 (fun v41 => aI hp v41 l1 (fun v42 => gI hp l0 12 132 (fun v43 => rV hp l0 12 (bN (R 313 [.ref l0, .int v42, .int v43] hp) (fun  hp44 => gI hp44 l0 12 61 (fun v45 => (if v45 = 0 then gR hp44 l0 12 79 (fun v46 => gI hp44 l0 12 82 (fun v47 => aI hp44 v46 (v47 - (1 : Int32)) (fun v48 => (if v48 = (-1 : Int32) then gR hp44 l0 12 55 (fun v49 => aI hp44 v49 l1 (fun v50 => rV hp44 l0 12 (bN (R 268 [.ref l0, .int (7 : Int32), .int v50] hp44) (fun  hp51 => b_323_487 R l0 l1 hp51)))) else b_323_487 R l0 l1 hp44)))) else b_323_487 R l0 l1 hp44))))))) else if v2 = (15 : Int32) then b_323_223 R l0 l1 hp else if v2 = (16 : Int32) then b_323_360 R l0 l1 hp else if v2 = (17 : Int32) then b_323_517 R l0 l1 hp else if v2 = (18 : Int32) then b_323_517 R l0 l1 hp else if v2 = (19 : Int32) then b_323_517 R l0 l1 hp else if v2 = (20 : Int32) then b_323_517 R l0 l1 hp else if v2 = (21 : Int32) then b_323_517 R l0 l1 hp else if v2 = (22 : Int32) then b_323_517 R l0 l1 hp else if v2 = (23 : Int32) then b_323_517 R l0 l1 hp else if v2 = (24 : Int32) then b_323_517 R l0 l1 hp else if v2 = (25 : Int32) then b_323_517 R l0 l1 hp else if v2 = (26 : Int32) then b_323_517 R l0 l1 hp else if v2 = (27 : Int32) then b_323_517 R l0 l1 hp else if v2 = (28 : Int32) then b_323_517 R l0 l1 hp else if v2 = (29 : Int32) then b_323_517 R l0 l1 hp else if v2 = (30 : Int32) then gR hp l0 12 80 (fun v68 => gI hp l0 12 82 (fun v69 => sI hp v68 (v69 - (1 : Int32)) (0 : Int32) (fun hp70 => some (none, hp70)))) else b_323_517 R l0 l1 hp)))
theorem t_323_0 {X : mjX} {d C S kc ks : Nat} {R : mjR} (hR : mjC R d) (h1 : kc ≤ C) (h2 : ks ≤ S) : P_323_0 X (d + 1) C S kc ks (b_323_0 R) := by
  intro l0 l1 hp q h
  unfold b_323_0 at h
  refine mjr_aload_n (x := l0) D_323_0 rfl ?_
  refine mjq_gR D_323_1 fr_12_148 h (fun v1 h => ?_)
  refine mjr_iload_n (x := l1) D_323_4 rfl ?_
  refine mjq_aI D_323_5 h (fun v2 h => ?_)
  refine mjq_tsw (c := (3 : Int32)) (tgt := 132) D_323_6 (by decide) (by decide) rfl rfl h (fun h => ?_) (fun n3 h => ?_)
  · refine mjr_aload_n (x := l0) D_323_132 rfl ?_
    refine mjq_ic (v := (-1 : Int32)) D_323_133 rfl ?_
    refine mjq_vN (As := [.int (-1 : Int32)]) (rest := []) D_323_134 mr_12_570 V_324 rfl rfl rfl hR (Nat.le_refl _) h1 h2 h (fun  hp4 h => ?_)
    refine mjr_goto (tgt := 522) D_323_137 rfl ?_
    exact mjq_nret D_323_522 rfl h1 h2 h
  refine mjq_tsw (c := (4 : Int32)) (tgt := 140) D_323_6 (by decide) (by decide) rfl rfl h (fun h => ?_) (fun n5 h => ?_)
  · refine mjr_aload_n (x := l0) D_323_140 rfl ?_
    refine mjq_bi (v := (-2 : Int32)) D_323_141 rfl ?_
    refine mjq_vN (As := [.int (-2 : Int32)]) (rest := []) D_323_143 mr_12_570 V_324 rfl rfl rfl hR (Nat.le_refl _) h1 h2 h (fun  hp6 h => ?_)
    refine mjr_goto (tgt := 522) D_323_146 rfl ?_
    exact mjq_nret D_323_522 rfl h1 h2 h
  refine mjq_tsw (c := (5 : Int32)) (tgt := 149) D_323_6 (by decide) (by decide) rfl rfl h (fun h => ?_) (fun n7 h => ?_)
  · refine mjr_aload_n (x := l0) D_323_149 rfl ?_
    refine mjq_gI D_323_150 fr_12_582 h (fun v8 h => ?_)
    refine mjq_ic (v := (-1 : Int32)) D_323_153 rfl ?_
    refine mjq_icmp_ne (tgt := 171) D_323_154 rfl h (fun h => ?_) (fun h => ?_)
    · refine mjr_aload_n (x := l0) D_323_171 rfl ?_
      refine mjr_aload_n (x := l0) D_323_172 rfl ?_
      refine mjq_gI D_323_173 fr_12_582 h (fun v9 h => ?_)
      refine mjq_vN (As := [.int v9]) (rest := []) D_323_176 mr_12_570 V_324 rfl rfl rfl hR (Nat.le_refl _) h1 h2 h (fun  hp10 h => ?_)
      refine mjq_ic (v := (0 : Int32)) D_323_179 rfl ?_
      refine mjq_istore_n (lo' := [some (.ref l0), some (.int l1), some (.int (0 : Int32))]) D_323_180 (Nat.le_of_ble_eq_true rfl) rfl ?_
      exact mjG.fg (lo' := [some (.ref l0), none, some (.int (0 : Int32))]) (And.intro rfl (And.intro rfl True.intro)) ((T_323_181 hR h1 h2 mjN) _ _ _ _ h)
    · refine mjr_aload_n (x := l0) D_323_157 rfl ?_
      refine mjq_ic (v := (5 : Int32)) D_323_158 rfl ?_
      refine mjr_aload_n (x := l0) D_323_159 rfl ?_
      refine mjq_gR D_323_160 fr_12_151 h (fun v11 h => ?_)
      refine mjr_iload_n (x := l1) D_323_163 rfl ?_
      refine mjq_aI D_323_164 h (fun v12 h => ?_)
      refine mjq_vN (As := [.int (5 : Int32), .int v12]) (rest := []) D_323_165 mr_12_339 V_268 rfl rfl rfl hR (Nat.le_refl _) h1 h2 h (fun  hp13 h => ?_)
      refine mjr_goto (tgt := 522) D_323_168 rfl ?_
      exact mjq_nret D_323_522 rfl h1 h2 h
  refine mjq_tsw (c := (6 : Int32)) (tgt := 223) D_323_6 (by decide) (by decide) rfl rfl h (fun h => ?_) (fun n14 h => ?_)
  · exact (t_323_223 hR h1 h2) _ _ _ _ h
  refine mjq_tsw (c := (7 : Int32)) (tgt := 273) D_323_6 (by decide) (by decide) rfl rfl h (fun h => ?_) (fun n15 h => ?_)
  · refine mjr_aload_n (x := l0) D_323_273 rfl ?_
    refine mjr_aload_n (x := l0) D_323_274 rfl ?_
    refine mjq_gR D_323_275 fr_12_154 h (fun v16 h => ?_)
    refine mjr_iload_n (x := l1) D_323_278 rfl ?_
    refine mjq_aI D_323_279 h (fun v17 h => ?_)
    refine mjr_aload_n (x := l0) D_323_280 rfl ?_
    refine mjq_gI D_323_281 fr_12_582 h (fun v18 h => ?_)
    refine mjq_vN (As := [.int v17, .int v18]) (rest := []) D_323_284 mr_12_541 V_313 rfl rfl rfl hR (Nat.le_refl _) h1 h2 h (fun  hp19 h => ?_)
    refine mjr_aload_n (x := l0) D_323_287 rfl ?_
    refine mjq_gI D_323_288 fr_12_333 h (fun v20 h => ?_)
    refine mjq_if_ne (tgt := 522) D_323_291 rfl h (fun h => ?_) (fun h => ?_)
    · exact mjq_nret D_323_522 rfl h1 h2 h
    · refine mjr_aload_n (x := l0) D_323_294 rfl ?_
      refine mjr_aload_n (x := l0) D_323_295 rfl ?_
      refine mjq_gR D_323_296 fr_12_154 h (fun v21 h => ?_)
      refine mjr_iload_n (x := l1) D_323_299 rfl ?_
      refine mjq_aI D_323_300 h (fun v22 h => ?_)
      refine mjq_vN (As := [.int v22]) (rest := []) D_323_301 mr_12_573 V_326 rfl rfl rfl hR (Nat.le_refl _) h1 h2 h (fun  hp23 h => ?_)
      refine mjr_goto (tgt := 522) D_323_304 rfl ?_
      exact mjq_nret D_323_522 rfl h1 h2 h
  refine mjq_tsw (c := (8 : Int32)) (tgt := 322) D_323_6 (by decide) (by decide) rfl rfl h (fun h => ?_) (fun n24 h => ?_)
  · refine mjr_aload_n (x := l0) D_323_322 rfl ?_
    refine mjq_gR D_323_323 fr_12_191 h (fun v25 h => ?_)
    refine mjr_aload_n (x := l0) D_323_326 rfl ?_
    refine mjq_gI D_323_327 fr_12_567 h (fun v26 h => ?_)
    refine mjq_ic (v := (1 : Int32)) D_323_330 rfl ?_
    refine mjr_isub D_323_331 ?_
    refine mjq_aI D_323_332 h (fun v27 h => ?_)
    refine mjq_ic (v := (-1 : Int32)) D_323_333 rfl ?_
    refine mjq_icmp_eq (tgt := 522) D_323_334 rfl h (fun h => ?_) (fun h => ?_)
    · exact mjq_nret D_323_522 rfl h1 h2 h
    · refine mjr_aload_n (x := l0) D_323_337 rfl ?_
      refine mjq_bi (v := (7 : Int32)) D_323_338 rfl ?_
      refine mjr_aload_n (x := l0) D_323_340 rfl ?_
      refine mjq_gR D_323_341 fr_12_151 h (fun v28 h => ?_)
      refine mjr_iload_n (x := l1) D_323_344 rfl ?_
      refine mjq_aI D_323_345 h (fun v29 h => ?_)
      refine mjq_vN (As := [.int (7 : Int32), .int v29]) (rest := []) D_323_346 mr_12_339 V_268 rfl rfl rfl hR (Nat.le_refl _) h1 h2 h (fun  hp30 h => ?_)
      refine mjr_goto (tgt := 522) D_323_349 rfl ?_
      exact mjq_nret D_323_522 rfl h1 h2 h
  refine mjq_tsw (c := (9 : Int32)) (tgt := 352) D_323_6 (by decide) (by decide) rfl rfl h (fun h => ?_) (fun n31 h => ?_)
  · refine mjr_aload_n (x := l0) D_323_352 rfl ?_
    refine mjr_iload_n (x := l1) D_323_353 rfl ?_
    refine mjq_vN (As := [.int l1]) (rest := []) D_323_354 mr_12_600 V_327 rfl rfl rfl hR (Nat.le_refl _) h1 h2 h (fun  hp32 h => ?_)
    refine mjr_goto (tgt := 522) D_323_357 rfl ?_
    exact mjq_nret D_323_522 rfl h1 h2 h
  refine mjq_tsw (c := (10 : Int32)) (tgt := 360) D_323_6 (by decide) (by decide) rfl rfl h (fun h => ?_) (fun n33 h => ?_)
  · exact (t_323_360 hR h1 h2) _ _ _ _ h
  refine mjq_tsw (c := (11 : Int32)) (tgt := 360) D_323_6 (by decide) (by decide) rfl rfl h (fun h => ?_) (fun n34 h => ?_)
  · exact (t_323_360 hR h1 h2) _ _ _ _ h
  refine mjq_tsw (c := (12 : Int32)) (tgt := 368) D_323_6 (by decide) (by decide) rfl rfl h (fun h => ?_) (fun n35 h => ?_)
  · refine mjr_aload_n (x := l0) D_323_368 rfl ?_
    refine mjr_iload_n (x := l1) D_323_369 rfl ?_
    refine mjq_vN (As := [.int l1]) (rest := []) D_323_370 mr_12_606 V_333 rfl rfl rfl hR (Nat.le_refl _) h1 h2 h (fun  hp36 h => ?_)
    refine mjr_goto (tgt := 522) D_323_373 rfl ?_
    exact mjq_nret D_323_522 rfl h1 h2 h
  refine mjq_tsw (c := (13 : Int32)) (tgt := 376) D_323_6 (by decide) (by decide) rfl rfl h (fun h => ?_) (fun n37 h => ?_)
  · refine mjr_aload_n (x := l0) D_323_376 rfl ?_
    refine mjr_dup D_323_377 rfl ?_
    refine mjq_gI D_323_378 fr_12_591 h (fun v38 h => ?_)
    refine mjq_ic (v := (1 : Int32)) D_323_381 rfl ?_
    refine mjr_isub D_323_382 ?_
    refine mjq_pI D_323_383 fr_12_591 rfl rfl h (fun hp39 h => ?_)
    refine mjq_ic (v := (0 : Int32)) D_323_386 rfl ?_
    refine mjq_istore_n (lo' := [some (.ref l0), some (.int l1), some (.int (0 : Int32))]) D_323_387 (Nat.le_of_ble_eq_true rfl) rfl ?_
    exact mjG.fg (lo' := [some (.ref l0), none, some (.int (0 : Int32))]) (And.intro rfl (And.intro rfl True.intro)) ((T_323_388 hR h1 h2 mjN) _ _ _ _ h)
  refine mjq_tsw (c := (14 : Int32)) (tgt := 439) D_323_6 (by decide) (by decide) rfl rfl h (fun h => ?_) (fun n40 h => ?_)
  · refine mjr_aload_n (x := l0) D_323_439 rfl ?_
    refine mjr_aload_n (x := l0) D_323_440 rfl ?_
    refine mjq_gR D_323_441 fr_12_154 h (fun v41 h => ?_)
    refine mjr_iload_n (x := l1) D_323_444 rfl ?_
    refine mjq_aI D_323_445 h (fun v42 h => ?_)
    refine mjr_aload_n (x := l0) D_323_446 rfl ?_
    refine mjq_gI D_323_447 fr_12_582 h (fun v43 h => ?_)
    refine mjq_vN (As := [.int v42, .int v43]) (rest := []) D_323_450 mr_12_541 V_313 rfl rfl rfl hR (Nat.le_refl _) h1 h2 h (fun  hp44 h => ?_)
    refine mjr_aload_n (x := l0) D_323_453 rfl ?_
    refine mjq_gI D_323_454 fr_12_333 h (fun v45 h => ?_)
    refine mjq_if_ne (tgt := 487) D_323_457 rfl h (fun h => ?_) (fun h => ?_)
    · exact (t_323_487 hR h1 h2) _ _ _ _ h
    · refine mjr_aload_n (x := l0) D_323_460 rfl ?_
      refine mjq_gR D_323_461 fr_12_191 h (fun v46 h => ?_)
      refine mjr_aload_n (x := l0) D_323_464 rfl ?_
      refine mjq_gI D_323_465 fr_12_567 h (fun v47 h => ?_)
      refine mjq_ic (v := (1 : Int32)) D_323_468 rfl ?_
      refine mjr_isub D_323_469 ?_
      refine mjq_aI D_323_470 h (fun v48 h => ?_)
      refine mjq_ic (v := (-1 : Int32)) D_323_471 rfl ?_
      refine mjq_icmp_ne (tgt := 487) D_323_472 rfl h (fun h => ?_) (fun h => ?_)
      · exact (t_323_487 hR h1 h2) _ _ _ _ h
      · refine mjr_aload_n (x := l0) D_323_475 rfl ?_
        refine mjq_bi (v := (7 : Int32)) D_323_476 rfl ?_
        refine mjr_aload_n (x := l0) D_323_478 rfl ?_
        refine mjq_gR D_323_479 fr_12_151 h (fun v49 h => ?_)
        refine mjr_iload_n (x := l1) D_323_482 rfl ?_
        refine mjq_aI D_323_483 h (fun v50 h => ?_)
        refine mjq_vN (As := [.int (7 : Int32), .int v50]) (rest := []) D_323_484 mr_12_339 V_268 rfl rfl rfl hR (Nat.le_refl _) h1 h2 h (fun  hp51 h => ?_)
        exact (t_323_487 hR h1 h2) _ _ _ _ h
  refine mjq_tsw (c := (15 : Int32)) (tgt := 223) D_323_6 (by decide) (by decide) rfl rfl h (fun h => ?_) (fun n52 h => ?_)
  · exact (t_323_223 hR h1 h2) _ _ _ _ h
  refine mjq_tsw (c := (16 : Int32)) (tgt := 360) D_323_6 (by decide) (by decide) rfl rfl h (fun h => ?_) (fun n53 h => ?_)
  · exact (t_323_360 hR h1 h2) _ _ _ _ h
  refine mjq_tsw (c := (17 : Int32)) (tgt := 517) D_323_6 (by decide) (by decide) rfl rfl h (fun h => ?_) (fun n54 h => ?_)
  · exact (t_323_517 hR h1 h2) _ _ _ _ h
  refine mjq_tsw (c := (18 : Int32)) (tgt := 517) D_323_6 (by decide) (by decide) rfl rfl h (fun h => ?_) (fun n55 h => ?_)
  · exact (t_323_517 hR h1 h2) _ _ _ _ h
  refine mjq_tsw (c := (19 : Int32)) (tgt := 517) D_323_6 (by decide) (by decide) rfl rfl h (fun h => ?_) (fun n56 h => ?_)
  · exact (t_323_517 hR h1 h2) _ _ _ _ h
  refine mjq_tsw (c := (20 : Int32)) (tgt := 517) D_323_6 (by decide) (by decide) rfl rfl h (fun h => ?_) (fun n57 h => ?_)
  · exact (t_323_517 hR h1 h2) _ _ _ _ h
  refine mjq_tsw (c := (21 : Int32)) (tgt := 517) D_323_6 (by decide) (by decide) rfl rfl h (fun h => ?_) (fun n58 h => ?_)
  · exact (t_323_517 hR h1 h2) _ _ _ _ h
  refine mjq_tsw (c := (22 : Int32)) (tgt := 517) D_323_6 (by decide) (by decide) rfl rfl h (fun h => ?_) (fun n59 h => ?_)
  · exact (t_323_517 hR h1 h2) _ _ _ _ h
  refine mjq_tsw (c := (23 : Int32)) (tgt := 517) D_323_6 (by decide) (by decide) rfl rfl h (fun h => ?_) (fun n60 h => ?_)
  · exact (t_323_517 hR h1 h2) _ _ _ _ h
  refine mjq_tsw (c := (24 : Int32)) (tgt := 517) D_323_6 (by decide) (by decide) rfl rfl h (fun h => ?_) (fun n61 h => ?_)
  · exact (t_323_517 hR h1 h2) _ _ _ _ h
  refine mjq_tsw (c := (25 : Int32)) (tgt := 517) D_323_6 (by decide) (by decide) rfl rfl h (fun h => ?_) (fun n62 h => ?_)
  · exact (t_323_517 hR h1 h2) _ _ _ _ h
  refine mjq_tsw (c := (26 : Int32)) (tgt := 517) D_323_6 (by decide) (by decide) rfl rfl h (fun h => ?_) (fun n63 h => ?_)
  · exact (t_323_517 hR h1 h2) _ _ _ _ h
  refine mjq_tsw (c := (27 : Int32)) (tgt := 517) D_323_6 (by decide) (by decide) rfl rfl h (fun h => ?_) (fun n64 h => ?_)
  · exact (t_323_517 hR h1 h2) _ _ _ _ h
  refine mjq_tsw (c := (28 : Int32)) (tgt := 517) D_323_6 (by decide) (by decide) rfl rfl h (fun h => ?_) (fun n65 h => ?_)
  · exact (t_323_517 hR h1 h2) _ _ _ _ h
  refine mjq_tsw (c := (29 : Int32)) (tgt := 517) D_323_6 (by decide) (by decide) rfl rfl h (fun h => ?_) (fun n66 h => ?_)
  · exact (t_323_517 hR h1 h2) _ _ _ _ h
  refine mjq_tsw (c := (30 : Int32)) (tgt := 307) D_323_6 (by decide) (by decide) rfl rfl h (fun h => ?_) (fun n67 h => ?_)
  · refine mjr_aload_n (x := l0) D_323_307 rfl ?_
    refine mjq_gR D_323_308 fr_12_194 h (fun v68 h => ?_)
    refine mjr_aload_n (x := l0) D_323_311 rfl ?_
    refine mjq_gI D_323_312 fr_12_567 h (fun v69 h => ?_)
    refine mjq_ic (v := (1 : Int32)) D_323_315 rfl ?_
    refine mjr_isub D_323_316 ?_
    refine mjq_ic (v := (0 : Int32)) D_323_317 rfl ?_
    refine mjq_sI D_323_318 h (fun hp70 h => ?_)
    refine mjr_goto (tgt := 522) D_323_319 rfl ?_
    exact mjq_nret D_323_522 rfl h1 h2 h
  refine mjr_tableOut (tgt := 517) D_323_6 (mj_swout [(3 : Int32), (4 : Int32), (5 : Int32), (6 : Int32), (7 : Int32), (8 : Int32), (9 : Int32), (10 : Int32), (11 : Int32), (12 : Int32), (13 : Int32), (14 : Int32), (15 : Int32), (16 : Int32), (17 : Int32), (18 : Int32), (19 : Int32), (20 : Int32), (21 : Int32), (22 : Int32), (23 : Int32), (24 : Int32), (25 : Int32), (26 : Int32), (27 : Int32), (28 : Int32), (29 : Int32), (30 : Int32)] (by decide) (mj_all1 n3 (mj_all1 n5 (mj_all1 n7 (mj_all1 n14 (mj_all1 n15 (mj_all1 n24 (mj_all1 n31 (mj_all1 n33 (mj_all1 n34 (mj_all1 n35 (mj_all1 n37 (mj_all1 n40 (mj_all1 n52 (mj_all1 n53 (mj_all1 n54 (mj_all1 n55 (mj_all1 n56 (mj_all1 n57 (mj_all1 n58 (mj_all1 n59 (mj_all1 n60 (mj_all1 n61 (mj_all1 n62 (mj_all1 n63 (mj_all1 n64 (mj_all1 n65 (mj_all1 n66 (mj_all1 n67 mj_all0))))))))))))))))))))))))))))) rfl ?_
  exact (t_323_517 hR h1 h2) _ _ _ _ h
noncomputable def f_323 (R : mjR) (a0 : Nat) (a1 : Int32) (hp : mjH) : mjU := b_323_0 R a0 a1 hp
theorem c_323 {R : mjR} {d : Nat} (hR : mjC R d) {a0 : Nat} {a1 : Int32} {hp : mjH} {q : Option Value × mjH} (h : f_323 R a0 a1 hp = some q) : mjM (d + 1) 0 0 323 [.ref a0, .int a1] hp (mjEq q) :=
  mjM_of Ja_323 (Nat.le_of_ble_eq_true rfl) (mjG.fg (lo' := [some (.ref a0), some (.int a1), none]) (And.intro rfl (And.intro rfl True.intro)) ((t_323_0 hR (Nat.le_refl 0) (Nat.le_refl 0)) a0 a1 hp q h))
def J_324 : mjI := (⟨"OwnerHeapModel", "type", "(I)V"⟩, 12, prog_14_method_67_code, 2, none, 1, false)
theorem Ja_324 : mjMt 324 = some J_324 := by rfl
theorem D_324_0 : decode J_324.2.2.1 0 = .ok (.aload_n 0, 1) := dzq_42 (by decide +kernel)
theorem D_324_1 : decode J_324.2.2.1 1 = .ok (.getfield 191, 3) := dzq_180 (by decide +kernel)
theorem D_324_4 : decode J_324.2.2.1 4 = .ok (.aload_n 0, 1) := dzq_42 (by decide +kernel)
theorem D_324_5 : decode J_324.2.2.1 5 = .ok (.getfield 567, 3) := dzq_180 (by decide +kernel)
theorem D_324_8 : decode J_324.2.2.1 8 = .ok (.iload_n 1, 1) := dzq_27 (by decide +kernel)
theorem D_324_9 : decode J_324.2.2.1 9 = .ok (.iastore, 1) := dzq_79 (by decide +kernel)
theorem D_324_10 : decode J_324.2.2.1 10 = .ok (.aload_n 0, 1) := dzq_42 (by decide +kernel)
theorem D_324_11 : decode J_324.2.2.1 11 = .ok (.getfield 194, 3) := dzq_180 (by decide +kernel)
theorem D_324_14 : decode J_324.2.2.1 14 = .ok (.aload_n 0, 1) := dzq_42 (by decide +kernel)
theorem D_324_15 : decode J_324.2.2.1 15 = .ok (.getfield 567, 3) := dzq_180 (by decide +kernel)
theorem D_324_18 : decode J_324.2.2.1 18 = .ok (.iconst 0, 1) := dzq_3 (by decide +kernel)
theorem D_324_19 : decode J_324.2.2.1 19 = .ok (.iastore, 1) := dzq_79 (by decide +kernel)
theorem D_324_20 : decode J_324.2.2.1 20 = .ok (.aload_n 0, 1) := dzq_42 (by decide +kernel)
theorem D_324_21 : decode J_324.2.2.1 21 = .ok (.dup, 1) := dzq_89 (by decide +kernel)
theorem D_324_22 : decode J_324.2.2.1 22 = .ok (.getfield 567, 3) := dzq_180 (by decide +kernel)
theorem D_324_25 : decode J_324.2.2.1 25 = .ok (.iconst 1, 1) := dzq_4 (by decide +kernel)
theorem D_324_26 : decode J_324.2.2.1 26 = .ok (.iadd, 1) := dzq_96 (by decide +kernel)
theorem D_324_27 : decode J_324.2.2.1 27 = .ok (.putfield 567, 3) := dzq_181 (by decide +kernel)
theorem D_324_30 : decode J_324.2.2.1 30 = .ok (.return_, 1) := dzq_177 (by decide +kernel)
def P_324_0 (X : mjX) (d C S kc ks : Nat) (k : Nat → Int32 → mjH → mjU) : Prop := ∀ (l0 : Nat) (l1 : Int32) (hp : mjH) (q : Option Value × mjH), k l0 l1 hp = some q → mjG X d C S J_324 (mjEq q) 0 [some (.ref l0), some (.int l1)] [] hp kc ks
noncomputable def b_324_0 (R : mjR) (l0 : Nat) (l1 : Int32) (hp : mjH) : mjU := gR hp l0 12 79 (fun v1 => gI hp l0 12 82 (fun v2 => sI hp v1 v2 l1 (fun hp3 => gR hp3 l0 12 80 (fun v4 => gI hp3 l0 12 82 (fun v5 => sI hp3 v4 v5 (0 : Int32) (fun hp6 => gI hp6 l0 12 82 (fun v7 => pI hp6 l0 12 82 (v7 + (1 : Int32)) (fun hp8 => some (none, hp8)))))))))
theorem t_324_0 {X : mjX} {d C S kc ks : Nat} {R : mjR} (hR : mjC R d) (h1 : kc ≤ C) (h2 : ks ≤ S) : P_324_0 X (d + 1) C S kc ks (b_324_0 R) := by
  intro l0 l1 hp q h
  unfold b_324_0 at h
  refine mjr_aload_n (x := l0) D_324_0 rfl ?_
  refine mjq_gR D_324_1 fr_12_191 h (fun v1 h => ?_)
  refine mjr_aload_n (x := l0) D_324_4 rfl ?_
  refine mjq_gI D_324_5 fr_12_567 h (fun v2 h => ?_)
  refine mjr_iload_n (x := l1) D_324_8 rfl ?_
  refine mjq_sI D_324_9 h (fun hp3 h => ?_)
  refine mjr_aload_n (x := l0) D_324_10 rfl ?_
  refine mjq_gR D_324_11 fr_12_194 h (fun v4 h => ?_)
  refine mjr_aload_n (x := l0) D_324_14 rfl ?_
  refine mjq_gI D_324_15 fr_12_567 h (fun v5 h => ?_)
  refine mjq_ic (v := (0 : Int32)) D_324_18 rfl ?_
  refine mjq_sI D_324_19 h (fun hp6 h => ?_)
  refine mjr_aload_n (x := l0) D_324_20 rfl ?_
  refine mjr_dup D_324_21 rfl ?_
  refine mjq_gI D_324_22 fr_12_567 h (fun v7 h => ?_)
  refine mjq_ic (v := (1 : Int32)) D_324_25 rfl ?_
  refine mjr_iadd D_324_26 ?_
  refine mjq_pI D_324_27 fr_12_567 rfl rfl h (fun hp8 h => ?_)
  exact mjq_nret D_324_30 rfl h1 h2 h
noncomputable def f_324 (R : mjR) (a0 : Nat) (a1 : Int32) (hp : mjH) : mjU := b_324_0 R a0 a1 hp
theorem c_324 {R : mjR} {d : Nat} (hR : mjC R d) {a0 : Nat} {a1 : Int32} {hp : mjH} {q : Option Value × mjH} (h : f_324 R a0 a1 hp = some q) : mjM (d + 1) 0 0 324 [.ref a0, .int a1] hp (mjEq q) :=
  mjM_of Ja_324 (Nat.le_of_ble_eq_true rfl) (mjG.fg (lo' := [some (.ref a0), some (.int a1)]) (And.intro rfl (And.intro rfl True.intro)) ((t_324_0 hR (Nat.le_refl 0) (Nat.le_refl 0)) a0 a1 hp q h))
def J_325 : mjI := (⟨"OwnerHeapModel", "known", "(J)I"⟩, 12, prog_14_method_73_code, 4, (some .int), 1, false)
theorem Ja_325 : mjMt 325 = some J_325 := by rfl
theorem D_325_0 : decode J_325.2.2.1 0 = .ok (.iconst 0, 1) := dzq_3 (by decide +kernel)
theorem D_325_1 : decode J_325.2.2.1 1 = .ok (.istore_n 3, 1) := dzq_62 (by decide +kernel)
theorem D_325_2 : decode J_325.2.2.1 2 = .ok (.iload_n 3, 1) := dzq_29 (by decide +kernel)
theorem D_325_3 : decode J_325.2.2.1 3 = .ok (.aload_n 0, 1) := dzq_42 (by decide +kernel)
theorem D_325_4 : decode J_325.2.2.1 4 = .ok (.getfield 585, 3) := dzq_180 (by decide +kernel)
theorem D_325_7 : decode J_325.2.2.1 7 = .ok (.if_icmp .ge 31, 3) := dzq_162 (by decide +kernel)
theorem D_325_10 : decode J_325.2.2.1 10 = .ok (.aload_n 0, 1) := dzq_42 (by decide +kernel)
theorem D_325_11 : decode J_325.2.2.1 11 = .ok (.getfield 209, 3) := dzq_180 (by decide +kernel)
theorem D_325_14 : decode J_325.2.2.1 14 = .ok (.iload_n 3, 1) := dzq_29 (by decide +kernel)
theorem D_325_15 : decode J_325.2.2.1 15 = .ok (.baload, 1) := dzq_51 (by decide +kernel)
theorem D_325_16 : decode J_325.2.2.1 16 = .ok (.ifCond .eq 16, 3) := dzq_153 (by decide +kernel)
theorem D_325_19 : decode J_325.2.2.1 19 = .ok (.aload_n 0, 1) := dzq_42 (by decide +kernel)
theorem D_325_20 : decode J_325.2.2.1 20 = .ok (.getfield 200, 3) := dzq_180 (by decide +kernel)
theorem D_325_23 : decode J_325.2.2.1 23 = .ok (.iload_n 3, 1) := dzq_29 (by decide +kernel)
theorem D_325_24 : decode J_325.2.2.1 24 = .ok (.laload, 1) := dzq_47 (by decide +kernel)
theorem D_325_25 : decode J_325.2.2.1 25 = .ok (.lload_n 1, 1) := dzq_31 (by decide +kernel)
theorem D_325_26 : decode J_325.2.2.1 26 = .ok (.lcmp, 1) := by decide +kernel
theorem D_325_27 : decode J_325.2.2.1 27 = .ok (.ifCond .ne 5, 3) := dzq_154 (by decide +kernel)
theorem D_325_30 : decode J_325.2.2.1 30 = .ok (.iload_n 3, 1) := dzq_29 (by decide +kernel)
theorem D_325_31 : decode J_325.2.2.1 31 = .ok (.ireturn, 1) := dzq_172 (by decide +kernel)
theorem D_325_32 : decode J_325.2.2.1 32 = .ok (.iinc 3 1, 3) := dzq_132 (by decide +kernel)
theorem D_325_35 : decode J_325.2.2.1 35 = .ok (.goto (-33), 3) := dzq_167 (by decide +kernel)
theorem D_325_38 : decode J_325.2.2.1 38 = .ok (.iconst (-1), 1) := dzq_2 (by decide +kernel)
theorem D_325_39 : decode J_325.2.2.1 39 = .ok (.ireturn, 1) := dzq_172 (by decide +kernel)
def P_325_32 (X : mjX) (d C S kc ks : Nat) (k : Nat → Int64 → Int32 → mjH → mjU) : Prop := ∀ (l0 : Nat) (l1 : Int64) (l3 : Int32) (hp : mjH) (q : Option Value × mjH), k l0 l1 l3 hp = some q → mjG X d C S J_325 (mjEq q) 32 [some (.ref l0), some (.long l1), none, some (.int l3)] [] hp kc ks
def P_325_2 (X : mjX) (d C S kc ks : Nat) (k : Nat → Int64 → Int32 → mjH → mjU) : Prop := ∀ (l0 : Nat) (l1 : Int64) (l3 : Int32) (hp : mjH) (q : Option Value × mjH), k l0 l1 l3 hp = some q → mjG X d C S J_325 (mjEq q) 2 [some (.ref l0), some (.long l1), none, some (.int l3)] [] hp kc ks
def P_325_0 (X : mjX) (d C S kc ks : Nat) (k : Nat → Int64 → mjH → mjU) : Prop := ∀ (l0 : Nat) (l1 : Int64) (hp : mjH) (q : Option Value × mjH), k l0 l1 hp = some q → mjG X d C S J_325 (mjEq q) 0 [some (.ref l0), some (.long l1), none, none] [] hp kc ks
noncomputable def b_325_32 (R : mjR) (k2 : Nat → Int64 → Int32 → mjH → mjU) (l0 : Nat) (l1 : Int64) (l3 : Int32) (hp : mjH) : mjU := k2 l0 l1 (l3 + (1 : Int32)) hp
theorem t_325_32 {X : mjX} {d C S kc ks : Nat} {R : mjR} (hR : mjC R d) (h1 : kc ≤ C) (h2 : ks ≤ S) {k2 : Nat → Int64 → Int32 → mjH → mjU} (hk2 : P_325_2 X (d + 1) C S kc ks k2) : P_325_32 X (d + 1) C S kc ks (b_325_32 R k2) := by
  intro l0 l1 l3 hp q h
  unfold b_325_32 at h
  refine mjq_iinc (x := l3) (c := (1 : Int32)) (lo' := [some (.ref l0), some (.long l1), none, some (.int (l3 + (1 : Int32)))]) D_325_32 rfl (Nat.le_of_ble_eq_true rfl) rfl rfl ?_
  refine mjr_goto (tgt := 2) D_325_35 rfl ?_
  exact hk2 _ _ _ _ _ h
noncomputable def b_325_2 (R : mjR) (k2 : Nat → Int64 → Int32 → mjH → mjU) (l0 : Nat) (l1 : Int64) (l3 : Int32) (hp : mjH) : mjU := gI hp l0 12 87 (fun v1 => (if v1 ≤ l3 then some (some (.int (-1 : Int32)), hp) else gR hp l0 12 86 (fun v2 => aB hp v2 l3 (fun v3 => (if v3 = 0 then b_325_32 R k2 l0 l1 l3 hp else gR hp l0 12 83 (fun v4 => aL hp v4 l3 (fun v5 => (if (lg_cmp v5 l1) = 0 then some (some (.int l3), hp) else b_325_32 R k2 l0 l1 l3 hp))))))))
theorem t_325_2 {X : mjX} {d C S kc ks : Nat} {R : mjR} (hR : mjC R d) (h1 : kc ≤ C) (h2 : ks ≤ S) {k2 : Nat → Int64 → Int32 → mjH → mjU} (hk2 : P_325_2 X (d + 1) C S kc ks k2) : P_325_2 X (d + 1) C S kc ks (b_325_2 R k2) := by
  intro l0 l1 l3 hp q h
  unfold b_325_2 at h
  refine mjr_iload_n (x := l3) D_325_2 rfl ?_
  refine mjr_aload_n (x := l0) D_325_3 rfl ?_
  refine mjq_gI D_325_4 fr_12_585 h (fun v1 h => ?_)
  refine mjq_icmp_ge (tgt := 38) D_325_7 rfl h (fun h => ?_) (fun h => ?_)
  · refine mjq_ic (v := (-1 : Int32)) D_325_38 rfl ?_
    exact mjq_ret D_325_39 rfl h1 h2 h
  · refine mjr_aload_n (x := l0) D_325_10 rfl ?_
    refine mjq_gR D_325_11 fr_12_209 h (fun v2 h => ?_)
    refine mjr_iload_n (x := l3) D_325_14 rfl ?_
    refine mjq_aB D_325_15 h (fun v3 h => ?_)
    refine mjq_if_eq (tgt := 32) D_325_16 rfl h (fun h => ?_) (fun h => ?_)
    · exact (t_325_32 hR h1 h2 hk2) _ _ _ _ _ h
    · refine mjr_aload_n (x := l0) D_325_19 rfl ?_
      refine mjq_gR D_325_20 fr_12_200 h (fun v4 h => ?_)
      refine mjr_iload_n (x := l3) D_325_23 rfl ?_
      refine mjq_aL D_325_24 h (fun v5 h => ?_)
      refine mjr_lload_n (x := l1) D_325_25 rfl ?_
      refine mjr_lcmp D_325_26 ?_
      refine mjq_if_ne (tgt := 32) D_325_27 rfl h (fun h => ?_) (fun h => ?_)
      · exact (t_325_32 hR h1 h2 hk2) _ _ _ _ _ h
      · refine mjr_iload_n (x := l3) D_325_30 rfl ?_
        exact mjq_ret D_325_31 rfl h1 h2 h
noncomputable def L_325_2 (R : mjR) (n : Nat) : Nat → Int64 → Int32 → mjH → mjU := Nat.rec (motive := fun _ => Nat → Int64 → Int32 → mjH → mjU) (fun _ _ _ _ => none) (fun _ self => b_325_2 R self) n
theorem T_325_2 {X : mjX} {d C S kc ks : Nat} {R : mjR} (hR : mjC R d) (h1 : kc ≤ C) (h2 : ks ≤ S) (n : Nat) : P_325_2 X (d + 1) C S kc ks (L_325_2 R n) := by
  induction n with
  | zero => intro _ _ _ _ _ h; exact mj_no h
  | succ n ih => exact t_325_2 hR h1 h2 ih
noncomputable def b_325_0 (R : mjR) (l0 : Nat) (l1 : Int64) (hp : mjH) : mjU := L_325_2 R mjN l0 l1 (0 : Int32) hp
theorem t_325_0 {X : mjX} {d C S kc ks : Nat} {R : mjR} (hR : mjC R d) (h1 : kc ≤ C) (h2 : ks ≤ S) : P_325_0 X (d + 1) C S kc ks (b_325_0 R) := by
  intro l0 l1 hp q h
  unfold b_325_0 at h
  refine mjq_ic (v := (0 : Int32)) D_325_0 rfl ?_
  refine mjq_istore_n (lo' := [some (.ref l0), some (.long l1), none, some (.int (0 : Int32))]) D_325_1 (Nat.le_of_ble_eq_true rfl) rfl ?_
  exact (T_325_2 hR h1 h2 mjN) _ _ _ _ _ h
noncomputable def f_325 (R : mjR) (a0 : Nat) (a1 : Int64) (hp : mjH) : mjU := b_325_0 R a0 a1 hp
theorem c_325 {R : mjR} {d : Nat} (hR : mjC R d) {a0 : Nat} {a1 : Int64} {hp : mjH} {q : Option Value × mjH} (h : f_325 R a0 a1 hp = some q) : mjM (d + 1) 0 0 325 [.ref a0, .long a1] hp (mjEq q) :=
  mjM_of Ja_325 (Nat.le_of_ble_eq_true rfl) (mjG.fg (lo' := [some (.ref a0), some (.long a1), none, none]) (And.intro rfl (And.intro rfl True.intro)) ((t_325_0 hR (Nat.le_refl 0) (Nat.le_refl 0)) a0 a1 hp q h))
def J_326 : mjI := (⟨"OwnerHeapModel", "typeOf", "(I)V"⟩, 12, prog_14_method_68_code, 3, none, 1, false)
theorem Ja_326 : mjMt 326 = some J_326 := by rfl
theorem D_326_0 : decode J_326.2.2.1 0 = .ok (.aload_n 0, 1) := dzq_42 (by decide +kernel)
theorem D_326_1 : decode J_326.2.2.1 1 = .ok (.iload_n 1, 1) := dzq_27 (by decide +kernel)
theorem D_326_2 : decode J_326.2.2.1 2 = .ok (.ifCond .ge 7, 3) := dzq_156 (by decide +kernel)
theorem D_326_5 : decode J_326.2.2.1 5 = .ok (.iconst (-1), 1) := dzq_2 (by decide +kernel)
theorem D_326_6 : decode J_326.2.2.1 6 = .ok (.goto 9, 3) := dzq_167 (by decide +kernel)
theorem D_326_9 : decode J_326.2.2.1 9 = .ok (.aload_n 0, 1) := dzq_42 (by decide +kernel)
theorem D_326_10 : decode J_326.2.2.1 10 = .ok (.getfield 136, 3) := dzq_180 (by decide +kernel)
theorem D_326_13 : decode J_326.2.2.1 13 = .ok (.iload_n 1, 1) := dzq_27 (by decide +kernel)
theorem D_326_14 : decode J_326.2.2.1 14 = .ok (.iaload, 1) := dzq_46 (by decide +kernel)
theorem D_326_15 : decode J_326.2.2.1 15 = .ok (.invokevirtual 570, 3) := dzq_182 (by decide +kernel)
theorem D_326_18 : decode J_326.2.2.1 18 = .ok (.iconst 0, 1) := dzq_3 (by decide +kernel)
theorem D_326_19 : decode J_326.2.2.1 19 = .ok (.istore_n 2, 1) := dzq_61 (by decide +kernel)
theorem D_326_20 : decode J_326.2.2.1 20 = .ok (.iload_n 1, 1) := dzq_27 (by decide +kernel)
theorem D_326_21 : decode J_326.2.2.1 21 = .ok (.ifCond .lt 53, 3) := dzq_155 (by decide +kernel)
theorem D_326_24 : decode J_326.2.2.1 24 = .ok (.iload_n 2, 1) := dzq_28 (by decide +kernel)
theorem D_326_25 : decode J_326.2.2.1 25 = .ok (.iconst 5, 1) := dzq_8 (by decide +kernel)
theorem D_326_26 : decode J_326.2.2.1 26 = .ok (.if_icmp .ge 48, 3) := dzq_162 (by decide +kernel)
theorem D_326_29 : decode J_326.2.2.1 29 = .ok (.aload_n 0, 1) := dzq_42 (by decide +kernel)
theorem D_326_30 : decode J_326.2.2.1 30 = .ok (.getfield 197, 3) := dzq_180 (by decide +kernel)
theorem D_326_33 : decode J_326.2.2.1 33 = .ok (.iconst 5, 1) := dzq_8 (by decide +kernel)
theorem D_326_34 : decode J_326.2.2.1 34 = .ok (.aload_n 0, 1) := dzq_42 (by decide +kernel)
theorem D_326_35 : decode J_326.2.2.1 35 = .ok (.getfield 567, 3) := dzq_180 (by decide +kernel)
theorem D_326_38 : decode J_326.2.2.1 38 = .ok (.imul, 1) := dzq_104 (by decide +kernel)
theorem D_326_39 : decode J_326.2.2.1 39 = .ok (.iconst 5, 1) := dzq_8 (by decide +kernel)
theorem D_326_40 : decode J_326.2.2.1 40 = .ok (.isub, 1) := dzq_100 (by decide +kernel)
theorem D_326_41 : decode J_326.2.2.1 41 = .ok (.iload_n 2, 1) := dzq_28 (by decide +kernel)
theorem D_326_42 : decode J_326.2.2.1 42 = .ok (.iadd, 1) := dzq_96 (by decide +kernel)
theorem D_326_43 : decode J_326.2.2.1 43 = .ok (.iload_n 2, 1) := dzq_28 (by decide +kernel)
theorem D_326_44 : decode J_326.2.2.1 44 = .ok (.aload_n 0, 1) := dzq_42 (by decide +kernel)
theorem D_326_45 : decode J_326.2.2.1 45 = .ok (.getfield 133, 3) := dzq_180 (by decide +kernel)
theorem D_326_48 : decode J_326.2.2.1 48 = .ok (.iload_n 1, 1) := dzq_27 (by decide +kernel)
theorem D_326_49 : decode J_326.2.2.1 49 = .ok (.iaload, 1) := dzq_46 (by decide +kernel)
theorem D_326_50 : decode J_326.2.2.1 50 = .ok (.if_icmp .ge 16, 3) := dzq_162 (by decide +kernel)
theorem D_326_53 : decode J_326.2.2.1 53 = .ok (.aload_n 0, 1) := dzq_42 (by decide +kernel)
theorem D_326_54 : decode J_326.2.2.1 54 = .ok (.getfield 145, 3) := dzq_180 (by decide +kernel)
theorem D_326_57 : decode J_326.2.2.1 57 = .ok (.iconst 5, 1) := dzq_8 (by decide +kernel)
theorem D_326_58 : decode J_326.2.2.1 58 = .ok (.iload_n 1, 1) := dzq_27 (by decide +kernel)
theorem D_326_59 : decode J_326.2.2.1 59 = .ok (.imul, 1) := dzq_104 (by decide +kernel)
theorem D_326_60 : decode J_326.2.2.1 60 = .ok (.iload_n 2, 1) := dzq_28 (by decide +kernel)
theorem D_326_61 : decode J_326.2.2.1 61 = .ok (.iadd, 1) := dzq_96 (by decide +kernel)
theorem D_326_62 : decode J_326.2.2.1 62 = .ok (.iaload, 1) := dzq_46 (by decide +kernel)
theorem D_326_63 : decode J_326.2.2.1 63 = .ok (.goto 4, 3) := dzq_167 (by decide +kernel)
theorem D_326_66 : decode J_326.2.2.1 66 = .ok (.iconst 0, 1) := dzq_3 (by decide +kernel)
theorem D_326_67 : decode J_326.2.2.1 67 = .ok (.iastore, 1) := dzq_79 (by decide +kernel)
theorem D_326_68 : decode J_326.2.2.1 68 = .ok (.iinc 2 1, 3) := dzq_132 (by decide +kernel)
theorem D_326_71 : decode J_326.2.2.1 71 = .ok (.goto (-51), 3) := dzq_167 (by decide +kernel)
theorem D_326_74 : decode J_326.2.2.1 74 = .ok (.return_, 1) := dzq_177 (by decide +kernel)
def P_326_67 (X : mjX) (d C S kc ks : Nat) (k : Nat → Int32 → Int32 → Nat → Int32 → Int32 → mjH → mjU) : Prop := ∀ (l0 : Nat) (l1 : Int32) (l2 : Int32) (s0 : Nat) (s1 : Int32) (s2 : Int32) (hp : mjH) (q : Option Value × mjH), k l0 l1 l2 s0 s1 s2 hp = some q → mjG X d C S J_326 (mjEq q) 67 [some (.ref l0), some (.int l1), some (.int l2)] [.int s2, .int s1, .ref s0] hp kc ks
def P_326_20 (X : mjX) (d C S kc ks : Nat) (k : Nat → Int32 → Int32 → mjH → mjU) : Prop := ∀ (l0 : Nat) (l1 : Int32) (l2 : Int32) (hp : mjH) (q : Option Value × mjH), k l0 l1 l2 hp = some q → mjG X d C S J_326 (mjEq q) 20 [some (.ref l0), some (.int l1), some (.int l2)] [] hp kc ks
def P_326_15 (X : mjX) (d C S kc ks : Nat) (k : Nat → Int32 → Nat → Int32 → mjH → mjU) : Prop := ∀ (l0 : Nat) (l1 : Int32) (s0 : Nat) (s1 : Int32) (hp : mjH) (q : Option Value × mjH), k l0 l1 s0 s1 hp = some q → mjG X d C S J_326 (mjEq q) 15 [some (.ref l0), some (.int l1), none] [.int s1, .ref s0] hp kc ks
def P_326_0 (X : mjX) (d C S kc ks : Nat) (k : Nat → Int32 → mjH → mjU) : Prop := ∀ (l0 : Nat) (l1 : Int32) (hp : mjH) (q : Option Value × mjH), k l0 l1 hp = some q → mjG X d C S J_326 (mjEq q) 0 [some (.ref l0), some (.int l1), none] [] hp kc ks
noncomputable def b_326_67 (R : mjR) (k20 : Nat → Int32 → Int32 → mjH → mjU) (l0 : Nat) (l1 : Int32) (l2 : Int32) (s0 : Nat) (s1 : Int32) (s2 : Int32) (hp : mjH) : mjU := sI hp s0 s1 s2 (fun hp1 => k20 l0 l1 (l2 + (1 : Int32)) hp1)
theorem t_326_67 {X : mjX} {d C S kc ks : Nat} {R : mjR} (hR : mjC R d) (h1 : kc ≤ C) (h2 : ks ≤ S) {k20 : Nat → Int32 → Int32 → mjH → mjU} (hk20 : P_326_20 X (d + 1) C S kc ks k20) : P_326_67 X (d + 1) C S kc ks (b_326_67 R k20) := by
  intro l0 l1 l2 s0 s1 s2 hp q h
  unfold b_326_67 at h
  refine mjq_sI D_326_67 h (fun hp1 h => ?_)
  refine mjq_iinc (x := l2) (c := (1 : Int32)) (lo' := [some (.ref l0), some (.int l1), some (.int (l2 + (1 : Int32)))]) D_326_68 rfl (Nat.le_of_ble_eq_true rfl) rfl rfl ?_
  refine mjr_goto (tgt := 20) D_326_71 rfl ?_
  exact hk20 _ _ _ _ _ h
noncomputable def b_326_20 (R : mjR) (k20 : Nat → Int32 → Int32 → mjH → mjU) (l0 : Nat) (l1 : Int32) (l2 : Int32) (hp : mjH) : mjU := (if l1 < 0 then some (none, hp) else (if (5 : Int32) ≤ l2 then some (none, hp) else gR hp l0 12 81 (fun v1 => gI hp l0 12 82 (fun v2 => gR hp l0 12 49 (fun v3 => aI hp v3 l1 (fun v4 => (if v4 ≤ l2 then b_326_67 R k20 l0 l1 l2 v1 ((((5 : Int32) * v2) - (5 : Int32)) + l2) (0 : Int32) hp else gR hp l0 12 53 (fun v5 => aI hp v5 (((5 : Int32) * l1) + l2) (fun v6 => b_326_67 R k20 l0 l1 l2 v1 ((((5 : Int32) * v2) - (5 : Int32)) + l2) v6 hp)))))))))
theorem t_326_20 {X : mjX} {d C S kc ks : Nat} {R : mjR} (hR : mjC R d) (h1 : kc ≤ C) (h2 : ks ≤ S) {k20 : Nat → Int32 → Int32 → mjH → mjU} (hk20 : P_326_20 X (d + 1) C S kc ks k20) : P_326_20 X (d + 1) C S kc ks (b_326_20 R k20) := by
  intro l0 l1 l2 hp q h
  unfold b_326_20 at h
  refine mjr_iload_n (x := l1) D_326_20 rfl ?_
  refine mjq_if_lt (tgt := 74) D_326_21 rfl h (fun h => ?_) (fun h => ?_)
  · exact mjq_nret D_326_74 rfl h1 h2 h
  · refine mjr_iload_n (x := l2) D_326_24 rfl ?_
    refine mjq_ic (v := (5 : Int32)) D_326_25 rfl ?_
    refine mjq_icmp_ge (tgt := 74) D_326_26 rfl h (fun h => ?_) (fun h => ?_)
    · exact mjq_nret D_326_74 rfl h1 h2 h
    · refine mjr_aload_n (x := l0) D_326_29 rfl ?_
      refine mjq_gR D_326_30 fr_12_197 h (fun v1 h => ?_)
      refine mjq_ic (v := (5 : Int32)) D_326_33 rfl ?_
      refine mjr_aload_n (x := l0) D_326_34 rfl ?_
      refine mjq_gI D_326_35 fr_12_567 h (fun v2 h => ?_)
      refine mjr_imul D_326_38 ?_
      refine mjq_ic (v := (5 : Int32)) D_326_39 rfl ?_
      refine mjr_isub D_326_40 ?_
      refine mjr_iload_n (x := l2) D_326_41 rfl ?_
      refine mjr_iadd D_326_42 ?_
      refine mjr_iload_n (x := l2) D_326_43 rfl ?_
      refine mjr_aload_n (x := l0) D_326_44 rfl ?_
      refine mjq_gR D_326_45 fr_12_133 h (fun v3 h => ?_)
      refine mjr_iload_n (x := l1) D_326_48 rfl ?_
      refine mjq_aI D_326_49 h (fun v4 h => ?_)
      refine mjq_icmp_ge (tgt := 66) D_326_50 rfl h (fun h => ?_) (fun h => ?_)
      · refine mjq_ic (v := (0 : Int32)) D_326_66 rfl ?_
        exact (t_326_67 hR h1 h2 hk20) _ _ _ _ _ _ _ _ h
      · refine mjr_aload_n (x := l0) D_326_53 rfl ?_
        refine mjq_gR D_326_54 fr_12_145 h (fun v5 h => ?_)
        refine mjq_ic (v := (5 : Int32)) D_326_57 rfl ?_
        refine mjr_iload_n (x := l1) D_326_58 rfl ?_
        refine mjr_imul D_326_59 ?_
        refine mjr_iload_n (x := l2) D_326_60 rfl ?_
        refine mjr_iadd D_326_61 ?_
        refine mjq_aI D_326_62 h (fun v6 h => ?_)
        refine mjr_goto (tgt := 67) D_326_63 rfl ?_
        exact (t_326_67 hR h1 h2 hk20) _ _ _ _ _ _ _ _ h
noncomputable def L_326_20 (R : mjR) (n : Nat) : Nat → Int32 → Int32 → mjH → mjU := Nat.rec (motive := fun _ => Nat → Int32 → Int32 → mjH → mjU) (fun _ _ _ _ => none) (fun _ self => b_326_20 R self) n
theorem T_326_20 {X : mjX} {d C S kc ks : Nat} {R : mjR} (hR : mjC R d) (h1 : kc ≤ C) (h2 : ks ≤ S) (n : Nat) : P_326_20 X (d + 1) C S kc ks (L_326_20 R n) := by
  induction n with
  | zero => intro _ _ _ _ _ h; exact mj_no h
  | succ n ih => exact t_326_20 hR h1 h2 ih
noncomputable def b_326_15 (R : mjR) (l0 : Nat) (l1 : Int32) (s0 : Nat) (s1 : Int32) (hp : mjH) : mjU := rV hp s0 12 (bN (R 324 [.ref s0, .int s1] hp) (fun  hp1 => L_326_20 R mjN l0 l1 (0 : Int32) hp1))
theorem t_326_15 {X : mjX} {d C S kc ks : Nat} {R : mjR} (hR : mjC R d) (h1 : kc ≤ C) (h2 : ks ≤ S) : P_326_15 X (d + 1) C S kc ks (b_326_15 R) := by
  intro l0 l1 s0 s1 hp q h
  unfold b_326_15 at h
  refine mjq_vN (As := [.int s1]) (rest := []) D_326_15 mr_12_570 V_324 rfl rfl rfl hR (Nat.le_refl _) h1 h2 h (fun  hp1 h => ?_)
  refine mjq_ic (v := (0 : Int32)) D_326_18 rfl ?_
  refine mjq_istore_n (lo' := [some (.ref l0), some (.int l1), some (.int (0 : Int32))]) D_326_19 (Nat.le_of_ble_eq_true rfl) rfl ?_
  exact (T_326_20 hR h1 h2 mjN) _ _ _ _ _ h
noncomputable def b_326_0 (R : mjR) (l0 : Nat) (l1 : Int32) (hp : mjH) : mjU := (if 0 ≤ l1 then gR hp l0 12 50 (fun v1 => aI hp v1 l1 (fun v2 => b_326_15 R l0 l1 l0 v2 hp)) else b_326_15 R l0 l1 l0 (-1 : Int32) hp)
theorem t_326_0 {X : mjX} {d C S kc ks : Nat} {R : mjR} (hR : mjC R d) (h1 : kc ≤ C) (h2 : ks ≤ S) : P_326_0 X (d + 1) C S kc ks (b_326_0 R) := by
  intro l0 l1 hp q h
  unfold b_326_0 at h
  refine mjr_aload_n (x := l0) D_326_0 rfl ?_
  refine mjr_iload_n (x := l1) D_326_1 rfl ?_
  refine mjq_if_ge (tgt := 9) D_326_2 rfl h (fun h => ?_) (fun h => ?_)
  · refine mjr_aload_n (x := l0) D_326_9 rfl ?_
    refine mjq_gR D_326_10 fr_12_136 h (fun v1 h => ?_)
    refine mjr_iload_n (x := l1) D_326_13 rfl ?_
    refine mjq_aI D_326_14 h (fun v2 h => ?_)
    exact (t_326_15 hR h1 h2) _ _ _ _ _ _ h
  · refine mjq_ic (v := (-1 : Int32)) D_326_5 rfl ?_
    refine mjr_goto (tgt := 15) D_326_6 rfl ?_
    exact (t_326_15 hR h1 h2) _ _ _ _ _ _ h
noncomputable def f_326 (R : mjR) (a0 : Nat) (a1 : Int32) (hp : mjH) : mjU := b_326_0 R a0 a1 hp
theorem c_326 {R : mjR} {d : Nat} (hR : mjC R d) {a0 : Nat} {a1 : Int32} {hp : mjH} {q : Option Value × mjH} (h : f_326 R a0 a1 hp = some q) : mjM (d + 1) 0 0 326 [.ref a0, .int a1] hp (mjEq q) :=
  mjM_of Ja_326 (Nat.le_of_ble_eq_true rfl) (mjG.fg (lo' := [some (.ref a0), some (.int a1), none]) (And.intro rfl (And.intro rfl True.intro)) ((t_326_0 hR (Nat.le_refl 0) (Nat.le_refl 0)) a0 a1 hp q h))
def J_327 : mjI := (⟨"OwnerHeapModel", "judgeTwo", "(I)V"⟩, 12, prog_14_method_75_code, 5, none, 1, false)
theorem Ja_327 : mjMt 327 = some J_327 := by rfl
theorem D_327_0 : decode J_327.2.2.1 0 = .ok (.aload_n 0, 1) := dzq_42 (by decide +kernel)
theorem D_327_1 : decode J_327.2.2.1 1 = .ok (.getfield 191, 3) := dzq_180 (by decide +kernel)
theorem D_327_4 : decode J_327.2.2.1 4 = .ok (.aload_n 0, 1) := dzq_42 (by decide +kernel)
theorem D_327_5 : decode J_327.2.2.1 5 = .ok (.getfield 567, 3) := dzq_180 (by decide +kernel)
theorem D_327_8 : decode J_327.2.2.1 8 = .ok (.iconst 2, 1) := dzq_5 (by decide +kernel)
theorem D_327_9 : decode J_327.2.2.1 9 = .ok (.isub, 1) := dzq_100 (by decide +kernel)
theorem D_327_10 : decode J_327.2.2.1 10 = .ok (.iaload, 1) := dzq_46 (by decide +kernel)
theorem D_327_11 : decode J_327.2.2.1 11 = .ok (.iconst (-1), 1) := dzq_2 (by decide +kernel)
theorem D_327_12 : decode J_327.2.2.1 12 = .ok (.if_icmp .ne 7, 3) := dzq_160 (by decide +kernel)
theorem D_327_15 : decode J_327.2.2.1 15 = .ok (.iconst 1, 1) := dzq_4 (by decide +kernel)
theorem D_327_16 : decode J_327.2.2.1 16 = .ok (.goto 4, 3) := dzq_167 (by decide +kernel)
theorem D_327_19 : decode J_327.2.2.1 19 = .ok (.iconst 0, 1) := dzq_3 (by decide +kernel)
theorem D_327_20 : decode J_327.2.2.1 20 = .ok (.istore_n 2, 1) := dzq_61 (by decide +kernel)
theorem D_327_21 : decode J_327.2.2.1 21 = .ok (.aload_n 0, 1) := dzq_42 (by decide +kernel)
theorem D_327_22 : decode J_327.2.2.1 22 = .ok (.getfield 191, 3) := dzq_180 (by decide +kernel)
theorem D_327_25 : decode J_327.2.2.1 25 = .ok (.aload_n 0, 1) := dzq_42 (by decide +kernel)
theorem D_327_26 : decode J_327.2.2.1 26 = .ok (.getfield 567, 3) := dzq_180 (by decide +kernel)
theorem D_327_29 : decode J_327.2.2.1 29 = .ok (.iconst 1, 1) := dzq_4 (by decide +kernel)
theorem D_327_30 : decode J_327.2.2.1 30 = .ok (.isub, 1) := dzq_100 (by decide +kernel)
theorem D_327_31 : decode J_327.2.2.1 31 = .ok (.iaload, 1) := dzq_46 (by decide +kernel)
theorem D_327_32 : decode J_327.2.2.1 32 = .ok (.iconst (-1), 1) := dzq_2 (by decide +kernel)
theorem D_327_33 : decode J_327.2.2.1 33 = .ok (.if_icmp .ne 7, 3) := dzq_160 (by decide +kernel)
theorem D_327_36 : decode J_327.2.2.1 36 = .ok (.iconst 1, 1) := dzq_4 (by decide +kernel)
theorem D_327_37 : decode J_327.2.2.1 37 = .ok (.goto 4, 3) := dzq_167 (by decide +kernel)
theorem D_327_40 : decode J_327.2.2.1 40 = .ok (.iconst 0, 1) := dzq_3 (by decide +kernel)
theorem D_327_41 : decode J_327.2.2.1 41 = .ok (.istore_n 3, 1) := dzq_62 (by decide +kernel)
theorem D_327_42 : decode J_327.2.2.1 42 = .ok (.aload_n 0, 1) := dzq_42 (by decide +kernel)
theorem D_327_43 : decode J_327.2.2.1 43 = .ok (.getfield 154, 3) := dzq_180 (by decide +kernel)
theorem D_327_46 : decode J_327.2.2.1 46 = .ok (.iload_n 1, 1) := dzq_27 (by decide +kernel)
theorem D_327_47 : decode J_327.2.2.1 47 = .ok (.iaload, 1) := dzq_46 (by decide +kernel)
theorem D_327_48 : decode J_327.2.2.1 48 = .ok (.sipush 257, 3) := dzq_17 (by decide +kernel)
theorem D_327_51 : decode J_327.2.2.1 51 = .ok (.if_icmp .eq 15, 3) := dzq_159 (by decide +kernel)
theorem D_327_54 : decode J_327.2.2.1 54 = .ok (.aload_n 0, 1) := dzq_42 (by decide +kernel)
theorem D_327_55 : decode J_327.2.2.1 55 = .ok (.getfield 154, 3) := dzq_180 (by decide +kernel)
theorem D_327_58 : decode J_327.2.2.1 58 = .ok (.iload_n 1, 1) := dzq_27 (by decide +kernel)
theorem D_327_59 : decode J_327.2.2.1 59 = .ok (.iaload, 1) := dzq_46 (by decide +kernel)
theorem D_327_60 : decode J_327.2.2.1 60 = .ok (.sipush 258, 3) := dzq_17 (by decide +kernel)
theorem D_327_63 : decode J_327.2.2.1 63 = .ok (.if_icmp .ne 16, 3) := dzq_160 (by decide +kernel)
theorem D_327_66 : decode J_327.2.2.1 66 = .ok (.iload_n 2, 1) := dzq_28 (by decide +kernel)
theorem D_327_67 : decode J_327.2.2.1 67 = .ok (.iload_n 3, 1) := dzq_29 (by decide +kernel)
theorem D_327_68 : decode J_327.2.2.1 68 = .ok (.if_icmp .ne 7, 3) := dzq_160 (by decide +kernel)
theorem D_327_71 : decode J_327.2.2.1 71 = .ok (.iconst 1, 1) := dzq_4 (by decide +kernel)
theorem D_327_72 : decode J_327.2.2.1 72 = .ok (.goto 20, 3) := dzq_167 (by decide +kernel)
theorem D_327_75 : decode J_327.2.2.1 75 = .ok (.iconst 0, 1) := dzq_3 (by decide +kernel)
theorem D_327_76 : decode J_327.2.2.1 76 = .ok (.goto 16, 3) := dzq_167 (by decide +kernel)
theorem D_327_79 : decode J_327.2.2.1 79 = .ok (.iload_n 2, 1) := dzq_28 (by decide +kernel)
theorem D_327_80 : decode J_327.2.2.1 80 = .ok (.ifCond .eq 11, 3) := dzq_153 (by decide +kernel)
theorem D_327_83 : decode J_327.2.2.1 83 = .ok (.iload_n 3, 1) := dzq_29 (by decide +kernel)
theorem D_327_84 : decode J_327.2.2.1 84 = .ok (.ifCond .eq 7, 3) := dzq_153 (by decide +kernel)
theorem D_327_87 : decode J_327.2.2.1 87 = .ok (.iconst 1, 1) := dzq_4 (by decide +kernel)
theorem D_327_88 : decode J_327.2.2.1 88 = .ok (.goto 4, 3) := dzq_167 (by decide +kernel)
theorem D_327_91 : decode J_327.2.2.1 91 = .ok (.iconst 0, 1) := dzq_3 (by decide +kernel)
theorem D_327_92 : decode J_327.2.2.1 92 = .ok (.istore 4, 2) := dzq_54 (by decide +kernel)
theorem D_327_94 : decode J_327.2.2.1 94 = .ok (.iload 4, 2) := dzq_21 (by decide +kernel)
theorem D_327_96 : decode J_327.2.2.1 96 = .ok (.ifCond .ne 15, 3) := dzq_154 (by decide +kernel)
theorem D_327_99 : decode J_327.2.2.1 99 = .ok (.aload_n 0, 1) := dzq_42 (by decide +kernel)
theorem D_327_100 : decode J_327.2.2.1 100 = .ok (.bipush 7, 2) := dzq_16 (by decide +kernel)
theorem D_327_102 : decode J_327.2.2.1 102 = .ok (.aload_n 0, 1) := dzq_42 (by decide +kernel)
theorem D_327_103 : decode J_327.2.2.1 103 = .ok (.getfield 151, 3) := dzq_180 (by decide +kernel)
theorem D_327_106 : decode J_327.2.2.1 106 = .ok (.iload_n 1, 1) := dzq_27 (by decide +kernel)
theorem D_327_107 : decode J_327.2.2.1 107 = .ok (.iaload, 1) := dzq_46 (by decide +kernel)
theorem D_327_108 : decode J_327.2.2.1 108 = .ok (.invokevirtual 339, 3) := dzq_182 (by decide +kernel)
theorem D_327_111 : decode J_327.2.2.1 111 = .ok (.aload_n 0, 1) := dzq_42 (by decide +kernel)
theorem D_327_112 : decode J_327.2.2.1 112 = .ok (.dup, 1) := dzq_89 (by decide +kernel)
theorem D_327_113 : decode J_327.2.2.1 113 = .ok (.getfield 567, 3) := dzq_180 (by decide +kernel)
theorem D_327_116 : decode J_327.2.2.1 116 = .ok (.iconst 2, 1) := dzq_5 (by decide +kernel)
theorem D_327_117 : decode J_327.2.2.1 117 = .ok (.isub, 1) := dzq_100 (by decide +kernel)
theorem D_327_118 : decode J_327.2.2.1 118 = .ok (.putfield 567, 3) := dzq_181 (by decide +kernel)
theorem D_327_121 : decode J_327.2.2.1 121 = .ok (.aload_n 0, 1) := dzq_42 (by decide +kernel)
theorem D_327_122 : decode J_327.2.2.1 122 = .ok (.iconst (-1), 1) := dzq_2 (by decide +kernel)
theorem D_327_123 : decode J_327.2.2.1 123 = .ok (.invokevirtual 570, 3) := dzq_182 (by decide +kernel)
theorem D_327_126 : decode J_327.2.2.1 126 = .ok (.return_, 1) := dzq_177 (by decide +kernel)
def P_327_111 (X : mjX) (d C S kc ks : Nat) (k : Nat → mjH → mjU) : Prop := ∀ (l0 : Nat) (hp : mjH) (q : Option Value × mjH), k l0 hp = some q → mjG X d C S J_327 (mjEq q) 111 [some (.ref l0), none, none, none, none] [] hp kc ks
def P_327_92 (X : mjX) (d C S kc ks : Nat) (k : Nat → Int32 → Int32 → mjH → mjU) : Prop := ∀ (l0 : Nat) (l1 : Int32) (s0 : Int32) (hp : mjH) (q : Option Value × mjH), k l0 l1 s0 hp = some q → mjG X d C S J_327 (mjEq q) 92 [some (.ref l0), some (.int l1), none, none, none] [.int s0] hp kc ks
def P_327_66 (X : mjX) (d C S kc ks : Nat) (k : Nat → Int32 → Int32 → Int32 → mjH → mjU) : Prop := ∀ (l0 : Nat) (l1 : Int32) (l2 : Int32) (l3 : Int32) (hp : mjH) (q : Option Value × mjH), k l0 l1 l2 l3 hp = some q → mjG X d C S J_327 (mjEq q) 66 [some (.ref l0), some (.int l1), some (.int l2), some (.int l3), none] [] hp kc ks
def P_327_91 (X : mjX) (d C S kc ks : Nat) (k : Nat → Int32 → mjH → mjU) : Prop := ∀ (l0 : Nat) (l1 : Int32) (hp : mjH) (q : Option Value × mjH), k l0 l1 hp = some q → mjG X d C S J_327 (mjEq q) 91 [some (.ref l0), some (.int l1), none, none, none] [] hp kc ks
def P_327_41 (X : mjX) (d C S kc ks : Nat) (k : Nat → Int32 → Int32 → Int32 → mjH → mjU) : Prop := ∀ (l0 : Nat) (l1 : Int32) (l2 : Int32) (s0 : Int32) (hp : mjH) (q : Option Value × mjH), k l0 l1 l2 s0 hp = some q → mjG X d C S J_327 (mjEq q) 41 [some (.ref l0), some (.int l1), some (.int l2), none, none] [.int s0] hp kc ks
def P_327_20 (X : mjX) (d C S kc ks : Nat) (k : Nat → Int32 → Int32 → mjH → mjU) : Prop := ∀ (l0 : Nat) (l1 : Int32) (s0 : Int32) (hp : mjH) (q : Option Value × mjH), k l0 l1 s0 hp = some q → mjG X d C S J_327 (mjEq q) 20 [some (.ref l0), some (.int l1), none, none, none] [.int s0] hp kc ks
def P_327_0 (X : mjX) (d C S kc ks : Nat) (k : Nat → Int32 → mjH → mjU) : Prop := ∀ (l0 : Nat) (l1 : Int32) (hp : mjH) (q : Option Value × mjH), k l0 l1 hp = some q → mjG X d C S J_327 (mjEq q) 0 [some (.ref l0), some (.int l1), none, none, none] [] hp kc ks
noncomputable def b_327_111 (R : mjR) (l0 : Nat) (hp : mjH) : mjU := gI hp l0 12 82 (fun v1 => pI hp l0 12 82 (v1 - (2 : Int32)) (fun hp2 => rV hp2 l0 12 (bN (R 324 [.ref l0, .int (-1 : Int32)] hp2) (fun  hp3 => some (none, hp3)))))
theorem t_327_111 {X : mjX} {d C S kc ks : Nat} {R : mjR} (hR : mjC R d) (h1 : kc ≤ C) (h2 : ks ≤ S) : P_327_111 X (d + 1) C S kc ks (b_327_111 R) := by
  intro l0 hp q h
  unfold b_327_111 at h
  refine mjr_aload_n (x := l0) D_327_111 rfl ?_
  refine mjr_dup D_327_112 rfl ?_
  refine mjq_gI D_327_113 fr_12_567 h (fun v1 h => ?_)
  refine mjq_ic (v := (2 : Int32)) D_327_116 rfl ?_
  refine mjr_isub D_327_117 ?_
  refine mjq_pI D_327_118 fr_12_567 rfl rfl h (fun hp2 h => ?_)
  refine mjr_aload_n (x := l0) D_327_121 rfl ?_
  refine mjq_ic (v := (-1 : Int32)) D_327_122 rfl ?_
  refine mjq_vN (As := [.int (-1 : Int32)]) (rest := []) D_327_123 mr_12_570 V_324 rfl rfl rfl hR (Nat.le_refl _) h1 h2 h (fun  hp3 h => ?_)
  exact mjq_nret D_327_126 rfl h1 h2 h
noncomputable def b_327_92 (R : mjR) (l0 : Nat) (l1 : Int32) (s0 : Int32) (hp : mjH) : mjU := (if s0 = 0 then gR hp l0 12 55 (fun v1 => aI hp v1 l1 (fun v2 => rV hp l0 12 (bN (R 268 [.ref l0, .int (7 : Int32), .int v2] hp) (fun  hp3 => b_327_111 R l0 hp3)))) else b_327_111 R l0 hp)
theorem t_327_92 {X : mjX} {d C S kc ks : Nat} {R : mjR} (hR : mjC R d) (h1 : kc ≤ C) (h2 : ks ≤ S) : P_327_92 X (d + 1) C S kc ks (b_327_92 R) := by
  intro l0 l1 s0 hp q h
  unfold b_327_92 at h
  refine mjq_istore (lo' := [some (.ref l0), some (.int l1), none, none, some (.int s0)]) D_327_92 (Nat.le_of_ble_eq_true rfl) rfl ?_
  refine mjr_iload (x := s0) D_327_94 rfl ?_
  refine mjq_if_ne (tgt := 111) D_327_96 rfl h (fun h => ?_) (fun h => ?_)
  · exact mjG.fg (lo' := [some (.ref l0), none, none, none, none]) (And.intro rfl True.intro) ((t_327_111 hR h1 h2) _ _ _ h)
  · refine mjr_aload_n (x := l0) D_327_99 rfl ?_
    refine mjq_bi (v := (7 : Int32)) D_327_100 rfl ?_
    refine mjr_aload_n (x := l0) D_327_102 rfl ?_
    refine mjq_gR D_327_103 fr_12_151 h (fun v1 h => ?_)
    refine mjr_iload_n (x := l1) D_327_106 rfl ?_
    refine mjq_aI D_327_107 h (fun v2 h => ?_)
    refine mjq_vN (As := [.int (7 : Int32), .int v2]) (rest := []) D_327_108 mr_12_339 V_268 rfl rfl rfl hR (Nat.le_refl _) h1 h2 h (fun  hp3 h => ?_)
    exact mjG.fg (lo' := [some (.ref l0), none, none, none, none]) (And.intro rfl True.intro) ((t_327_111 hR h1 h2) _ _ _ h)
noncomputable def b_327_66 (R : mjR) (l0 : Nat) (l1 : Int32) (l2 : Int32) (l3 : Int32) (hp : mjH) : mjU := (if l2 = l3 then b_327_92 R l0 l1 (1 : Int32) hp else b_327_92 R l0 l1 (0 : Int32) hp)
theorem t_327_66 {X : mjX} {d C S kc ks : Nat} {R : mjR} (hR : mjC R d) (h1 : kc ≤ C) (h2 : ks ≤ S) : P_327_66 X (d + 1) C S kc ks (b_327_66 R) := by
  intro l0 l1 l2 l3 hp q h
  unfold b_327_66 at h
  refine mjr_iload_n (x := l2) D_327_66 rfl ?_
  refine mjr_iload_n (x := l3) D_327_67 rfl ?_
  refine mjq_icmp_ne (tgt := 75) D_327_68 rfl h (fun h => ?_) (fun h => ?_)
  · refine mjq_ic (v := (0 : Int32)) D_327_75 rfl ?_
    refine mjr_goto (tgt := 92) D_327_76 rfl ?_
    exact mjG.fg (lo' := [some (.ref l0), some (.int l1), none, none, none]) (And.intro rfl (And.intro rfl True.intro)) ((t_327_92 hR h1 h2) _ _ _ _ _ h)
  · refine mjq_ic (v := (1 : Int32)) D_327_71 rfl ?_
    refine mjr_goto (tgt := 92) D_327_72 rfl ?_
    exact mjG.fg (lo' := [some (.ref l0), some (.int l1), none, none, none]) (And.intro rfl (And.intro rfl True.intro)) ((t_327_92 hR h1 h2) _ _ _ _ _ h)
noncomputable def b_327_91 (R : mjR) (l0 : Nat) (l1 : Int32) (hp : mjH) : mjU := b_327_92 R l0 l1 (0 : Int32) hp
theorem t_327_91 {X : mjX} {d C S kc ks : Nat} {R : mjR} (hR : mjC R d) (h1 : kc ≤ C) (h2 : ks ≤ S) : P_327_91 X (d + 1) C S kc ks (b_327_91 R) := by
  intro l0 l1 hp q h
  unfold b_327_91 at h
  refine mjq_ic (v := (0 : Int32)) D_327_91 rfl ?_
  exact (t_327_92 hR h1 h2) _ _ _ _ _ h
noncomputable def b_327_41 (R : mjR) (l0 : Nat) (l1 : Int32) (l2 : Int32) (s0 : Int32) (hp : mjH) : mjU := gR hp l0 12 56 (fun v1 => aI hp v1 l1 (fun v2 => (if v2 = (257 : Int32) then b_327_66 R l0 l1 l2 s0 hp else gR hp l0 12 56 (fun v3 => aI hp v3 l1 (fun v4 => (if v4 = (258 : Int32) then b_327_66 R l0 l1 l2 s0 hp else (if l2 = 0 then b_327_91 R l0 l1 hp else (if s0 = 0 then b_327_91 R l0 l1 hp else b_327_92 R l0 l1 (1 : Int32) hp))))))))
theorem t_327_41 {X : mjX} {d C S kc ks : Nat} {R : mjR} (hR : mjC R d) (h1 : kc ≤ C) (h2 : ks ≤ S) : P_327_41 X (d + 1) C S kc ks (b_327_41 R) := by
  intro l0 l1 l2 s0 hp q h
  unfold b_327_41 at h
  refine mjq_istore_n (lo' := [some (.ref l0), some (.int l1), some (.int l2), some (.int s0), none]) D_327_41 (Nat.le_of_ble_eq_true rfl) rfl ?_
  refine mjr_aload_n (x := l0) D_327_42 rfl ?_
  refine mjq_gR D_327_43 fr_12_154 h (fun v1 h => ?_)
  refine mjr_iload_n (x := l1) D_327_46 rfl ?_
  refine mjq_aI D_327_47 h (fun v2 h => ?_)
  refine mjq_si (v := (257 : Int32)) D_327_48 rfl ?_
  refine mjq_icmp_eq (tgt := 66) D_327_51 rfl h (fun h => ?_) (fun h => ?_)
  · exact (t_327_66 hR h1 h2) _ _ _ _ _ _ h
  · refine mjr_aload_n (x := l0) D_327_54 rfl ?_
    refine mjq_gR D_327_55 fr_12_154 h (fun v3 h => ?_)
    refine mjr_iload_n (x := l1) D_327_58 rfl ?_
    refine mjq_aI D_327_59 h (fun v4 h => ?_)
    refine mjq_si (v := (258 : Int32)) D_327_60 rfl ?_
    refine mjq_icmp_ne (tgt := 79) D_327_63 rfl h (fun h => ?_) (fun h => ?_)
    · refine mjr_iload_n (x := l2) D_327_79 rfl ?_
      refine mjq_if_eq (tgt := 91) D_327_80 rfl h (fun h => ?_) (fun h => ?_)
      · exact mjG.fg (lo' := [some (.ref l0), some (.int l1), none, none, none]) (And.intro rfl (And.intro rfl True.intro)) ((t_327_91 hR h1 h2) _ _ _ _ h)
      · refine mjr_iload_n (x := s0) D_327_83 rfl ?_
        refine mjq_if_eq (tgt := 91) D_327_84 rfl h (fun h => ?_) (fun h => ?_)
        · exact mjG.fg (lo' := [some (.ref l0), some (.int l1), none, none, none]) (And.intro rfl (And.intro rfl True.intro)) ((t_327_91 hR h1 h2) _ _ _ _ h)
        · refine mjq_ic (v := (1 : Int32)) D_327_87 rfl ?_
          refine mjr_goto (tgt := 92) D_327_88 rfl ?_
          exact mjG.fg (lo' := [some (.ref l0), some (.int l1), none, none, none]) (And.intro rfl (And.intro rfl True.intro)) ((t_327_92 hR h1 h2) _ _ _ _ _ h)
    · exact (t_327_66 hR h1 h2) _ _ _ _ _ _ h
noncomputable def b_327_20 (R : mjR) (l0 : Nat) (l1 : Int32) (s0 : Int32) (hp : mjH) : mjU := gR hp l0 12 79 (fun v1 => gI hp l0 12 82 (fun v2 => aI hp v1 (v2 - (1 : Int32)) (fun v3 => (if v3 = (-1 : Int32) then b_327_41 R l0 l1 s0 (1 : Int32) hp else b_327_41 R l0 l1 s0 (0 : Int32) hp))))
theorem t_327_20 {X : mjX} {d C S kc ks : Nat} {R : mjR} (hR : mjC R d) (h1 : kc ≤ C) (h2 : ks ≤ S) : P_327_20 X (d + 1) C S kc ks (b_327_20 R) := by
  intro l0 l1 s0 hp q h
  unfold b_327_20 at h
  refine mjq_istore_n (lo' := [some (.ref l0), some (.int l1), some (.int s0), none, none]) D_327_20 (Nat.le_of_ble_eq_true rfl) rfl ?_
  refine mjr_aload_n (x := l0) D_327_21 rfl ?_
  refine mjq_gR D_327_22 fr_12_191 h (fun v1 h => ?_)
  refine mjr_aload_n (x := l0) D_327_25 rfl ?_
  refine mjq_gI D_327_26 fr_12_567 h (fun v2 h => ?_)
  refine mjq_ic (v := (1 : Int32)) D_327_29 rfl ?_
  refine mjr_isub D_327_30 ?_
  refine mjq_aI D_327_31 h (fun v3 h => ?_)
  refine mjq_ic (v := (-1 : Int32)) D_327_32 rfl ?_
  refine mjq_icmp_ne (tgt := 40) D_327_33 rfl h (fun h => ?_) (fun h => ?_)
  · refine mjq_ic (v := (0 : Int32)) D_327_40 rfl ?_
    exact (t_327_41 hR h1 h2) _ _ _ _ _ _ h
  · refine mjq_ic (v := (1 : Int32)) D_327_36 rfl ?_
    refine mjr_goto (tgt := 41) D_327_37 rfl ?_
    exact (t_327_41 hR h1 h2) _ _ _ _ _ _ h
noncomputable def b_327_0 (R : mjR) (l0 : Nat) (l1 : Int32) (hp : mjH) : mjU := gR hp l0 12 79 (fun v1 => gI hp l0 12 82 (fun v2 => aI hp v1 (v2 - (2 : Int32)) (fun v3 => (if v3 = (-1 : Int32) then b_327_20 R l0 l1 (1 : Int32) hp else b_327_20 R l0 l1 (0 : Int32) hp))))
theorem t_327_0 {X : mjX} {d C S kc ks : Nat} {R : mjR} (hR : mjC R d) (h1 : kc ≤ C) (h2 : ks ≤ S) : P_327_0 X (d + 1) C S kc ks (b_327_0 R) := by
  intro l0 l1 hp q h
  unfold b_327_0 at h
  refine mjr_aload_n (x := l0) D_327_0 rfl ?_
  refine mjq_gR D_327_1 fr_12_191 h (fun v1 h => ?_)
  refine mjr_aload_n (x := l0) D_327_4 rfl ?_
  refine mjq_gI D_327_5 fr_12_567 h (fun v2 h => ?_)
  refine mjq_ic (v := (2 : Int32)) D_327_8 rfl ?_
  refine mjr_isub D_327_9 ?_
  refine mjq_aI D_327_10 h (fun v3 h => ?_)
  refine mjq_ic (v := (-1 : Int32)) D_327_11 rfl ?_
  refine mjq_icmp_ne (tgt := 19) D_327_12 rfl h (fun h => ?_) (fun h => ?_)
  · refine mjq_ic (v := (0 : Int32)) D_327_19 rfl ?_
    exact (t_327_20 hR h1 h2) _ _ _ _ _ h
  · refine mjq_ic (v := (1 : Int32)) D_327_15 rfl ?_
    refine mjr_goto (tgt := 20) D_327_16 rfl ?_
    exact (t_327_20 hR h1 h2) _ _ _ _ _ h
noncomputable def f_327 (R : mjR) (a0 : Nat) (a1 : Int32) (hp : mjH) : mjU := b_327_0 R a0 a1 hp
theorem c_327 {R : mjR} {d : Nat} (hR : mjC R d) {a0 : Nat} {a1 : Int32} {hp : mjH} {q : Option Value × mjH} (h : f_327 R a0 a1 hp = some q) : mjM (d + 1) 0 0 327 [.ref a0, .int a1] hp (mjEq q) :=
  mjM_of Ja_327 (Nat.le_of_ble_eq_true rfl) (mjG.fg (lo' := [some (.ref a0), some (.int a1), none, none, none]) (And.intro rfl (And.intro rfl True.intro)) ((t_327_0 hR (Nat.le_refl 0) (Nat.le_refl 0)) a0 a1 hp q h))
def J_328 : mjI := (⟨"OwnerHeapModel", "judgePart", "(I)V"⟩, 12, prog_14_method_78_code, 5, none, 1, false)
theorem Ja_328 : mjMt 328 = some J_328 := by rfl
theorem D_328_0 : decode J_328.2.2.1 0 = .ok (.aload_n 0, 1) := dzq_42 (by decide +kernel)
theorem D_328_1 : decode J_328.2.2.1 1 = .ok (.dup, 1) := dzq_89 (by decide +kernel)
theorem D_328_2 : decode J_328.2.2.1 2 = .ok (.getfield 567, 3) := dzq_180 (by decide +kernel)
theorem D_328_5 : decode J_328.2.2.1 5 = .ok (.iconst 1, 1) := dzq_4 (by decide +kernel)
theorem D_328_6 : decode J_328.2.2.1 6 = .ok (.isub, 1) := dzq_100 (by decide +kernel)
theorem D_328_7 : decode J_328.2.2.1 7 = .ok (.putfield 567, 3) := dzq_181 (by decide +kernel)
theorem D_328_10 : decode J_328.2.2.1 10 = .ok (.aload_n 0, 1) := dzq_42 (by decide +kernel)
theorem D_328_11 : decode J_328.2.2.1 11 = .ok (.getfield 194, 3) := dzq_180 (by decide +kernel)
theorem D_328_14 : decode J_328.2.2.1 14 = .ok (.aload_n 0, 1) := dzq_42 (by decide +kernel)
theorem D_328_15 : decode J_328.2.2.1 15 = .ok (.getfield 567, 3) := dzq_180 (by decide +kernel)
theorem D_328_18 : decode J_328.2.2.1 18 = .ok (.iaload, 1) := dzq_46 (by decide +kernel)
theorem D_328_19 : decode J_328.2.2.1 19 = .ok (.iconst 1, 1) := dzq_4 (by decide +kernel)
theorem D_328_20 : decode J_328.2.2.1 20 = .ok (.if_icmp .ne 7, 3) := dzq_160 (by decide +kernel)
theorem D_328_23 : decode J_328.2.2.1 23 = .ok (.iconst 1, 1) := dzq_4 (by decide +kernel)
theorem D_328_24 : decode J_328.2.2.1 24 = .ok (.goto 4, 3) := dzq_167 (by decide +kernel)
theorem D_328_27 : decode J_328.2.2.1 27 = .ok (.iconst 0, 1) := dzq_3 (by decide +kernel)
theorem D_328_28 : decode J_328.2.2.1 28 = .ok (.istore_n 2, 1) := dzq_61 (by decide +kernel)
theorem D_328_29 : decode J_328.2.2.1 29 = .ok (.aload_n 0, 1) := dzq_42 (by decide +kernel)
theorem D_328_30 : decode J_328.2.2.1 30 = .ok (.getfield 191, 3) := dzq_180 (by decide +kernel)
theorem D_328_33 : decode J_328.2.2.1 33 = .ok (.aload_n 0, 1) := dzq_42 (by decide +kernel)
theorem D_328_34 : decode J_328.2.2.1 34 = .ok (.getfield 567, 3) := dzq_180 (by decide +kernel)
theorem D_328_37 : decode J_328.2.2.1 37 = .ok (.iaload, 1) := dzq_46 (by decide +kernel)
theorem D_328_38 : decode J_328.2.2.1 38 = .ok (.ifCond .ge 16, 3) := dzq_156 (by decide +kernel)
theorem D_328_41 : decode J_328.2.2.1 41 = .ok (.aload_n 0, 1) := dzq_42 (by decide +kernel)
theorem D_328_42 : decode J_328.2.2.1 42 = .ok (.bipush 7, 2) := dzq_16 (by decide +kernel)
theorem D_328_44 : decode J_328.2.2.1 44 = .ok (.aload_n 0, 1) := dzq_42 (by decide +kernel)
theorem D_328_45 : decode J_328.2.2.1 45 = .ok (.getfield 151, 3) := dzq_180 (by decide +kernel)
theorem D_328_48 : decode J_328.2.2.1 48 = .ok (.iload_n 1, 1) := dzq_27 (by decide +kernel)
theorem D_328_49 : decode J_328.2.2.1 49 = .ok (.iaload, 1) := dzq_46 (by decide +kernel)
theorem D_328_50 : decode J_328.2.2.1 50 = .ok (.invokevirtual 339, 3) := dzq_182 (by decide +kernel)
theorem D_328_53 : decode J_328.2.2.1 53 = .ok (.return_, 1) := dzq_177 (by decide +kernel)
theorem D_328_54 : decode J_328.2.2.1 54 = .ok (.aload_n 0, 1) := dzq_42 (by decide +kernel)
theorem D_328_55 : decode J_328.2.2.1 55 = .ok (.aload_n 0, 1) := dzq_42 (by decide +kernel)
theorem D_328_56 : decode J_328.2.2.1 56 = .ok (.getfield 567, 3) := dzq_180 (by decide +kernel)
theorem D_328_59 : decode J_328.2.2.1 59 = .ok (.invokevirtual 576, 3) := dzq_182 (by decide +kernel)
theorem D_328_62 : decode J_328.2.2.1 62 = .ok (.aload_n 0, 1) := dzq_42 (by decide +kernel)
theorem D_328_63 : decode J_328.2.2.1 63 = .ok (.aload_n 0, 1) := dzq_42 (by decide +kernel)
theorem D_328_64 : decode J_328.2.2.1 64 = .ok (.getfield 160, 3) := dzq_180 (by decide +kernel)
theorem D_328_67 : decode J_328.2.2.1 67 = .ok (.iload_n 1, 1) := dzq_27 (by decide +kernel)
theorem D_328_68 : decode J_328.2.2.1 68 = .ok (.laload, 1) := dzq_47 (by decide +kernel)
theorem D_328_69 : decode J_328.2.2.1 69 = .ok (.aload_n 0, 1) := dzq_42 (by decide +kernel)
theorem D_328_70 : decode J_328.2.2.1 70 = .ok (.getfield 148, 3) := dzq_180 (by decide +kernel)
theorem D_328_73 : decode J_328.2.2.1 73 = .ok (.iload_n 1, 1) := dzq_27 (by decide +kernel)
theorem D_328_74 : decode J_328.2.2.1 74 = .ok (.iaload, 1) := dzq_46 (by decide +kernel)
theorem D_328_75 : decode J_328.2.2.1 75 = .ok (.bipush 11, 2) := dzq_16 (by decide +kernel)
theorem D_328_77 : decode J_328.2.2.1 77 = .ok (.if_icmp .ne 7, 3) := dzq_160 (by decide +kernel)
theorem D_328_80 : decode J_328.2.2.1 80 = .ok (.iconst 1, 1) := dzq_4 (by decide +kernel)
theorem D_328_81 : decode J_328.2.2.1 81 = .ok (.goto 4, 3) := dzq_167 (by decide +kernel)
theorem D_328_84 : decode J_328.2.2.1 84 = .ok (.iconst 0, 1) := dzq_3 (by decide +kernel)
theorem D_328_85 : decode J_328.2.2.1 85 = .ok (.iconst 0, 1) := dzq_3 (by decide +kernel)
theorem D_328_86 : decode J_328.2.2.1 86 = .ok (.invokevirtual 556, 3) := dzq_182 (by decide +kernel)
theorem D_328_89 : decode J_328.2.2.1 89 = .ok (.istore_n 3, 1) := dzq_62 (by decide +kernel)
theorem D_328_90 : decode J_328.2.2.1 90 = .ok (.iload_n 3, 1) := dzq_29 (by decide +kernel)
theorem D_328_91 : decode J_328.2.2.1 91 = .ok (.iconst (-1), 1) := dzq_2 (by decide +kernel)
theorem D_328_92 : decode J_328.2.2.1 92 = .ok (.if_icmp .ne 17, 3) := dzq_160 (by decide +kernel)
theorem D_328_95 : decode J_328.2.2.1 95 = .ok (.aload_n 0, 1) := dzq_42 (by decide +kernel)
theorem D_328_96 : decode J_328.2.2.1 96 = .ok (.iconst 5, 1) := dzq_8 (by decide +kernel)
theorem D_328_97 : decode J_328.2.2.1 97 = .ok (.aload_n 0, 1) := dzq_42 (by decide +kernel)
theorem D_328_98 : decode J_328.2.2.1 98 = .ok (.getfield 151, 3) := dzq_180 (by decide +kernel)
theorem D_328_101 : decode J_328.2.2.1 101 = .ok (.iload_n 1, 1) := dzq_27 (by decide +kernel)
theorem D_328_102 : decode J_328.2.2.1 102 = .ok (.iaload, 1) := dzq_46 (by decide +kernel)
theorem D_328_103 : decode J_328.2.2.1 103 = .ok (.invokevirtual 339, 3) := dzq_182 (by decide +kernel)
theorem D_328_106 : decode J_328.2.2.1 106 = .ok (.goto 68, 3) := dzq_167 (by decide +kernel)
theorem D_328_109 : decode J_328.2.2.1 109 = .ok (.iload_n 2, 1) := dzq_28 (by decide +kernel)
theorem D_328_110 : decode J_328.2.2.1 110 = .ok (.ifCond .ne 26, 3) := dzq_154 (by decide +kernel)
theorem D_328_113 : decode J_328.2.2.1 113 = .ok (.aload_n 0, 1) := dzq_42 (by decide +kernel)
theorem D_328_114 : decode J_328.2.2.1 114 = .ok (.iload_n 3, 1) := dzq_29 (by decide +kernel)
theorem D_328_115 : decode J_328.2.2.1 115 = .ok (.invokevirtual 618, 3) := dzq_182 (by decide +kernel)
theorem D_328_118 : decode J_328.2.2.1 118 = .ok (.ifCond .eq 18, 3) := dzq_153 (by decide +kernel)
theorem D_328_121 : decode J_328.2.2.1 121 = .ok (.aload_n 0, 1) := dzq_42 (by decide +kernel)
theorem D_328_122 : decode J_328.2.2.1 122 = .ok (.bipush 10, 2) := dzq_16 (by decide +kernel)
theorem D_328_124 : decode J_328.2.2.1 124 = .ok (.aload_n 0, 1) := dzq_42 (by decide +kernel)
theorem D_328_125 : decode J_328.2.2.1 125 = .ok (.getfield 151, 3) := dzq_180 (by decide +kernel)
theorem D_328_128 : decode J_328.2.2.1 128 = .ok (.iload_n 1, 1) := dzq_27 (by decide +kernel)
theorem D_328_129 : decode J_328.2.2.1 129 = .ok (.iaload, 1) := dzq_46 (by decide +kernel)
theorem D_328_130 : decode J_328.2.2.1 130 = .ok (.invokevirtual 339, 3) := dzq_182 (by decide +kernel)
theorem D_328_133 : decode J_328.2.2.1 133 = .ok (.goto 41, 3) := dzq_167 (by decide +kernel)
theorem D_328_136 : decode J_328.2.2.1 136 = .ok (.aload_n 0, 1) := dzq_42 (by decide +kernel)
theorem D_328_137 : decode J_328.2.2.1 137 = .ok (.getfield 148, 3) := dzq_180 (by decide +kernel)
theorem D_328_140 : decode J_328.2.2.1 140 = .ok (.iload_n 1, 1) := dzq_27 (by decide +kernel)
theorem D_328_141 : decode J_328.2.2.1 141 = .ok (.iaload, 1) := dzq_46 (by decide +kernel)
theorem D_328_142 : decode J_328.2.2.1 142 = .ok (.bipush 11, 2) := dzq_16 (by decide +kernel)
theorem D_328_144 : decode J_328.2.2.1 144 = .ok (.if_icmp .ne 30, 3) := dzq_160 (by decide +kernel)
theorem D_328_147 : decode J_328.2.2.1 147 = .ok (.aload_n 0, 1) := dzq_42 (by decide +kernel)
theorem D_328_148 : decode J_328.2.2.1 148 = .ok (.getfield 157, 3) := dzq_180 (by decide +kernel)
theorem D_328_151 : decode J_328.2.2.1 151 = .ok (.iload_n 1, 1) := dzq_27 (by decide +kernel)
theorem D_328_152 : decode J_328.2.2.1 152 = .ok (.iaload, 1) := dzq_46 (by decide +kernel)
theorem D_328_153 : decode J_328.2.2.1 153 = .ok (.aload_n 0, 1) := dzq_42 (by decide +kernel)
theorem D_328_154 : decode J_328.2.2.1 154 = .ok (.getfield 103, 3) := dzq_180 (by decide +kernel)
theorem D_328_157 : decode J_328.2.2.1 157 = .ok (.iload_n 3, 1) := dzq_29 (by decide +kernel)
theorem D_328_158 : decode J_328.2.2.1 158 = .ok (.iaload, 1) := dzq_46 (by decide +kernel)
theorem D_328_159 : decode J_328.2.2.1 159 = .ok (.if_icmp .eq 15, 3) := dzq_159 (by decide +kernel)
theorem D_328_162 : decode J_328.2.2.1 162 = .ok (.aload_n 0, 1) := dzq_42 (by decide +kernel)
theorem D_328_163 : decode J_328.2.2.1 163 = .ok (.bipush 6, 2) := dzq_16 (by decide +kernel)
theorem D_328_165 : decode J_328.2.2.1 165 = .ok (.aload_n 0, 1) := dzq_42 (by decide +kernel)
theorem D_328_166 : decode J_328.2.2.1 166 = .ok (.getfield 151, 3) := dzq_180 (by decide +kernel)
theorem D_328_169 : decode J_328.2.2.1 169 = .ok (.iload_n 1, 1) := dzq_27 (by decide +kernel)
theorem D_328_170 : decode J_328.2.2.1 170 = .ok (.iaload, 1) := dzq_46 (by decide +kernel)
theorem D_328_171 : decode J_328.2.2.1 171 = .ok (.invokevirtual 339, 3) := dzq_182 (by decide +kernel)
theorem D_328_174 : decode J_328.2.2.1 174 = .ok (.aload_n 0, 1) := dzq_42 (by decide +kernel)
theorem D_328_175 : decode J_328.2.2.1 175 = .ok (.getfield 333, 3) := dzq_180 (by decide +kernel)
theorem D_328_178 : decode J_328.2.2.1 178 = .ok (.ifCond .le 4, 3) := dzq_158 (by decide +kernel)
theorem D_328_181 : decode J_328.2.2.1 181 = .ok (.return_, 1) := dzq_177 (by decide +kernel)
theorem D_328_182 : decode J_328.2.2.1 182 = .ok (.aload_n 0, 1) := dzq_42 (by decide +kernel)
theorem D_328_183 : decode J_328.2.2.1 183 = .ok (.getfield 148, 3) := dzq_180 (by decide +kernel)
theorem D_328_186 : decode J_328.2.2.1 186 = .ok (.iload_n 1, 1) := dzq_27 (by decide +kernel)
theorem D_328_187 : decode J_328.2.2.1 187 = .ok (.iaload, 1) := dzq_46 (by decide +kernel)
theorem D_328_188 : decode J_328.2.2.1 188 = .ok (.bipush 11, 2) := dzq_16 (by decide +kernel)
theorem D_328_190 : decode J_328.2.2.1 190 = .ok (.if_icmp .ne 62, 3) := dzq_160 (by decide +kernel)
theorem D_328_193 : decode J_328.2.2.1 193 = .ok (.aload_n 0, 1) := dzq_42 (by decide +kernel)
theorem D_328_194 : decode J_328.2.2.1 194 = .ok (.getfield 212, 3) := dzq_180 (by decide +kernel)
theorem D_328_197 : decode J_328.2.2.1 197 = .ok (.aload_n 0, 1) := dzq_42 (by decide +kernel)
theorem D_328_198 : decode J_328.2.2.1 198 = .ok (.getfield 591, 3) := dzq_180 (by decide +kernel)
theorem D_328_201 : decode J_328.2.2.1 201 = .ok (.iload_n 3, 1) := dzq_29 (by decide +kernel)
theorem D_328_202 : decode J_328.2.2.1 202 = .ok (.iastore, 1) := dzq_79 (by decide +kernel)
theorem D_328_203 : decode J_328.2.2.1 203 = .ok (.iconst 0, 1) := dzq_3 (by decide +kernel)
theorem D_328_204 : decode J_328.2.2.1 204 = .ok (.istore 4, 2) := dzq_54 (by decide +kernel)
theorem D_328_206 : decode J_328.2.2.1 206 = .ok (.iload 4, 2) := dzq_21 (by decide +kernel)
theorem D_328_208 : decode J_328.2.2.1 208 = .ok (.iconst 5, 1) := dzq_8 (by decide +kernel)
theorem D_328_209 : decode J_328.2.2.1 209 = .ok (.if_icmp .ge 30, 3) := dzq_162 (by decide +kernel)
theorem D_328_212 : decode J_328.2.2.1 212 = .ok (.aload_n 0, 1) := dzq_42 (by decide +kernel)
theorem D_328_213 : decode J_328.2.2.1 213 = .ok (.getfield 215, 3) := dzq_180 (by decide +kernel)
theorem D_328_216 : decode J_328.2.2.1 216 = .ok (.iconst 5, 1) := dzq_8 (by decide +kernel)
theorem D_328_217 : decode J_328.2.2.1 217 = .ok (.aload_n 0, 1) := dzq_42 (by decide +kernel)
theorem D_328_218 : decode J_328.2.2.1 218 = .ok (.getfield 591, 3) := dzq_180 (by decide +kernel)
theorem D_328_221 : decode J_328.2.2.1 221 = .ok (.imul, 1) := dzq_104 (by decide +kernel)
theorem D_328_222 : decode J_328.2.2.1 222 = .ok (.iload 4, 2) := dzq_21 (by decide +kernel)
theorem D_328_224 : decode J_328.2.2.1 224 = .ok (.iadd, 1) := dzq_96 (by decide +kernel)
theorem D_328_225 : decode J_328.2.2.1 225 = .ok (.aload_n 0, 1) := dzq_42 (by decide +kernel)
theorem D_328_226 : decode J_328.2.2.1 226 = .ok (.getfield 221, 3) := dzq_180 (by decide +kernel)
theorem D_328_229 : decode J_328.2.2.1 229 = .ok (.iload 4, 2) := dzq_21 (by decide +kernel)
theorem D_328_231 : decode J_328.2.2.1 231 = .ok (.iaload, 1) := dzq_46 (by decide +kernel)
theorem D_328_232 : decode J_328.2.2.1 232 = .ok (.iastore, 1) := dzq_79 (by decide +kernel)
theorem D_328_233 : decode J_328.2.2.1 233 = .ok (.iinc 4 1, 3) := dzq_132 (by decide +kernel)
theorem D_328_236 : decode J_328.2.2.1 236 = .ok (.goto (-30), 3) := dzq_167 (by decide +kernel)
theorem D_328_239 : decode J_328.2.2.1 239 = .ok (.aload_n 0, 1) := dzq_42 (by decide +kernel)
theorem D_328_240 : decode J_328.2.2.1 240 = .ok (.dup, 1) := dzq_89 (by decide +kernel)
theorem D_328_241 : decode J_328.2.2.1 241 = .ok (.getfield 591, 3) := dzq_180 (by decide +kernel)
theorem D_328_244 : decode J_328.2.2.1 244 = .ok (.iconst 1, 1) := dzq_4 (by decide +kernel)
theorem D_328_245 : decode J_328.2.2.1 245 = .ok (.iadd, 1) := dzq_96 (by decide +kernel)
theorem D_328_246 : decode J_328.2.2.1 246 = .ok (.putfield 591, 3) := dzq_181 (by decide +kernel)
theorem D_328_249 : decode J_328.2.2.1 249 = .ok (.goto 25, 3) := dzq_167 (by decide +kernel)
theorem D_328_252 : decode J_328.2.2.1 252 = .ok (.aload_n 0, 1) := dzq_42 (by decide +kernel)
theorem D_328_253 : decode J_328.2.2.1 253 = .ok (.getfield 154, 3) := dzq_180 (by decide +kernel)
theorem D_328_256 : decode J_328.2.2.1 256 = .ok (.iload_n 1, 1) := dzq_27 (by decide +kernel)
theorem D_328_257 : decode J_328.2.2.1 257 = .ok (.aload_n 0, 1) := dzq_42 (by decide +kernel)
theorem D_328_258 : decode J_328.2.2.1 258 = .ok (.getfield 109, 3) := dzq_180 (by decide +kernel)
theorem D_328_261 : decode J_328.2.2.1 261 = .ok (.iload_n 3, 1) := dzq_29 (by decide +kernel)
theorem D_328_262 : decode J_328.2.2.1 262 = .ok (.iaload, 1) := dzq_46 (by decide +kernel)
theorem D_328_263 : decode J_328.2.2.1 263 = .ok (.iastore, 1) := dzq_79 (by decide +kernel)
theorem D_328_264 : decode J_328.2.2.1 264 = .ok (.aload_n 0, 1) := dzq_42 (by decide +kernel)
theorem D_328_265 : decode J_328.2.2.1 265 = .ok (.aload_n 0, 1) := dzq_42 (by decide +kernel)
theorem D_328_266 : decode J_328.2.2.1 266 = .ok (.getfield 97, 3) := dzq_180 (by decide +kernel)
theorem D_328_269 : decode J_328.2.2.1 269 = .ok (.iload_n 3, 1) := dzq_29 (by decide +kernel)
theorem D_328_270 : decode J_328.2.2.1 270 = .ok (.iaload, 1) := dzq_46 (by decide +kernel)
theorem D_328_271 : decode J_328.2.2.1 271 = .ok (.invokevirtual 609, 3) := dzq_182 (by decide +kernel)
theorem D_328_274 : decode J_328.2.2.1 274 = .ok (.return_, 1) := dzq_177 (by decide +kernel)
def P_328_206 (X : mjX) (d C S kc ks : Nat) (k : Nat → Int32 → mjH → mjU) : Prop := ∀ (l0 : Nat) (l4 : Int32) (hp : mjH) (q : Option Value × mjH), k l0 l4 hp = some q → mjG X d C S J_328 (mjEq q) 206 [some (.ref l0), none, none, none, some (.int l4)] [] hp kc ks
def P_328_174 (X : mjX) (d C S kc ks : Nat) (k : Nat → Int32 → Int32 → mjH → mjU) : Prop := ∀ (l0 : Nat) (l1 : Int32) (l3 : Int32) (hp : mjH) (q : Option Value × mjH), k l0 l1 l3 hp = some q → mjG X d C S J_328 (mjEq q) 174 [some (.ref l0), some (.int l1), none, some (.int l3), none] [] hp kc ks
def P_328_136 (X : mjX) (d C S kc ks : Nat) (k : Nat → Int32 → Int32 → mjH → mjU) : Prop := ∀ (l0 : Nat) (l1 : Int32) (l3 : Int32) (hp : mjH) (q : Option Value × mjH), k l0 l1 l3 hp = some q → mjG X d C S J_328 (mjEq q) 136 [some (.ref l0), some (.int l1), none, some (.int l3), none] [] hp kc ks
def P_328_85 (X : mjX) (d C S kc ks : Nat) (k : Nat → Int32 → Int32 → Nat → Int64 → Int32 → mjH → mjU) : Prop := ∀ (l0 : Nat) (l1 : Int32) (l2 : Int32) (s0 : Nat) (s1 : Int64) (s2 : Int32) (hp : mjH) (q : Option Value × mjH), k l0 l1 l2 s0 s1 s2 hp = some q → mjG X d C S J_328 (mjEq q) 85 [some (.ref l0), some (.int l1), some (.int l2), none, none] [.int s2, .long s1, .ref s0] hp kc ks
def P_328_28 (X : mjX) (d C S kc ks : Nat) (k : Nat → Int32 → Int32 → mjH → mjU) : Prop := ∀ (l0 : Nat) (l1 : Int32) (s0 : Int32) (hp : mjH) (q : Option Value × mjH), k l0 l1 s0 hp = some q → mjG X d C S J_328 (mjEq q) 28 [some (.ref l0), some (.int l1), none, none, none] [.int s0] hp kc ks
def P_328_0 (X : mjX) (d C S kc ks : Nat) (k : Nat → Int32 → mjH → mjU) : Prop := ∀ (l0 : Nat) (l1 : Int32) (hp : mjH) (q : Option Value × mjH), k l0 l1 hp = some q → mjG X d C S J_328 (mjEq q) 0 [some (.ref l0), some (.int l1), none, none, none] [] hp kc ks
noncomputable def b_328_206 (R : mjR) (k206 : Nat → Int32 → mjH → mjU) (l0 : Nat) (l4 : Int32) (hp : mjH) : mjU := (if (5 : Int32) ≤ l4 then gI hp l0 12 92 (fun v1 => pI hp l0 12 92 (v1 + (1 : Int32)) (fun hp2 => some (none, hp2))) else gR hp l0 12 90 (fun v3 => gI hp l0 12 92 (fun v4 => gR hp l0 12 93 (fun v5 => aI hp v5 l4 (fun v6 => sI hp v3 (((5 : Int32) * v4) + l4) v6 (fun hp7 => k206 l0 (l4 + (1 : Int32)) hp7))))))
theorem t_328_206 {X : mjX} {d C S kc ks : Nat} {R : mjR} (hR : mjC R d) (h1 : kc ≤ C) (h2 : ks ≤ S) {k206 : Nat → Int32 → mjH → mjU} (hk206 : P_328_206 X (d + 1) C S kc ks k206) : P_328_206 X (d + 1) C S kc ks (b_328_206 R k206) := by
  intro l0 l4 hp q h
  unfold b_328_206 at h
  refine mjr_iload (x := l4) D_328_206 rfl ?_
  refine mjq_ic (v := (5 : Int32)) D_328_208 rfl ?_
  refine mjq_icmp_ge (tgt := 239) D_328_209 rfl h (fun h => ?_) (fun h => ?_)
  · refine mjr_aload_n (x := l0) D_328_239 rfl ?_
    refine mjr_dup D_328_240 rfl ?_
    refine mjq_gI D_328_241 fr_12_591 h (fun v1 h => ?_)
    refine mjq_ic (v := (1 : Int32)) D_328_244 rfl ?_
    refine mjr_iadd D_328_245 ?_
    refine mjq_pI D_328_246 fr_12_591 rfl rfl h (fun hp2 h => ?_)
    refine mjr_goto (tgt := 274) D_328_249 rfl ?_
    exact mjq_nret D_328_274 rfl h1 h2 h
  · refine mjr_aload_n (x := l0) D_328_212 rfl ?_
    refine mjq_gR D_328_213 fr_12_215 h (fun v3 h => ?_)
    refine mjq_ic (v := (5 : Int32)) D_328_216 rfl ?_
    refine mjr_aload_n (x := l0) D_328_217 rfl ?_
    refine mjq_gI D_328_218 fr_12_591 h (fun v4 h => ?_)
    refine mjr_imul D_328_221 ?_
    refine mjr_iload (x := l4) D_328_222 rfl ?_
    refine mjr_iadd D_328_224 ?_
    refine mjr_aload_n (x := l0) D_328_225 rfl ?_
    refine mjq_gR D_328_226 fr_12_221 h (fun v5 h => ?_)
    refine mjr_iload (x := l4) D_328_229 rfl ?_
    refine mjq_aI D_328_231 h (fun v6 h => ?_)
    refine mjq_sI D_328_232 h (fun hp7 h => ?_)
    refine mjq_iinc (x := l4) (c := (1 : Int32)) (lo' := [some (.ref l0), none, none, none, some (.int (l4 + (1 : Int32)))]) D_328_233 rfl (Nat.le_of_ble_eq_true rfl) rfl rfl ?_
    refine mjr_goto (tgt := 206) D_328_236 rfl ?_
    exact hk206 _ _ _ _ h
noncomputable def L_328_206 (R : mjR) (n : Nat) : Nat → Int32 → mjH → mjU := Nat.rec (motive := fun _ => Nat → Int32 → mjH → mjU) (fun _ _ _ => none) (fun _ self => b_328_206 R self) n
theorem T_328_206 {X : mjX} {d C S kc ks : Nat} {R : mjR} (hR : mjC R d) (h1 : kc ≤ C) (h2 : ks ≤ S) (n : Nat) : P_328_206 X (d + 1) C S kc ks (L_328_206 R n) := by
  induction n with
  | zero => intro _ _ _ _ h; exact mj_no h
  | succ n ih => exact t_328_206 hR h1 h2 ih
noncomputable def b_328_174 (R : mjR) (l0 : Nat) (l1 : Int32) (l3 : Int32) (hp : mjH) : mjU := gI hp l0 12 61 (fun v1 => (if v1 ≤ 0 then gR hp l0 12 54 (fun v2 => aI hp v2 l1 (fun v3 => (if v3 = (11 : Int32) then gR hp l0 12 89 (fun v11 => gI hp l0 12 92 (fun v12 => sI hp v11 v12 l3 (fun hp13 => L_328_206 R mjN l0 (0 : Int32) hp13))) else gR hp l0 12 56 (fun v4 => gR hp l0 12 41 (fun v5 => aI hp v5 l3 (fun v6 => sI hp v4 l1 v6 (fun hp7 => gR hp7 l0 12 37 (fun v8 => aI hp7 v8 l3 (fun v9 => rV hp7 l0 12 (bN (R 332 [.ref l0, .int v9] hp7) (fun  hp10 => some (none, hp10)))))))))))) else some (none, hp)))
theorem t_328_174 {X : mjX} {d C S kc ks : Nat} {R : mjR} (hR : mjC R d) (h1 : kc ≤ C) (h2 : ks ≤ S) : P_328_174 X (d + 1) C S kc ks (b_328_174 R) := by
  intro l0 l1 l3 hp q h
  unfold b_328_174 at h
  refine mjr_aload_n (x := l0) D_328_174 rfl ?_
  refine mjq_gI D_328_175 fr_12_333 h (fun v1 h => ?_)
  refine mjq_if_le (tgt := 182) D_328_178 rfl h (fun h => ?_) (fun h => ?_)
  · refine mjr_aload_n (x := l0) D_328_182 rfl ?_
    refine mjq_gR D_328_183 fr_12_148 h (fun v2 h => ?_)
    refine mjr_iload_n (x := l1) D_328_186 rfl ?_
    refine mjq_aI D_328_187 h (fun v3 h => ?_)
    refine mjq_bi (v := (11 : Int32)) D_328_188 rfl ?_
    refine mjq_icmp_ne (tgt := 252) D_328_190 rfl h (fun h => ?_) (fun h => ?_)
    · refine mjr_aload_n (x := l0) D_328_252 rfl ?_
      refine mjq_gR D_328_253 fr_12_154 h (fun v4 h => ?_)
      refine mjr_iload_n (x := l1) D_328_256 rfl ?_
      refine mjr_aload_n (x := l0) D_328_257 rfl ?_
      refine mjq_gR D_328_258 fr_12_109 h (fun v5 h => ?_)
      refine mjr_iload_n (x := l3) D_328_261 rfl ?_
      refine mjq_aI D_328_262 h (fun v6 h => ?_)
      refine mjq_sI D_328_263 h (fun hp7 h => ?_)
      refine mjr_aload_n (x := l0) D_328_264 rfl ?_
      refine mjr_aload_n (x := l0) D_328_265 rfl ?_
      refine mjq_gR D_328_266 fr_12_97 h (fun v8 h => ?_)
      refine mjr_iload_n (x := l3) D_328_269 rfl ?_
      refine mjq_aI D_328_270 h (fun v9 h => ?_)
      refine mjq_vN (As := [.int v9]) (rest := []) D_328_271 mr_12_609 V_332 rfl rfl rfl hR (Nat.le_refl _) h1 h2 h (fun  hp10 h => ?_)
      exact mjq_nret D_328_274 rfl h1 h2 h
    · refine mjr_aload_n (x := l0) D_328_193 rfl ?_
      refine mjq_gR D_328_194 fr_12_212 h (fun v11 h => ?_)
      refine mjr_aload_n (x := l0) D_328_197 rfl ?_
      refine mjq_gI D_328_198 fr_12_591 h (fun v12 h => ?_)
      refine mjr_iload_n (x := l3) D_328_201 rfl ?_
      refine mjq_sI D_328_202 h (fun hp13 h => ?_)
      refine mjq_ic (v := (0 : Int32)) D_328_203 rfl ?_
      refine mjq_istore (lo' := [some (.ref l0), some (.int l1), none, some (.int l3), some (.int (0 : Int32))]) D_328_204 (Nat.le_of_ble_eq_true rfl) rfl ?_
      exact mjG.fg (lo' := [some (.ref l0), none, none, none, some (.int (0 : Int32))]) (And.intro rfl (And.intro rfl True.intro)) ((T_328_206 hR h1 h2 mjN) _ _ _ _ h)
  · exact mjq_nret D_328_181 rfl h1 h2 h
noncomputable def b_328_136 (R : mjR) (l0 : Nat) (l1 : Int32) (l3 : Int32) (hp : mjH) : mjU := gR hp l0 12 54 (fun v1 => aI hp v1 l1 (fun v2 => (if v2 = (11 : Int32) then gR hp l0 12 57 (fun v3 => aI hp v3 l1 (fun v4 => gR hp l0 12 39 (fun v5 => aI hp v5 l3 (fun v6 => (if v4 = v6 then b_328_174 R l0 l1 l3 hp else gR hp l0 12 55 (fun v7 => aI hp v7 l1 (fun v8 => rV hp l0 12 (bN (R 268 [.ref l0, .int (6 : Int32), .int v8] hp) (fun  hp9 => b_328_174 R l0 l1 l3 hp9))))))))) else b_328_174 R l0 l1 l3 hp)))
theorem t_328_136 {X : mjX} {d C S kc ks : Nat} {R : mjR} (hR : mjC R d) (h1 : kc ≤ C) (h2 : ks ≤ S) : P_328_136 X (d + 1) C S kc ks (b_328_136 R) := by
  intro l0 l1 l3 hp q h
  unfold b_328_136 at h
  refine mjr_aload_n (x := l0) D_328_136 rfl ?_
  refine mjq_gR D_328_137 fr_12_148 h (fun v1 h => ?_)
  refine mjr_iload_n (x := l1) D_328_140 rfl ?_
  refine mjq_aI D_328_141 h (fun v2 h => ?_)
  refine mjq_bi (v := (11 : Int32)) D_328_142 rfl ?_
  refine mjq_icmp_ne (tgt := 174) D_328_144 rfl h (fun h => ?_) (fun h => ?_)
  · exact (t_328_174 hR h1 h2) _ _ _ _ _ h
  · refine mjr_aload_n (x := l0) D_328_147 rfl ?_
    refine mjq_gR D_328_148 fr_12_157 h (fun v3 h => ?_)
    refine mjr_iload_n (x := l1) D_328_151 rfl ?_
    refine mjq_aI D_328_152 h (fun v4 h => ?_)
    refine mjr_aload_n (x := l0) D_328_153 rfl ?_
    refine mjq_gR D_328_154 fr_12_103 h (fun v5 h => ?_)
    refine mjr_iload_n (x := l3) D_328_157 rfl ?_
    refine mjq_aI D_328_158 h (fun v6 h => ?_)
    refine mjq_icmp_eq (tgt := 174) D_328_159 rfl h (fun h => ?_) (fun h => ?_)
    · exact (t_328_174 hR h1 h2) _ _ _ _ _ h
    · refine mjr_aload_n (x := l0) D_328_162 rfl ?_
      refine mjq_bi (v := (6 : Int32)) D_328_163 rfl ?_
      refine mjr_aload_n (x := l0) D_328_165 rfl ?_
      refine mjq_gR D_328_166 fr_12_151 h (fun v7 h => ?_)
      refine mjr_iload_n (x := l1) D_328_169 rfl ?_
      refine mjq_aI D_328_170 h (fun v8 h => ?_)
      refine mjq_vN (As := [.int (6 : Int32), .int v8]) (rest := []) D_328_171 mr_12_339 V_268 rfl rfl rfl hR (Nat.le_refl _) h1 h2 h (fun  hp9 h => ?_)
      exact (t_328_174 hR h1 h2) _ _ _ _ _ h
noncomputable def b_328_85 (R : mjR) (l0 : Nat) (l1 : Int32) (l2 : Int32) (s0 : Nat) (s1 : Int64) (s2 : Int32) (hp : mjH) : mjU := rV hp s0 12 (bI (R 316 [.ref s0, .long s1, .int s2, .int (0 : Int32)] hp) (fun v1 hp2 => (if v1 = (-1 : Int32) then gR hp2 l0 12 55 (fun v8 => aI hp2 v8 l1 (fun v9 => rV hp2 l0 12 (bN (R 268 [.ref l0, .int (5 : Int32), .int v9] hp2) (fun  hp10 => b_328_174 R l0 l1 v1 hp10)))) else (if l2 = 0 then rV hp2 l0 12 (bI (R 330 [.ref l0, .int v1] hp2) (fun v3 hp4 => (if v3 = 0 then b_328_136 R l0 l1 v1 hp4 else gR hp4 l0 12 55 (fun v5 => aI hp4 v5 l1 (fun v6 => rV hp4 l0 12 (bN (R 268 [.ref l0, .int (10 : Int32), .int v6] hp4) (fun  hp7 => b_328_174 R l0 l1 v1 hp7))))))) else b_328_136 R l0 l1 v1 hp2))))
theorem t_328_85 {X : mjX} {d C S kc ks : Nat} {R : mjR} (hR : mjC R d) (h1 : kc ≤ C) (h2 : ks ≤ S) : P_328_85 X (d + 1) C S kc ks (b_328_85 R) := by
  intro l0 l1 l2 s0 s1 s2 hp q h
  unfold b_328_85 at h
  refine mjq_ic (v := (0 : Int32)) D_328_85 rfl ?_
  refine mjq_vI (As := [.long s1, .int s2, .int (0 : Int32)]) (rest := []) D_328_86 mr_12_556 V_316 rfl rfl rfl hR (Nat.le_refl _) h1 h2 h (fun v1 hp2 h => ?_)
  refine mjq_istore_n (lo' := [some (.ref l0), some (.int l1), some (.int l2), some (.int v1), none]) D_328_89 (Nat.le_of_ble_eq_true rfl) rfl ?_
  refine mjr_iload_n (x := v1) D_328_90 rfl ?_
  refine mjq_ic (v := (-1 : Int32)) D_328_91 rfl ?_
  refine mjq_icmp_ne (tgt := 109) D_328_92 rfl h (fun h => ?_) (fun h => ?_)
  · refine mjr_iload_n (x := l2) D_328_109 rfl ?_
    refine mjq_if_ne (tgt := 136) D_328_110 rfl h (fun h => ?_) (fun h => ?_)
    · exact mjG.fg (lo' := [some (.ref l0), some (.int l1), none, some (.int v1), none]) (And.intro rfl (And.intro rfl (And.intro rfl True.intro))) ((t_328_136 hR h1 h2) _ _ _ _ _ h)
    · refine mjr_aload_n (x := l0) D_328_113 rfl ?_
      refine mjr_iload_n (x := v1) D_328_114 rfl ?_
      refine mjq_vI (As := [.int v1]) (rest := []) D_328_115 mr_12_618 V_330 rfl rfl rfl hR (Nat.le_refl _) h1 h2 h (fun v3 hp4 h => ?_)
      refine mjq_if_eq (tgt := 136) D_328_118 rfl h (fun h => ?_) (fun h => ?_)
      · exact mjG.fg (lo' := [some (.ref l0), some (.int l1), none, some (.int v1), none]) (And.intro rfl (And.intro rfl (And.intro rfl True.intro))) ((t_328_136 hR h1 h2) _ _ _ _ _ h)
      · refine mjr_aload_n (x := l0) D_328_121 rfl ?_
        refine mjq_bi (v := (10 : Int32)) D_328_122 rfl ?_
        refine mjr_aload_n (x := l0) D_328_124 rfl ?_
        refine mjq_gR D_328_125 fr_12_151 h (fun v5 h => ?_)
        refine mjr_iload_n (x := l1) D_328_128 rfl ?_
        refine mjq_aI D_328_129 h (fun v6 h => ?_)
        refine mjq_vN (As := [.int (10 : Int32), .int v6]) (rest := []) D_328_130 mr_12_339 V_268 rfl rfl rfl hR (Nat.le_refl _) h1 h2 h (fun  hp7 h => ?_)
        refine mjr_goto (tgt := 174) D_328_133 rfl ?_
        exact mjG.fg (lo' := [some (.ref l0), some (.int l1), none, some (.int v1), none]) (And.intro rfl (And.intro rfl (And.intro rfl True.intro))) ((t_328_174 hR h1 h2) _ _ _ _ _ h)
  · refine mjr_aload_n (x := l0) D_328_95 rfl ?_
    refine mjq_ic (v := (5 : Int32)) D_328_96 rfl ?_
    refine mjr_aload_n (x := l0) D_328_97 rfl ?_
    refine mjq_gR D_328_98 fr_12_151 h (fun v8 h => ?_)
    refine mjr_iload_n (x := l1) D_328_101 rfl ?_
    refine mjq_aI D_328_102 h (fun v9 h => ?_)
    refine mjq_vN (As := [.int (5 : Int32), .int v9]) (rest := []) D_328_103 mr_12_339 V_268 rfl rfl rfl hR (Nat.le_refl _) h1 h2 h (fun  hp10 h => ?_)
    refine mjr_goto (tgt := 174) D_328_106 rfl ?_
    exact mjG.fg (lo' := [some (.ref l0), some (.int l1), none, some (.int v1), none]) (And.intro rfl (And.intro rfl (And.intro rfl True.intro))) ((t_328_174 hR h1 h2) _ _ _ _ _ h)
noncomputable def b_328_28 (R : mjR) (l0 : Nat) (l1 : Int32) (s0 : Int32) (hp : mjH) : mjU := gR hp l0 12 79 (fun v1 => gI hp l0 12 82 (fun v2 => aI hp v1 v2 (fun v3 => (if 0 ≤ v3 then gI hp l0 12 82 (fun v4 => rV hp l0 12 (bN (R 329 [.ref l0, .int v4] hp) (fun  hp5 => gR hp5 l0 12 58 (fun v6 => aL hp5 v6 l1 (fun v7 => gR hp5 l0 12 54 (fun v8 => aI hp5 v8 l1 (fun v9 => (if v9 = (11 : Int32) then b_328_85 R l0 l1 s0 l0 v7 (1 : Int32) hp5 else b_328_85 R l0 l1 s0 l0 v7 (0 : Int32) hp5)))))))) else gR hp l0 12 55 (fun v10 => aI hp v10 l1 (fun v11 => rV hp l0 12 (bN (R 268 [.ref l0, .int (7 : Int32), .int v11] hp) (fun  hp12 => some (none, hp12)))))))))
theorem t_328_28 {X : mjX} {d C S kc ks : Nat} {R : mjR} (hR : mjC R d) (h1 : kc ≤ C) (h2 : ks ≤ S) : P_328_28 X (d + 1) C S kc ks (b_328_28 R) := by
  intro l0 l1 s0 hp q h
  unfold b_328_28 at h
  refine mjq_istore_n (lo' := [some (.ref l0), some (.int l1), some (.int s0), none, none]) D_328_28 (Nat.le_of_ble_eq_true rfl) rfl ?_
  refine mjr_aload_n (x := l0) D_328_29 rfl ?_
  refine mjq_gR D_328_30 fr_12_191 h (fun v1 h => ?_)
  refine mjr_aload_n (x := l0) D_328_33 rfl ?_
  refine mjq_gI D_328_34 fr_12_567 h (fun v2 h => ?_)
  refine mjq_aI D_328_37 h (fun v3 h => ?_)
  refine mjq_if_ge (tgt := 54) D_328_38 rfl h (fun h => ?_) (fun h => ?_)
  · refine mjr_aload_n (x := l0) D_328_54 rfl ?_
    refine mjr_aload_n (x := l0) D_328_55 rfl ?_
    refine mjq_gI D_328_56 fr_12_567 h (fun v4 h => ?_)
    refine mjq_vN (As := [.int v4]) (rest := []) D_328_59 mr_12_576 V_329 rfl rfl rfl hR (Nat.le_refl _) h1 h2 h (fun  hp5 h => ?_)
    refine mjr_aload_n (x := l0) D_328_62 rfl ?_
    refine mjr_aload_n (x := l0) D_328_63 rfl ?_
    refine mjq_gR D_328_64 fr_12_160 h (fun v6 h => ?_)
    refine mjr_iload_n (x := l1) D_328_67 rfl ?_
    refine mjq_aL D_328_68 h (fun v7 h => ?_)
    refine mjr_aload_n (x := l0) D_328_69 rfl ?_
    refine mjq_gR D_328_70 fr_12_148 h (fun v8 h => ?_)
    refine mjr_iload_n (x := l1) D_328_73 rfl ?_
    refine mjq_aI D_328_74 h (fun v9 h => ?_)
    refine mjq_bi (v := (11 : Int32)) D_328_75 rfl ?_
    refine mjq_icmp_ne (tgt := 84) D_328_77 rfl h (fun h => ?_) (fun h => ?_)
    · refine mjq_ic (v := (0 : Int32)) D_328_84 rfl ?_
      exact (t_328_85 hR h1 h2) _ _ _ _ _ _ _ _ h
    · refine mjq_ic (v := (1 : Int32)) D_328_80 rfl ?_
      refine mjr_goto (tgt := 85) D_328_81 rfl ?_
      exact (t_328_85 hR h1 h2) _ _ _ _ _ _ _ _ h
  · refine mjr_aload_n (x := l0) D_328_41 rfl ?_
    refine mjq_bi (v := (7 : Int32)) D_328_42 rfl ?_
    refine mjr_aload_n (x := l0) D_328_44 rfl ?_
    refine mjq_gR D_328_45 fr_12_151 h (fun v10 h => ?_)
    refine mjr_iload_n (x := l1) D_328_48 rfl ?_
    refine mjq_aI D_328_49 h (fun v11 h => ?_)
    refine mjq_vN (As := [.int (7 : Int32), .int v11]) (rest := []) D_328_50 mr_12_339 V_268 rfl rfl rfl hR (Nat.le_refl _) h1 h2 h (fun  hp12 h => ?_)
    exact mjq_nret D_328_53 rfl h1 h2 h
noncomputable def b_328_0 (R : mjR) (l0 : Nat) (l1 : Int32) (hp : mjH) : mjU := gI hp l0 12 82 (fun v1 => pI hp l0 12 82 (v1 - (1 : Int32)) (fun hp2 => gR hp2 l0 12 80 (fun v3 => gI hp2 l0 12 82 (fun v4 => aI hp2 v3 v4 (fun v5 => (if v5 = (1 : Int32) then b_328_28 R l0 l1 (1 : Int32) hp2 else b_328_28 R l0 l1 (0 : Int32) hp2))))))
theorem t_328_0 {X : mjX} {d C S kc ks : Nat} {R : mjR} (hR : mjC R d) (h1 : kc ≤ C) (h2 : ks ≤ S) : P_328_0 X (d + 1) C S kc ks (b_328_0 R) := by
  intro l0 l1 hp q h
  unfold b_328_0 at h
  refine mjr_aload_n (x := l0) D_328_0 rfl ?_
  refine mjr_dup D_328_1 rfl ?_
  refine mjq_gI D_328_2 fr_12_567 h (fun v1 h => ?_)
  refine mjq_ic (v := (1 : Int32)) D_328_5 rfl ?_
  refine mjr_isub D_328_6 ?_
  refine mjq_pI D_328_7 fr_12_567 rfl rfl h (fun hp2 h => ?_)
  refine mjr_aload_n (x := l0) D_328_10 rfl ?_
  refine mjq_gR D_328_11 fr_12_194 h (fun v3 h => ?_)
  refine mjr_aload_n (x := l0) D_328_14 rfl ?_
  refine mjq_gI D_328_15 fr_12_567 h (fun v4 h => ?_)
  refine mjq_aI D_328_18 h (fun v5 h => ?_)
  refine mjq_ic (v := (1 : Int32)) D_328_19 rfl ?_
  refine mjq_icmp_ne (tgt := 27) D_328_20 rfl h (fun h => ?_) (fun h => ?_)
  · refine mjq_ic (v := (0 : Int32)) D_328_27 rfl ?_
    exact (t_328_28 hR h1 h2) _ _ _ _ _ h
  · refine mjq_ic (v := (1 : Int32)) D_328_23 rfl ?_
    refine mjr_goto (tgt := 28) D_328_24 rfl ?_
    exact (t_328_28 hR h1 h2) _ _ _ _ _ h
noncomputable def f_328 (R : mjR) (a0 : Nat) (a1 : Int32) (hp : mjH) : mjU := b_328_0 R a0 a1 hp
theorem c_328 {R : mjR} {d : Nat} (hR : mjC R d) {a0 : Nat} {a1 : Int32} {hp : mjH} {q : Option Value × mjH} (h : f_328 R a0 a1 hp = some q) : mjM (d + 1) 0 0 328 [.ref a0, .int a1] hp (mjEq q) :=
  mjM_of Ja_328 (Nat.le_of_ble_eq_true rfl) (mjG.fg (lo' := [some (.ref a0), some (.int a1), none, none, none]) (And.intro rfl (And.intro rfl True.intro)) ((t_328_0 hR (Nat.le_refl 0) (Nat.le_refl 0)) a0 a1 hp q h))
def J_329 : mjI := (⟨"OwnerHeapModel", "load", "(I)V"⟩, 12, prog_14_method_70_code, 3, none, 1, false)
theorem Ja_329 : mjMt 329 = some J_329 := by rfl
theorem D_329_0 : decode J_329.2.2.1 0 = .ok (.aload_n 0, 1) := dzq_42 (by decide +kernel)
theorem D_329_1 : decode J_329.2.2.1 1 = .ok (.aload_n 0, 1) := dzq_42 (by decide +kernel)
theorem D_329_2 : decode J_329.2.2.1 2 = .ok (.getfield 191, 3) := dzq_180 (by decide +kernel)
theorem D_329_5 : decode J_329.2.2.1 5 = .ok (.iload_n 1, 1) := dzq_27 (by decide +kernel)
theorem D_329_6 : decode J_329.2.2.1 6 = .ok (.iaload, 1) := dzq_46 (by decide +kernel)
theorem D_329_7 : decode J_329.2.2.1 7 = .ok (.putfield 544, 3) := dzq_181 (by decide +kernel)
theorem D_329_10 : decode J_329.2.2.1 10 = .ok (.iconst 0, 1) := dzq_3 (by decide +kernel)
theorem D_329_11 : decode J_329.2.2.1 11 = .ok (.istore_n 2, 1) := dzq_61 (by decide +kernel)
theorem D_329_12 : decode J_329.2.2.1 12 = .ok (.iload_n 2, 1) := dzq_28 (by decide +kernel)
theorem D_329_13 : decode J_329.2.2.1 13 = .ok (.iconst 5, 1) := dzq_8 (by decide +kernel)
theorem D_329_14 : decode J_329.2.2.1 14 = .ok (.if_icmp .ge 25, 3) := dzq_162 (by decide +kernel)
theorem D_329_17 : decode J_329.2.2.1 17 = .ok (.aload_n 0, 1) := dzq_42 (by decide +kernel)
theorem D_329_18 : decode J_329.2.2.1 18 = .ok (.getfield 221, 3) := dzq_180 (by decide +kernel)
theorem D_329_21 : decode J_329.2.2.1 21 = .ok (.iload_n 2, 1) := dzq_28 (by decide +kernel)
theorem D_329_22 : decode J_329.2.2.1 22 = .ok (.aload_n 0, 1) := dzq_42 (by decide +kernel)
theorem D_329_23 : decode J_329.2.2.1 23 = .ok (.getfield 197, 3) := dzq_180 (by decide +kernel)
theorem D_329_26 : decode J_329.2.2.1 26 = .ok (.iconst 5, 1) := dzq_8 (by decide +kernel)
theorem D_329_27 : decode J_329.2.2.1 27 = .ok (.iload_n 1, 1) := dzq_27 (by decide +kernel)
theorem D_329_28 : decode J_329.2.2.1 28 = .ok (.imul, 1) := dzq_104 (by decide +kernel)
theorem D_329_29 : decode J_329.2.2.1 29 = .ok (.iload_n 2, 1) := dzq_28 (by decide +kernel)
theorem D_329_30 : decode J_329.2.2.1 30 = .ok (.iadd, 1) := dzq_96 (by decide +kernel)
theorem D_329_31 : decode J_329.2.2.1 31 = .ok (.iaload, 1) := dzq_46 (by decide +kernel)
theorem D_329_32 : decode J_329.2.2.1 32 = .ok (.iastore, 1) := dzq_79 (by decide +kernel)
theorem D_329_33 : decode J_329.2.2.1 33 = .ok (.iinc 2 1, 3) := dzq_132 (by decide +kernel)
theorem D_329_36 : decode J_329.2.2.1 36 = .ok (.goto (-24), 3) := dzq_167 (by decide +kernel)
theorem D_329_39 : decode J_329.2.2.1 39 = .ok (.return_, 1) := dzq_177 (by decide +kernel)
def P_329_12 (X : mjX) (d C S kc ks : Nat) (k : Nat → Int32 → Int32 → mjH → mjU) : Prop := ∀ (l0 : Nat) (l1 : Int32) (l2 : Int32) (hp : mjH) (q : Option Value × mjH), k l0 l1 l2 hp = some q → mjG X d C S J_329 (mjEq q) 12 [some (.ref l0), some (.int l1), some (.int l2)] [] hp kc ks
def P_329_0 (X : mjX) (d C S kc ks : Nat) (k : Nat → Int32 → mjH → mjU) : Prop := ∀ (l0 : Nat) (l1 : Int32) (hp : mjH) (q : Option Value × mjH), k l0 l1 hp = some q → mjG X d C S J_329 (mjEq q) 0 [some (.ref l0), some (.int l1), none] [] hp kc ks
noncomputable def b_329_12 (R : mjR) (k12 : Nat → Int32 → Int32 → mjH → mjU) (l0 : Nat) (l1 : Int32) (l2 : Int32) (hp : mjH) : mjU := (if (5 : Int32) ≤ l2 then some (none, hp) else gR hp l0 12 93 (fun v1 => gR hp l0 12 81 (fun v2 => aI hp v2 (((5 : Int32) * l1) + l2) (fun v3 => sI hp v1 l2 v3 (fun hp4 => k12 l0 l1 (l2 + (1 : Int32)) hp4)))))
theorem t_329_12 {X : mjX} {d C S kc ks : Nat} {R : mjR} (hR : mjC R d) (h1 : kc ≤ C) (h2 : ks ≤ S) {k12 : Nat → Int32 → Int32 → mjH → mjU} (hk12 : P_329_12 X (d + 1) C S kc ks k12) : P_329_12 X (d + 1) C S kc ks (b_329_12 R k12) := by
  intro l0 l1 l2 hp q h
  unfold b_329_12 at h
  refine mjr_iload_n (x := l2) D_329_12 rfl ?_
  refine mjq_ic (v := (5 : Int32)) D_329_13 rfl ?_
  refine mjq_icmp_ge (tgt := 39) D_329_14 rfl h (fun h => ?_) (fun h => ?_)
  · exact mjq_nret D_329_39 rfl h1 h2 h
  · refine mjr_aload_n (x := l0) D_329_17 rfl ?_
    refine mjq_gR D_329_18 fr_12_221 h (fun v1 h => ?_)
    refine mjr_iload_n (x := l2) D_329_21 rfl ?_
    refine mjr_aload_n (x := l0) D_329_22 rfl ?_
    refine mjq_gR D_329_23 fr_12_197 h (fun v2 h => ?_)
    refine mjq_ic (v := (5 : Int32)) D_329_26 rfl ?_
    refine mjr_iload_n (x := l1) D_329_27 rfl ?_
    refine mjr_imul D_329_28 ?_
    refine mjr_iload_n (x := l2) D_329_29 rfl ?_
    refine mjr_iadd D_329_30 ?_
    refine mjq_aI D_329_31 h (fun v3 h => ?_)
    refine mjq_sI D_329_32 h (fun hp4 h => ?_)
    refine mjq_iinc (x := l2) (c := (1 : Int32)) (lo' := [some (.ref l0), some (.int l1), some (.int (l2 + (1 : Int32)))]) D_329_33 rfl (Nat.le_of_ble_eq_true rfl) rfl rfl ?_
    refine mjr_goto (tgt := 12) D_329_36 rfl ?_
    exact hk12 _ _ _ _ _ h
noncomputable def L_329_12 (R : mjR) (n : Nat) : Nat → Int32 → Int32 → mjH → mjU := Nat.rec (motive := fun _ => Nat → Int32 → Int32 → mjH → mjU) (fun _ _ _ _ => none) (fun _ self => b_329_12 R self) n
theorem T_329_12 {X : mjX} {d C S kc ks : Nat} {R : mjR} (hR : mjC R d) (h1 : kc ≤ C) (h2 : ks ≤ S) (n : Nat) : P_329_12 X (d + 1) C S kc ks (L_329_12 R n) := by
  induction n with
  | zero => intro _ _ _ _ _ h; exact mj_no h
  | succ n ih => exact t_329_12 hR h1 h2 ih
noncomputable def b_329_0 (R : mjR) (l0 : Nat) (l1 : Int32) (hp : mjH) : mjU := gR hp l0 12 79 (fun v1 => aI hp v1 l1 (fun v2 => pI hp l0 12 95 v2 (fun hp3 => L_329_12 R mjN l0 l1 (0 : Int32) hp3)))
theorem t_329_0 {X : mjX} {d C S kc ks : Nat} {R : mjR} (hR : mjC R d) (h1 : kc ≤ C) (h2 : ks ≤ S) : P_329_0 X (d + 1) C S kc ks (b_329_0 R) := by
  intro l0 l1 hp q h
  unfold b_329_0 at h
  refine mjr_aload_n (x := l0) D_329_0 rfl ?_
  refine mjr_aload_n (x := l0) D_329_1 rfl ?_
  refine mjq_gR D_329_2 fr_12_191 h (fun v1 h => ?_)
  refine mjr_iload_n (x := l1) D_329_5 rfl ?_
  refine mjq_aI D_329_6 h (fun v2 h => ?_)
  refine mjq_pI D_329_7 fr_12_544 rfl rfl h (fun hp3 h => ?_)
  refine mjq_ic (v := (0 : Int32)) D_329_10 rfl ?_
  refine mjq_istore_n (lo' := [some (.ref l0), some (.int l1), some (.int (0 : Int32))]) D_329_11 (Nat.le_of_ble_eq_true rfl) rfl ?_
  exact (T_329_12 hR h1 h2 mjN) _ _ _ _ _ h
noncomputable def f_329 (R : mjR) (a0 : Nat) (a1 : Int32) (hp : mjH) : mjU := b_329_0 R a0 a1 hp
theorem c_329 {R : mjR} {d : Nat} (hR : mjC R d) {a0 : Nat} {a1 : Int32} {hp : mjH} {q : Option Value × mjH} (h : f_329 R a0 a1 hp = some q) : mjM (d + 1) 0 0 329 [.ref a0, .int a1] hp (mjEq q) :=
  mjM_of Ja_329 (Nat.le_of_ble_eq_true rfl) (mjG.fg (lo' := [some (.ref a0), some (.int a1), none]) (And.intro rfl (And.intro rfl True.intro)) ((t_329_0 hR (Nat.le_refl 0) (Nat.le_refl 0)) a0 a1 hp q h))
def J_330 : mjI := (⟨"OwnerHeapModel", "isHidden", "(I)Z"⟩, 12, prog_14_method_77_code, 4, (some .boolean), 1, false)
theorem Ja_330 : mjMt 330 = some J_330 := by rfl
theorem D_330_0 : decode J_330.2.2.1 0 = .ok (.aload_n 0, 1) := dzq_42 (by decide +kernel)
theorem D_330_1 : decode J_330.2.2.1 1 = .ok (.aload_n 0, 1) := dzq_42 (by decide +kernel)
theorem D_330_2 : decode J_330.2.2.1 2 = .ok (.getfield 97, 3) := dzq_180 (by decide +kernel)
theorem D_330_5 : decode J_330.2.2.1 5 = .ok (.iload_n 1, 1) := dzq_27 (by decide +kernel)
theorem D_330_6 : decode J_330.2.2.1 6 = .ok (.iaload, 1) := dzq_46 (by decide +kernel)
theorem D_330_7 : decode J_330.2.2.1 7 = .ok (.invokevirtual 615, 3) := dzq_182 (by decide +kernel)
theorem D_330_10 : decode J_330.2.2.1 10 = .ok (.istore_n 2, 1) := dzq_61 (by decide +kernel)
theorem D_330_11 : decode J_330.2.2.1 11 = .ok (.iconst 0, 1) := dzq_3 (by decide +kernel)
theorem D_330_12 : decode J_330.2.2.1 12 = .ok (.istore_n 3, 1) := dzq_62 (by decide +kernel)
theorem D_330_13 : decode J_330.2.2.1 13 = .ok (.iload_n 3, 1) := dzq_29 (by decide +kernel)
theorem D_330_14 : decode J_330.2.2.1 14 = .ok (.aload_n 0, 1) := dzq_42 (by decide +kernel)
theorem D_330_15 : decode J_330.2.2.1 15 = .ok (.getfield 103, 3) := dzq_180 (by decide +kernel)
theorem D_330_18 : decode J_330.2.2.1 18 = .ok (.iload_n 1, 1) := dzq_27 (by decide +kernel)
theorem D_330_19 : decode J_330.2.2.1 19 = .ok (.iaload, 1) := dzq_46 (by decide +kernel)
theorem D_330_20 : decode J_330.2.2.1 20 = .ok (.if_icmp .ge 37, 3) := dzq_162 (by decide +kernel)
theorem D_330_23 : decode J_330.2.2.1 23 = .ok (.iload_n 2, 1) := dzq_28 (by decide +kernel)
theorem D_330_24 : decode J_330.2.2.1 24 = .ok (.ifCond .ne 21, 3) := dzq_154 (by decide +kernel)
theorem D_330_27 : decode J_330.2.2.1 27 = .ok (.aload_n 0, 1) := dzq_42 (by decide +kernel)
theorem D_330_28 : decode J_330.2.2.1 28 = .ok (.aload_n 0, 1) := dzq_42 (by decide +kernel)
theorem D_330_29 : decode J_330.2.2.1 29 = .ok (.getfield 118, 3) := dzq_180 (by decide +kernel)
theorem D_330_32 : decode J_330.2.2.1 32 = .ok (.bipush 6, 2) := dzq_16 (by decide +kernel)
theorem D_330_34 : decode J_330.2.2.1 34 = .ok (.iload_n 1, 1) := dzq_27 (by decide +kernel)
theorem D_330_35 : decode J_330.2.2.1 35 = .ok (.imul, 1) := dzq_104 (by decide +kernel)
theorem D_330_36 : decode J_330.2.2.1 36 = .ok (.iload_n 3, 1) := dzq_29 (by decide +kernel)
theorem D_330_37 : decode J_330.2.2.1 37 = .ok (.iadd, 1) := dzq_96 (by decide +kernel)
theorem D_330_38 : decode J_330.2.2.1 38 = .ok (.iaload, 1) := dzq_46 (by decide +kernel)
theorem D_330_39 : decode J_330.2.2.1 39 = .ok (.invokevirtual 615, 3) := dzq_182 (by decide +kernel)
theorem D_330_42 : decode J_330.2.2.1 42 = .ok (.ifCond .eq 7, 3) := dzq_153 (by decide +kernel)
theorem D_330_45 : decode J_330.2.2.1 45 = .ok (.iconst 1, 1) := dzq_4 (by decide +kernel)
theorem D_330_46 : decode J_330.2.2.1 46 = .ok (.goto 4, 3) := dzq_167 (by decide +kernel)
theorem D_330_49 : decode J_330.2.2.1 49 = .ok (.iconst 0, 1) := dzq_3 (by decide +kernel)
theorem D_330_50 : decode J_330.2.2.1 50 = .ok (.istore_n 2, 1) := dzq_61 (by decide +kernel)
theorem D_330_51 : decode J_330.2.2.1 51 = .ok (.iinc 3 1, 3) := dzq_132 (by decide +kernel)
theorem D_330_54 : decode J_330.2.2.1 54 = .ok (.goto (-41), 3) := dzq_167 (by decide +kernel)
theorem D_330_57 : decode J_330.2.2.1 57 = .ok (.iload_n 2, 1) := dzq_28 (by decide +kernel)
theorem D_330_58 : decode J_330.2.2.1 58 = .ok (.ireturn, 1) := dzq_172 (by decide +kernel)
def P_330_50 (X : mjX) (d C S kc ks : Nat) (k : Nat → Int32 → Int32 → Int32 → mjH → mjU) : Prop := ∀ (l0 : Nat) (l1 : Int32) (l3 : Int32) (s0 : Int32) (hp : mjH) (q : Option Value × mjH), k l0 l1 l3 s0 hp = some q → mjG X d C S J_330 (mjEq q) 50 [some (.ref l0), some (.int l1), none, some (.int l3)] [.int s0] hp kc ks
def P_330_45 (X : mjX) (d C S kc ks : Nat) (k : Nat → Int32 → Int32 → mjH → mjU) : Prop := ∀ (l0 : Nat) (l1 : Int32) (l3 : Int32) (hp : mjH) (q : Option Value × mjH), k l0 l1 l3 hp = some q → mjG X d C S J_330 (mjEq q) 45 [some (.ref l0), some (.int l1), none, some (.int l3)] [] hp kc ks
def P_330_13 (X : mjX) (d C S kc ks : Nat) (k : Nat → Int32 → Int32 → Int32 → mjH → mjU) : Prop := ∀ (l0 : Nat) (l1 : Int32) (l2 : Int32) (l3 : Int32) (hp : mjH) (q : Option Value × mjH), k l0 l1 l2 l3 hp = some q → mjG X d C S J_330 (mjEq q) 13 [some (.ref l0), some (.int l1), some (.int l2), some (.int l3)] [] hp kc ks
def P_330_0 (X : mjX) (d C S kc ks : Nat) (k : Nat → Int32 → mjH → mjU) : Prop := ∀ (l0 : Nat) (l1 : Int32) (hp : mjH) (q : Option Value × mjH), k l0 l1 hp = some q → mjG X d C S J_330 (mjEq q) 0 [some (.ref l0), some (.int l1), none, none] [] hp kc ks
noncomputable def b_330_50 (R : mjR) (k13 : Nat → Int32 → Int32 → Int32 → mjH → mjU) (l0 : Nat) (l1 : Int32) (l3 : Int32) (s0 : Int32) (hp : mjH) : mjU := k13 l0 l1 s0 (l3 + (1 : Int32)) hp
theorem t_330_50 {X : mjX} {d C S kc ks : Nat} {R : mjR} (hR : mjC R d) (h1 : kc ≤ C) (h2 : ks ≤ S) {k13 : Nat → Int32 → Int32 → Int32 → mjH → mjU} (hk13 : P_330_13 X (d + 1) C S kc ks k13) : P_330_50 X (d + 1) C S kc ks (b_330_50 R k13) := by
  intro l0 l1 l3 s0 hp q h
  unfold b_330_50 at h
  refine mjq_istore_n (lo' := [some (.ref l0), some (.int l1), some (.int s0), some (.int l3)]) D_330_50 (Nat.le_of_ble_eq_true rfl) rfl ?_
  refine mjq_iinc (x := l3) (c := (1 : Int32)) (lo' := [some (.ref l0), some (.int l1), some (.int s0), some (.int (l3 + (1 : Int32)))]) D_330_51 rfl (Nat.le_of_ble_eq_true rfl) rfl rfl ?_
  refine mjr_goto (tgt := 13) D_330_54 rfl ?_
  exact hk13 _ _ _ _ _ _ h
noncomputable def b_330_45 (R : mjR) (k13 : Nat → Int32 → Int32 → Int32 → mjH → mjU) (l0 : Nat) (l1 : Int32) (l3 : Int32) (hp : mjH) : mjU := b_330_50 R k13 l0 l1 l3 (1 : Int32) hp
theorem t_330_45 {X : mjX} {d C S kc ks : Nat} {R : mjR} (hR : mjC R d) (h1 : kc ≤ C) (h2 : ks ≤ S) {k13 : Nat → Int32 → Int32 → Int32 → mjH → mjU} (hk13 : P_330_13 X (d + 1) C S kc ks k13) : P_330_45 X (d + 1) C S kc ks (b_330_45 R k13) := by
  intro l0 l1 l3 hp q h
  unfold b_330_45 at h
  refine mjq_ic (v := (1 : Int32)) D_330_45 rfl ?_
  refine mjr_goto (tgt := 50) D_330_46 rfl ?_
  exact (t_330_50 hR h1 h2 hk13) _ _ _ _ _ _ h
noncomputable def b_330_13 (R : mjR) (k13 : Nat → Int32 → Int32 → Int32 → mjH → mjU) (l0 : Nat) (l1 : Int32) (l2 : Int32) (l3 : Int32) (hp : mjH) : mjU := gR hp l0 12 39 (fun v1 => aI hp v1 l1 (fun v2 => (if v2 ≤ l3 then (if narrow .boolean (.int l2) = .int l2 then some (some (.int l2), hp) else none) else (if l2 = 0 then gR hp l0 12 44 (fun v3 => aI hp v3 (((6 : Int32) * l1) + l3) (fun v4 => rV hp l0 12 (bI (R 331 [.ref l0, .int v4] hp) (fun v5 hp6 => (if v5 = 0 then b_330_50 R k13 l0 l1 l3 (0 : Int32) hp6 else b_330_45 R k13 l0 l1 l3 hp6))))) else b_330_45 R k13 l0 l1 l3 hp))))
theorem t_330_13 {X : mjX} {d C S kc ks : Nat} {R : mjR} (hR : mjC R d) (h1 : kc ≤ C) (h2 : ks ≤ S) {k13 : Nat → Int32 → Int32 → Int32 → mjH → mjU} (hk13 : P_330_13 X (d + 1) C S kc ks k13) : P_330_13 X (d + 1) C S kc ks (b_330_13 R k13) := by
  intro l0 l1 l2 l3 hp q h
  unfold b_330_13 at h
  refine mjr_iload_n (x := l3) D_330_13 rfl ?_
  refine mjr_aload_n (x := l0) D_330_14 rfl ?_
  refine mjq_gR D_330_15 fr_12_103 h (fun v1 h => ?_)
  refine mjr_iload_n (x := l1) D_330_18 rfl ?_
  refine mjq_aI D_330_19 h (fun v2 h => ?_)
  refine mjq_icmp_ge (tgt := 57) D_330_20 rfl h (fun h => ?_) (fun h => ?_)
  · refine mjr_iload_n (x := l2) D_330_57 rfl ?_
    exact mjq_retZ (ty := .boolean) D_330_58 rfl h1 h2 h
  · refine mjr_iload_n (x := l2) D_330_23 rfl ?_
    refine mjq_if_ne (tgt := 45) D_330_24 rfl h (fun h => ?_) (fun h => ?_)
    · exact mjG.fg (lo' := [some (.ref l0), some (.int l1), none, some (.int l3)]) (And.intro rfl (And.intro rfl (And.intro rfl True.intro))) ((t_330_45 hR h1 h2 hk13) _ _ _ _ _ h)
    · refine mjr_aload_n (x := l0) D_330_27 rfl ?_
      refine mjr_aload_n (x := l0) D_330_28 rfl ?_
      refine mjq_gR D_330_29 fr_12_118 h (fun v3 h => ?_)
      refine mjq_bi (v := (6 : Int32)) D_330_32 rfl ?_
      refine mjr_iload_n (x := l1) D_330_34 rfl ?_
      refine mjr_imul D_330_35 ?_
      refine mjr_iload_n (x := l3) D_330_36 rfl ?_
      refine mjr_iadd D_330_37 ?_
      refine mjq_aI D_330_38 h (fun v4 h => ?_)
      refine mjq_vI (As := [.int v4]) (rest := []) D_330_39 mr_12_615 V_331 rfl rfl rfl hR (Nat.le_refl _) h1 h2 h (fun v5 hp6 h => ?_)
      refine mjq_if_eq (tgt := 49) D_330_42 rfl h (fun h => ?_) (fun h => ?_)
      · refine mjq_ic (v := (0 : Int32)) D_330_49 rfl ?_
        exact mjG.fg (lo' := [some (.ref l0), some (.int l1), none, some (.int l3)]) (And.intro rfl (And.intro rfl (And.intro rfl True.intro))) ((t_330_50 hR h1 h2 hk13) _ _ _ _ _ _ h)
      · exact mjG.fg (lo' := [some (.ref l0), some (.int l1), none, some (.int l3)]) (And.intro rfl (And.intro rfl (And.intro rfl True.intro))) ((t_330_45 hR h1 h2 hk13) _ _ _ _ _ h)
noncomputable def L_330_13 (R : mjR) (n : Nat) : Nat → Int32 → Int32 → Int32 → mjH → mjU := Nat.rec (motive := fun _ => Nat → Int32 → Int32 → Int32 → mjH → mjU) (fun _ _ _ _ _ => none) (fun _ self => b_330_13 R self) n
theorem T_330_13 {X : mjX} {d C S kc ks : Nat} {R : mjR} (hR : mjC R d) (h1 : kc ≤ C) (h2 : ks ≤ S) (n : Nat) : P_330_13 X (d + 1) C S kc ks (L_330_13 R n) := by
  induction n with
  | zero => intro _ _ _ _ _ _ h; exact mj_no h
  | succ n ih => exact t_330_13 hR h1 h2 ih
noncomputable def b_330_0 (R : mjR) (l0 : Nat) (l1 : Int32) (hp : mjH) : mjU := gR hp l0 12 37 (fun v1 => aI hp v1 l1 (fun v2 => rV hp l0 12 (bI (R 331 [.ref l0, .int v2] hp) (fun v3 hp4 => L_330_13 R mjN l0 l1 v3 (0 : Int32) hp4))))
theorem t_330_0 {X : mjX} {d C S kc ks : Nat} {R : mjR} (hR : mjC R d) (h1 : kc ≤ C) (h2 : ks ≤ S) : P_330_0 X (d + 1) C S kc ks (b_330_0 R) := by
  intro l0 l1 hp q h
  unfold b_330_0 at h
  refine mjr_aload_n (x := l0) D_330_0 rfl ?_
  refine mjr_aload_n (x := l0) D_330_1 rfl ?_
  refine mjq_gR D_330_2 fr_12_97 h (fun v1 h => ?_)
  refine mjr_iload_n (x := l1) D_330_5 rfl ?_
  refine mjq_aI D_330_6 h (fun v2 h => ?_)
  refine mjq_vI (As := [.int v2]) (rest := []) D_330_7 mr_12_615 V_331 rfl rfl rfl hR (Nat.le_refl _) h1 h2 h (fun v3 hp4 h => ?_)
  refine mjq_istore_n (lo' := [some (.ref l0), some (.int l1), some (.int v3), none]) D_330_10 (Nat.le_of_ble_eq_true rfl) rfl ?_
  refine mjq_ic (v := (0 : Int32)) D_330_11 rfl ?_
  refine mjq_istore_n (lo' := [some (.ref l0), some (.int l1), some (.int v3), some (.int (0 : Int32))]) D_330_12 (Nat.le_of_ble_eq_true rfl) rfl ?_
  exact (T_330_13 hR h1 h2 mjN) _ _ _ _ _ _ h
noncomputable def f_330 (R : mjR) (a0 : Nat) (a1 : Int32) (hp : mjH) : mjU := b_330_0 R a0 a1 hp
theorem c_330 {R : mjR} {d : Nat} (hR : mjC R d) {a0 : Nat} {a1 : Int32} {hp : mjH} {q : Option Value × mjH} (h : f_330 R a0 a1 hp = some q) : mjM (d + 1) 0 0 330 [.ref a0, .int a1] hp (mjEq q) :=
  mjM_of Ja_330 (Nat.le_of_ble_eq_true rfl) (mjG.fg (lo' := [some (.ref a0), some (.int a1), none, none]) (And.intro rfl (And.intro rfl True.intro)) ((t_330_0 hR (Nat.le_refl 0) (Nat.le_refl 0)) a0 a1 hp q h))
def J_331 : mjI := (⟨"OwnerHeapModel", "hasThis", "(I)Z"⟩, 12, prog_14_method_76_code, 4, (some .boolean), 1, false)
theorem Ja_331 : mjMt 331 = some J_331 := by rfl
theorem D_331_0 : decode J_331.2.2.1 0 = .ok (.iconst 0, 1) := dzq_3 (by decide +kernel)
theorem D_331_1 : decode J_331.2.2.1 1 = .ok (.istore_n 2, 1) := dzq_61 (by decide +kernel)
theorem D_331_2 : decode J_331.2.2.1 2 = .ok (.iconst 0, 1) := dzq_3 (by decide +kernel)
theorem D_331_3 : decode J_331.2.2.1 3 = .ok (.istore_n 3, 1) := dzq_62 (by decide +kernel)
theorem D_331_4 : decode J_331.2.2.1 4 = .ok (.iload_n 1, 1) := dzq_27 (by decide +kernel)
theorem D_331_5 : decode J_331.2.2.1 5 = .ok (.ifCond .lt 46, 3) := dzq_155 (by decide +kernel)
theorem D_331_8 : decode J_331.2.2.1 8 = .ok (.iload_n 3, 1) := dzq_29 (by decide +kernel)
theorem D_331_9 : decode J_331.2.2.1 9 = .ok (.aload_n 0, 1) := dzq_42 (by decide +kernel)
theorem D_331_10 : decode J_331.2.2.1 10 = .ok (.getfield 133, 3) := dzq_180 (by decide +kernel)
theorem D_331_13 : decode J_331.2.2.1 13 = .ok (.iload_n 1, 1) := dzq_27 (by decide +kernel)
theorem D_331_14 : decode J_331.2.2.1 14 = .ok (.iaload, 1) := dzq_46 (by decide +kernel)
theorem D_331_15 : decode J_331.2.2.1 15 = .ok (.if_icmp .ge 36, 3) := dzq_162 (by decide +kernel)
theorem D_331_18 : decode J_331.2.2.1 18 = .ok (.iload_n 2, 1) := dzq_28 (by decide +kernel)
theorem D_331_19 : decode J_331.2.2.1 19 = .ok (.ifCond .ne 20, 3) := dzq_154 (by decide +kernel)
theorem D_331_22 : decode J_331.2.2.1 22 = .ok (.aload_n 0, 1) := dzq_42 (by decide +kernel)
theorem D_331_23 : decode J_331.2.2.1 23 = .ok (.getfield 139, 3) := dzq_180 (by decide +kernel)
theorem D_331_26 : decode J_331.2.2.1 26 = .ok (.iconst 5, 1) := dzq_8 (by decide +kernel)
theorem D_331_27 : decode J_331.2.2.1 27 = .ok (.iload_n 1, 1) := dzq_27 (by decide +kernel)
theorem D_331_28 : decode J_331.2.2.1 28 = .ok (.imul, 1) := dzq_104 (by decide +kernel)
theorem D_331_29 : decode J_331.2.2.1 29 = .ok (.iload_n 3, 1) := dzq_29 (by decide +kernel)
theorem D_331_30 : decode J_331.2.2.1 30 = .ok (.iadd, 1) := dzq_96 (by decide +kernel)
theorem D_331_31 : decode J_331.2.2.1 31 = .ok (.laload, 1) := dzq_47 (by decide +kernel)
theorem D_331_32 : decode J_331.2.2.1 32 = .ok (.ldc2_w 400, 3) := by decide +kernel
theorem D_331_35 : decode J_331.2.2.1 35 = .ok (.lcmp, 1) := by decide +kernel
theorem D_331_36 : decode J_331.2.2.1 36 = .ok (.ifCond .ne 7, 3) := dzq_154 (by decide +kernel)
theorem D_331_39 : decode J_331.2.2.1 39 = .ok (.iconst 1, 1) := dzq_4 (by decide +kernel)
theorem D_331_40 : decode J_331.2.2.1 40 = .ok (.goto 4, 3) := dzq_167 (by decide +kernel)
theorem D_331_43 : decode J_331.2.2.1 43 = .ok (.iconst 0, 1) := dzq_3 (by decide +kernel)
theorem D_331_44 : decode J_331.2.2.1 44 = .ok (.istore_n 2, 1) := dzq_61 (by decide +kernel)
theorem D_331_45 : decode J_331.2.2.1 45 = .ok (.iinc 3 1, 3) := dzq_132 (by decide +kernel)
theorem D_331_48 : decode J_331.2.2.1 48 = .ok (.goto (-44), 3) := dzq_167 (by decide +kernel)
theorem D_331_51 : decode J_331.2.2.1 51 = .ok (.iload_n 2, 1) := dzq_28 (by decide +kernel)
theorem D_331_52 : decode J_331.2.2.1 52 = .ok (.ireturn, 1) := dzq_172 (by decide +kernel)
def P_331_51 (X : mjX) (d C S kc ks : Nat) (k : Int32 → mjH → mjU) : Prop := ∀ (l2 : Int32) (hp : mjH) (q : Option Value × mjH), k l2 hp = some q → mjG X d C S J_331 (mjEq q) 51 [none, none, some (.int l2), none] [] hp kc ks
def P_331_44 (X : mjX) (d C S kc ks : Nat) (k : Nat → Int32 → Int32 → Int32 → mjH → mjU) : Prop := ∀ (l0 : Nat) (l1 : Int32) (l3 : Int32) (s0 : Int32) (hp : mjH) (q : Option Value × mjH), k l0 l1 l3 s0 hp = some q → mjG X d C S J_331 (mjEq q) 44 [some (.ref l0), some (.int l1), none, some (.int l3)] [.int s0] hp kc ks
def P_331_39 (X : mjX) (d C S kc ks : Nat) (k : Nat → Int32 → Int32 → mjH → mjU) : Prop := ∀ (l0 : Nat) (l1 : Int32) (l3 : Int32) (hp : mjH) (q : Option Value × mjH), k l0 l1 l3 hp = some q → mjG X d C S J_331 (mjEq q) 39 [some (.ref l0), some (.int l1), none, some (.int l3)] [] hp kc ks
def P_331_4 (X : mjX) (d C S kc ks : Nat) (k : Nat → Int32 → Int32 → Int32 → mjH → mjU) : Prop := ∀ (l0 : Nat) (l1 : Int32) (l2 : Int32) (l3 : Int32) (hp : mjH) (q : Option Value × mjH), k l0 l1 l2 l3 hp = some q → mjG X d C S J_331 (mjEq q) 4 [some (.ref l0), some (.int l1), some (.int l2), some (.int l3)] [] hp kc ks
def P_331_0 (X : mjX) (d C S kc ks : Nat) (k : Nat → Int32 → mjH → mjU) : Prop := ∀ (l0 : Nat) (l1 : Int32) (hp : mjH) (q : Option Value × mjH), k l0 l1 hp = some q → mjG X d C S J_331 (mjEq q) 0 [some (.ref l0), some (.int l1), none, none] [] hp kc ks
noncomputable def b_331_51 (R : mjR) (l2 : Int32) (hp : mjH) : mjU := (if narrow .boolean (.int l2) = .int l2 then some (some (.int l2), hp) else none)
theorem t_331_51 {X : mjX} {d C S kc ks : Nat} {R : mjR} (hR : mjC R d) (h1 : kc ≤ C) (h2 : ks ≤ S) : P_331_51 X (d + 1) C S kc ks (b_331_51 R) := by
  intro l2 hp q h
  unfold b_331_51 at h
  refine mjr_iload_n (x := l2) D_331_51 rfl ?_
  exact mjq_retZ (ty := .boolean) D_331_52 rfl h1 h2 h
noncomputable def b_331_44 (R : mjR) (k4 : Nat → Int32 → Int32 → Int32 → mjH → mjU) (l0 : Nat) (l1 : Int32) (l3 : Int32) (s0 : Int32) (hp : mjH) : mjU := k4 l0 l1 s0 (l3 + (1 : Int32)) hp
theorem t_331_44 {X : mjX} {d C S kc ks : Nat} {R : mjR} (hR : mjC R d) (h1 : kc ≤ C) (h2 : ks ≤ S) {k4 : Nat → Int32 → Int32 → Int32 → mjH → mjU} (hk4 : P_331_4 X (d + 1) C S kc ks k4) : P_331_44 X (d + 1) C S kc ks (b_331_44 R k4) := by
  intro l0 l1 l3 s0 hp q h
  unfold b_331_44 at h
  refine mjq_istore_n (lo' := [some (.ref l0), some (.int l1), some (.int s0), some (.int l3)]) D_331_44 (Nat.le_of_ble_eq_true rfl) rfl ?_
  refine mjq_iinc (x := l3) (c := (1 : Int32)) (lo' := [some (.ref l0), some (.int l1), some (.int s0), some (.int (l3 + (1 : Int32)))]) D_331_45 rfl (Nat.le_of_ble_eq_true rfl) rfl rfl ?_
  refine mjr_goto (tgt := 4) D_331_48 rfl ?_
  exact hk4 _ _ _ _ _ _ h
noncomputable def b_331_39 (R : mjR) (k4 : Nat → Int32 → Int32 → Int32 → mjH → mjU) (l0 : Nat) (l1 : Int32) (l3 : Int32) (hp : mjH) : mjU := b_331_44 R k4 l0 l1 l3 (1 : Int32) hp
theorem t_331_39 {X : mjX} {d C S kc ks : Nat} {R : mjR} (hR : mjC R d) (h1 : kc ≤ C) (h2 : ks ≤ S) {k4 : Nat → Int32 → Int32 → Int32 → mjH → mjU} (hk4 : P_331_4 X (d + 1) C S kc ks k4) : P_331_39 X (d + 1) C S kc ks (b_331_39 R k4) := by
  intro l0 l1 l3 hp q h
  unfold b_331_39 at h
  refine mjq_ic (v := (1 : Int32)) D_331_39 rfl ?_
  refine mjr_goto (tgt := 44) D_331_40 rfl ?_
  exact (t_331_44 hR h1 h2 hk4) _ _ _ _ _ _ h
noncomputable def b_331_4 (R : mjR) (k4 : Nat → Int32 → Int32 → Int32 → mjH → mjU) (l0 : Nat) (l1 : Int32) (l2 : Int32) (l3 : Int32) (hp : mjH) : mjU := (if l1 < 0 then b_331_51 R l2 hp else gR hp l0 12 49 (fun v1 => aI hp v1 l1 (fun v2 => (if v2 ≤ l3 then b_331_51 R l2 hp else (if l2 = 0 then gR hp l0 12 51 (fun v3 => aL hp v3 (((5 : Int32) * l1) + l3) (fun v4 => (if (lg_cmp v4 (-2 : Int64)) = 0 then b_331_39 R k4 l0 l1 l3 hp else b_331_44 R k4 l0 l1 l3 (0 : Int32) hp))) else b_331_39 R k4 l0 l1 l3 hp)))))
theorem t_331_4 {X : mjX} {d C S kc ks : Nat} {R : mjR} (hR : mjC R d) (h1 : kc ≤ C) (h2 : ks ≤ S) {k4 : Nat → Int32 → Int32 → Int32 → mjH → mjU} (hk4 : P_331_4 X (d + 1) C S kc ks k4) : P_331_4 X (d + 1) C S kc ks (b_331_4 R k4) := by
  intro l0 l1 l2 l3 hp q h
  unfold b_331_4 at h
  refine mjr_iload_n (x := l1) D_331_4 rfl ?_
  refine mjq_if_lt (tgt := 51) D_331_5 rfl h (fun h => ?_) (fun h => ?_)
  · exact mjG.fg (lo' := [none, none, some (.int l2), none]) (And.intro rfl True.intro) ((t_331_51 hR h1 h2) _ _ _ h)
  · refine mjr_iload_n (x := l3) D_331_8 rfl ?_
    refine mjr_aload_n (x := l0) D_331_9 rfl ?_
    refine mjq_gR D_331_10 fr_12_133 h (fun v1 h => ?_)
    refine mjr_iload_n (x := l1) D_331_13 rfl ?_
    refine mjq_aI D_331_14 h (fun v2 h => ?_)
    refine mjq_icmp_ge (tgt := 51) D_331_15 rfl h (fun h => ?_) (fun h => ?_)
    · exact mjG.fg (lo' := [none, none, some (.int l2), none]) (And.intro rfl True.intro) ((t_331_51 hR h1 h2) _ _ _ h)
    · refine mjr_iload_n (x := l2) D_331_18 rfl ?_
      refine mjq_if_ne (tgt := 39) D_331_19 rfl h (fun h => ?_) (fun h => ?_)
      · exact mjG.fg (lo' := [some (.ref l0), some (.int l1), none, some (.int l3)]) (And.intro rfl (And.intro rfl (And.intro rfl True.intro))) ((t_331_39 hR h1 h2 hk4) _ _ _ _ _ h)
      · refine mjr_aload_n (x := l0) D_331_22 rfl ?_
        refine mjq_gR D_331_23 fr_12_139 h (fun v3 h => ?_)
        refine mjq_ic (v := (5 : Int32)) D_331_26 rfl ?_
        refine mjr_iload_n (x := l1) D_331_27 rfl ?_
        refine mjr_imul D_331_28 ?_
        refine mjr_iload_n (x := l3) D_331_29 rfl ?_
        refine mjr_iadd D_331_30 ?_
        refine mjq_aL D_331_31 h (fun v4 h => ?_)
        refine mjr_ldc2 (v := (-2 : Int64)) D_331_32 (by decide +kernel) ?_
        refine mjr_lcmp D_331_35 ?_
        refine mjq_if_ne (tgt := 43) D_331_36 rfl h (fun h => ?_) (fun h => ?_)
        · refine mjq_ic (v := (0 : Int32)) D_331_43 rfl ?_
          exact mjG.fg (lo' := [some (.ref l0), some (.int l1), none, some (.int l3)]) (And.intro rfl (And.intro rfl (And.intro rfl True.intro))) ((t_331_44 hR h1 h2 hk4) _ _ _ _ _ _ h)
        · exact mjG.fg (lo' := [some (.ref l0), some (.int l1), none, some (.int l3)]) (And.intro rfl (And.intro rfl (And.intro rfl True.intro))) ((t_331_39 hR h1 h2 hk4) _ _ _ _ _ h)
noncomputable def L_331_4 (R : mjR) (n : Nat) : Nat → Int32 → Int32 → Int32 → mjH → mjU := Nat.rec (motive := fun _ => Nat → Int32 → Int32 → Int32 → mjH → mjU) (fun _ _ _ _ _ => none) (fun _ self => b_331_4 R self) n
theorem T_331_4 {X : mjX} {d C S kc ks : Nat} {R : mjR} (hR : mjC R d) (h1 : kc ≤ C) (h2 : ks ≤ S) (n : Nat) : P_331_4 X (d + 1) C S kc ks (L_331_4 R n) := by
  induction n with
  | zero => intro _ _ _ _ _ _ h; exact mj_no h
  | succ n ih => exact t_331_4 hR h1 h2 ih
noncomputable def b_331_0 (R : mjR) (l0 : Nat) (l1 : Int32) (hp : mjH) : mjU := L_331_4 R mjN l0 l1 (0 : Int32) (0 : Int32) hp
theorem t_331_0 {X : mjX} {d C S kc ks : Nat} {R : mjR} (hR : mjC R d) (h1 : kc ≤ C) (h2 : ks ≤ S) : P_331_0 X (d + 1) C S kc ks (b_331_0 R) := by
  intro l0 l1 hp q h
  unfold b_331_0 at h
  refine mjq_ic (v := (0 : Int32)) D_331_0 rfl ?_
  refine mjq_istore_n (lo' := [some (.ref l0), some (.int l1), some (.int (0 : Int32)), none]) D_331_1 (Nat.le_of_ble_eq_true rfl) rfl ?_
  refine mjq_ic (v := (0 : Int32)) D_331_2 rfl ?_
  refine mjq_istore_n (lo' := [some (.ref l0), some (.int l1), some (.int (0 : Int32)), some (.int (0 : Int32))]) D_331_3 (Nat.le_of_ble_eq_true rfl) rfl ?_
  exact (T_331_4 hR h1 h2 mjN) _ _ _ _ _ _ h
noncomputable def f_331 (R : mjR) (a0 : Nat) (a1 : Int32) (hp : mjH) : mjU := b_331_0 R a0 a1 hp
theorem c_331 {R : mjR} {d : Nat} (hR : mjC R d) {a0 : Nat} {a1 : Int32} {hp : mjH} {q : Option Value × mjH} (h : f_331 R a0 a1 hp = some q) : mjM (d + 1) 0 0 331 [.ref a0, .int a1] hp (mjEq q) :=
  mjM_of Ja_331 (Nat.le_of_ble_eq_true rfl) (mjG.fg (lo' := [some (.ref a0), some (.int a1), none, none]) (And.intro rfl (And.intro rfl True.intro)) ((t_331_0 hR (Nat.le_refl 0) (Nat.le_refl 0)) a0 a1 hp q h))
def J_332 : mjI := (⟨"OwnerHeapModel", "typeUnder", "(I)V"⟩, 12, prog_14_method_69_code, 3, none, 1, false)
theorem Ja_332 : mjMt 332 = some J_332 := by rfl
theorem D_332_0 : decode J_332.2.2.1 0 = .ok (.aload_n 0, 1) := dzq_42 (by decide +kernel)
theorem D_332_1 : decode J_332.2.2.1 1 = .ok (.iload_n 1, 1) := dzq_27 (by decide +kernel)
theorem D_332_2 : decode J_332.2.2.1 2 = .ok (.invokevirtual 573, 3) := dzq_182 (by decide +kernel)
theorem D_332_5 : decode J_332.2.2.1 5 = .ok (.iconst 0, 1) := dzq_3 (by decide +kernel)
theorem D_332_6 : decode J_332.2.2.1 6 = .ok (.istore_n 2, 1) := dzq_61 (by decide +kernel)
theorem D_332_7 : decode J_332.2.2.1 7 = .ok (.iload_n 1, 1) := dzq_27 (by decide +kernel)
theorem D_332_8 : decode J_332.2.2.1 8 = .ok (.ifCond .lt 48, 3) := dzq_155 (by decide +kernel)
theorem D_332_11 : decode J_332.2.2.1 11 = .ok (.iload_n 2, 1) := dzq_28 (by decide +kernel)
theorem D_332_12 : decode J_332.2.2.1 12 = .ok (.aload_n 0, 1) := dzq_42 (by decide +kernel)
theorem D_332_13 : decode J_332.2.2.1 13 = .ok (.getfield 133, 3) := dzq_180 (by decide +kernel)
theorem D_332_16 : decode J_332.2.2.1 16 = .ok (.iload_n 1, 1) := dzq_27 (by decide +kernel)
theorem D_332_17 : decode J_332.2.2.1 17 = .ok (.iaload, 1) := dzq_46 (by decide +kernel)
theorem D_332_18 : decode J_332.2.2.1 18 = .ok (.if_icmp .ge 38, 3) := dzq_162 (by decide +kernel)
theorem D_332_21 : decode J_332.2.2.1 21 = .ok (.aload_n 0, 1) := dzq_42 (by decide +kernel)
theorem D_332_22 : decode J_332.2.2.1 22 = .ok (.getfield 197, 3) := dzq_180 (by decide +kernel)
theorem D_332_25 : decode J_332.2.2.1 25 = .ok (.iconst 5, 1) := dzq_8 (by decide +kernel)
theorem D_332_26 : decode J_332.2.2.1 26 = .ok (.aload_n 0, 1) := dzq_42 (by decide +kernel)
theorem D_332_27 : decode J_332.2.2.1 27 = .ok (.getfield 567, 3) := dzq_180 (by decide +kernel)
theorem D_332_30 : decode J_332.2.2.1 30 = .ok (.imul, 1) := dzq_104 (by decide +kernel)
theorem D_332_31 : decode J_332.2.2.1 31 = .ok (.iconst 5, 1) := dzq_8 (by decide +kernel)
theorem D_332_32 : decode J_332.2.2.1 32 = .ok (.isub, 1) := dzq_100 (by decide +kernel)
theorem D_332_33 : decode J_332.2.2.1 33 = .ok (.iload_n 2, 1) := dzq_28 (by decide +kernel)
theorem D_332_34 : decode J_332.2.2.1 34 = .ok (.iadd, 1) := dzq_96 (by decide +kernel)
theorem D_332_35 : decode J_332.2.2.1 35 = .ok (.aload_n 0, 1) := dzq_42 (by decide +kernel)
theorem D_332_36 : decode J_332.2.2.1 36 = .ok (.aload_n 0, 1) := dzq_42 (by decide +kernel)
theorem D_332_37 : decode J_332.2.2.1 37 = .ok (.getfield 145, 3) := dzq_180 (by decide +kernel)
theorem D_332_40 : decode J_332.2.2.1 40 = .ok (.iconst 5, 1) := dzq_8 (by decide +kernel)
theorem D_332_41 : decode J_332.2.2.1 41 = .ok (.iload_n 1, 1) := dzq_27 (by decide +kernel)
theorem D_332_42 : decode J_332.2.2.1 42 = .ok (.imul, 1) := dzq_104 (by decide +kernel)
theorem D_332_43 : decode J_332.2.2.1 43 = .ok (.iload_n 2, 1) := dzq_28 (by decide +kernel)
theorem D_332_44 : decode J_332.2.2.1 44 = .ok (.iadd, 1) := dzq_96 (by decide +kernel)
theorem D_332_45 : decode J_332.2.2.1 45 = .ok (.iaload, 1) := dzq_46 (by decide +kernel)
theorem D_332_46 : decode J_332.2.2.1 46 = .ok (.invokevirtual 547, 3) := dzq_182 (by decide +kernel)
theorem D_332_49 : decode J_332.2.2.1 49 = .ok (.iastore, 1) := dzq_79 (by decide +kernel)
theorem D_332_50 : decode J_332.2.2.1 50 = .ok (.iinc 2 1, 3) := dzq_132 (by decide +kernel)
theorem D_332_53 : decode J_332.2.2.1 53 = .ok (.goto (-46), 3) := dzq_167 (by decide +kernel)
theorem D_332_56 : decode J_332.2.2.1 56 = .ok (.return_, 1) := dzq_177 (by decide +kernel)
def P_332_7 (X : mjX) (d C S kc ks : Nat) (k : Nat → Int32 → Int32 → mjH → mjU) : Prop := ∀ (l0 : Nat) (l1 : Int32) (l2 : Int32) (hp : mjH) (q : Option Value × mjH), k l0 l1 l2 hp = some q → mjG X d C S J_332 (mjEq q) 7 [some (.ref l0), some (.int l1), some (.int l2)] [] hp kc ks
def P_332_0 (X : mjX) (d C S kc ks : Nat) (k : Nat → Int32 → mjH → mjU) : Prop := ∀ (l0 : Nat) (l1 : Int32) (hp : mjH) (q : Option Value × mjH), k l0 l1 hp = some q → mjG X d C S J_332 (mjEq q) 0 [some (.ref l0), some (.int l1), none] [] hp kc ks
noncomputable def b_332_7 (R : mjR) (k7 : Nat → Int32 → Int32 → mjH → mjU) (l0 : Nat) (l1 : Int32) (l2 : Int32) (hp : mjH) : mjU := (if l1 < 0 then some (none, hp) else gR hp l0 12 49 (fun v1 => aI hp v1 l1 (fun v2 => (if v2 ≤ l2 then some (none, hp) else gR hp l0 12 81 (fun v3 => gI hp l0 12 82 (fun v4 => gR hp l0 12 53 (fun v5 => aI hp v5 (((5 : Int32) * l1) + l2) (fun v6 => rV hp l0 12 (bI (R 318 [.ref l0, .int v6] hp) (fun v7 hp8 => sI hp8 v3 ((((5 : Int32) * v4) - (5 : Int32)) + l2) v7 (fun hp9 => k7 l0 l1 (l2 + (1 : Int32)) hp9)))))))))))
theorem t_332_7 {X : mjX} {d C S kc ks : Nat} {R : mjR} (hR : mjC R d) (h1 : kc ≤ C) (h2 : ks ≤ S) {k7 : Nat → Int32 → Int32 → mjH → mjU} (hk7 : P_332_7 X (d + 1) C S kc ks k7) : P_332_7 X (d + 1) C S kc ks (b_332_7 R k7) := by
  intro l0 l1 l2 hp q h
  unfold b_332_7 at h
  refine mjr_iload_n (x := l1) D_332_7 rfl ?_
  refine mjq_if_lt (tgt := 56) D_332_8 rfl h (fun h => ?_) (fun h => ?_)
  · exact mjq_nret D_332_56 rfl h1 h2 h
  · refine mjr_iload_n (x := l2) D_332_11 rfl ?_
    refine mjr_aload_n (x := l0) D_332_12 rfl ?_
    refine mjq_gR D_332_13 fr_12_133 h (fun v1 h => ?_)
    refine mjr_iload_n (x := l1) D_332_16 rfl ?_
    refine mjq_aI D_332_17 h (fun v2 h => ?_)
    refine mjq_icmp_ge (tgt := 56) D_332_18 rfl h (fun h => ?_) (fun h => ?_)
    · exact mjq_nret D_332_56 rfl h1 h2 h
    · refine mjr_aload_n (x := l0) D_332_21 rfl ?_
      refine mjq_gR D_332_22 fr_12_197 h (fun v3 h => ?_)
      refine mjq_ic (v := (5 : Int32)) D_332_25 rfl ?_
      refine mjr_aload_n (x := l0) D_332_26 rfl ?_
      refine mjq_gI D_332_27 fr_12_567 h (fun v4 h => ?_)
      refine mjr_imul D_332_30 ?_
      refine mjq_ic (v := (5 : Int32)) D_332_31 rfl ?_
      refine mjr_isub D_332_32 ?_
      refine mjr_iload_n (x := l2) D_332_33 rfl ?_
      refine mjr_iadd D_332_34 ?_
      refine mjr_aload_n (x := l0) D_332_35 rfl ?_
      refine mjr_aload_n (x := l0) D_332_36 rfl ?_
      refine mjq_gR D_332_37 fr_12_145 h (fun v5 h => ?_)
      refine mjq_ic (v := (5 : Int32)) D_332_40 rfl ?_
      refine mjr_iload_n (x := l1) D_332_41 rfl ?_
      refine mjr_imul D_332_42 ?_
      refine mjr_iload_n (x := l2) D_332_43 rfl ?_
      refine mjr_iadd D_332_44 ?_
      refine mjq_aI D_332_45 h (fun v6 h => ?_)
      refine mjq_vI (As := [.int v6]) (rest := [.int ((((5 : Int32) * v4) - (5 : Int32)) + l2), .ref v3]) D_332_46 mr_12_547 V_318 rfl rfl rfl hR (Nat.le_refl _) h1 h2 h (fun v7 hp8 h => ?_)
      refine mjq_sI D_332_49 h (fun hp9 h => ?_)
      refine mjq_iinc (x := l2) (c := (1 : Int32)) (lo' := [some (.ref l0), some (.int l1), some (.int (l2 + (1 : Int32)))]) D_332_50 rfl (Nat.le_of_ble_eq_true rfl) rfl rfl ?_
      refine mjr_goto (tgt := 7) D_332_53 rfl ?_
      exact hk7 _ _ _ _ _ h
noncomputable def L_332_7 (R : mjR) (n : Nat) : Nat → Int32 → Int32 → mjH → mjU := Nat.rec (motive := fun _ => Nat → Int32 → Int32 → mjH → mjU) (fun _ _ _ _ => none) (fun _ self => b_332_7 R self) n
theorem T_332_7 {X : mjX} {d C S kc ks : Nat} {R : mjR} (hR : mjC R d) (h1 : kc ≤ C) (h2 : ks ≤ S) (n : Nat) : P_332_7 X (d + 1) C S kc ks (L_332_7 R n) := by
  induction n with
  | zero => intro _ _ _ _ _ h; exact mj_no h
  | succ n ih => exact t_332_7 hR h1 h2 ih
noncomputable def b_332_0 (R : mjR) (l0 : Nat) (l1 : Int32) (hp : mjH) : mjU := rV hp l0 12 (bN (R 326 [.ref l0, .int l1] hp) (fun  hp1 => L_332_7 R mjN l0 l1 (0 : Int32) hp1))
theorem t_332_0 {X : mjX} {d C S kc ks : Nat} {R : mjR} (hR : mjC R d) (h1 : kc ≤ C) (h2 : ks ≤ S) : P_332_0 X (d + 1) C S kc ks (b_332_0 R) := by
  intro l0 l1 hp q h
  unfold b_332_0 at h
  refine mjr_aload_n (x := l0) D_332_0 rfl ?_
  refine mjr_iload_n (x := l1) D_332_1 rfl ?_
  refine mjq_vN (As := [.int l1]) (rest := []) D_332_2 mr_12_573 V_326 rfl rfl rfl hR (Nat.le_refl _) h1 h2 h (fun  hp1 h => ?_)
  refine mjq_ic (v := (0 : Int32)) D_332_5 rfl ?_
  refine mjq_istore_n (lo' := [some (.ref l0), some (.int l1), some (.int (0 : Int32))]) D_332_6 (Nat.le_of_ble_eq_true rfl) rfl ?_
  exact (T_332_7 hR h1 h2 mjN) _ _ _ _ _ h
noncomputable def f_332 (R : mjR) (a0 : Nat) (a1 : Int32) (hp : mjH) : mjU := b_332_0 R a0 a1 hp
theorem c_332 {R : mjR} {d : Nat} (hR : mjC R d) {a0 : Nat} {a1 : Int32} {hp : mjH} {q : Option Value × mjH} (h : f_332 R a0 a1 hp = some q) : mjM (d + 1) 0 0 332 [.ref a0, .int a1] hp (mjEq q) :=
  mjM_of Ja_332 (Nat.le_of_ble_eq_true rfl) (mjG.fg (lo' := [some (.ref a0), some (.int a1), none]) (And.intro rfl (And.intro rfl True.intro)) ((t_332_0 hR (Nat.le_refl 0) (Nat.le_refl 0)) a0 a1 hp q h))
def J_333 : mjI := (⟨"OwnerHeapModel", "judgeArgument", "(I)V"⟩, 12, prog_14_method_79_code, 4, none, 1, false)
theorem Ja_333 : mjMt 333 = some J_333 := by rfl
theorem D_333_0 : decode J_333.2.2.1 0 = .ok (.aload_n 0, 1) := dzq_42 (by decide +kernel)
theorem D_333_1 : decode J_333.2.2.1 1 = .ok (.getfield 212, 3) := dzq_180 (by decide +kernel)
theorem D_333_4 : decode J_333.2.2.1 4 = .ok (.aload_n 0, 1) := dzq_42 (by decide +kernel)
theorem D_333_5 : decode J_333.2.2.1 5 = .ok (.getfield 591, 3) := dzq_180 (by decide +kernel)
theorem D_333_8 : decode J_333.2.2.1 8 = .ok (.iconst 1, 1) := dzq_4 (by decide +kernel)
theorem D_333_9 : decode J_333.2.2.1 9 = .ok (.isub, 1) := dzq_100 (by decide +kernel)
theorem D_333_10 : decode J_333.2.2.1 10 = .ok (.iaload, 1) := dzq_46 (by decide +kernel)
theorem D_333_11 : decode J_333.2.2.1 11 = .ok (.istore_n 2, 1) := dzq_61 (by decide +kernel)
theorem D_333_12 : decode J_333.2.2.1 12 = .ok (.iconst 0, 1) := dzq_3 (by decide +kernel)
theorem D_333_13 : decode J_333.2.2.1 13 = .ok (.istore_n 3, 1) := dzq_62 (by decide +kernel)
theorem D_333_14 : decode J_333.2.2.1 14 = .ok (.iload_n 3, 1) := dzq_29 (by decide +kernel)
theorem D_333_15 : decode J_333.2.2.1 15 = .ok (.iconst 5, 1) := dzq_8 (by decide +kernel)
theorem D_333_16 : decode J_333.2.2.1 16 = .ok (.if_icmp .ge 30, 3) := dzq_162 (by decide +kernel)
theorem D_333_19 : decode J_333.2.2.1 19 = .ok (.aload_n 0, 1) := dzq_42 (by decide +kernel)
theorem D_333_20 : decode J_333.2.2.1 20 = .ok (.getfield 221, 3) := dzq_180 (by decide +kernel)
theorem D_333_23 : decode J_333.2.2.1 23 = .ok (.iload_n 3, 1) := dzq_29 (by decide +kernel)
theorem D_333_24 : decode J_333.2.2.1 24 = .ok (.aload_n 0, 1) := dzq_42 (by decide +kernel)
theorem D_333_25 : decode J_333.2.2.1 25 = .ok (.getfield 215, 3) := dzq_180 (by decide +kernel)
theorem D_333_28 : decode J_333.2.2.1 28 = .ok (.iconst 5, 1) := dzq_8 (by decide +kernel)
theorem D_333_29 : decode J_333.2.2.1 29 = .ok (.aload_n 0, 1) := dzq_42 (by decide +kernel)
theorem D_333_30 : decode J_333.2.2.1 30 = .ok (.getfield 591, 3) := dzq_180 (by decide +kernel)
theorem D_333_33 : decode J_333.2.2.1 33 = .ok (.iconst 1, 1) := dzq_4 (by decide +kernel)
theorem D_333_34 : decode J_333.2.2.1 34 = .ok (.isub, 1) := dzq_100 (by decide +kernel)
theorem D_333_35 : decode J_333.2.2.1 35 = .ok (.imul, 1) := dzq_104 (by decide +kernel)
theorem D_333_36 : decode J_333.2.2.1 36 = .ok (.iload_n 3, 1) := dzq_29 (by decide +kernel)
theorem D_333_37 : decode J_333.2.2.1 37 = .ok (.iadd, 1) := dzq_96 (by decide +kernel)
theorem D_333_38 : decode J_333.2.2.1 38 = .ok (.iaload, 1) := dzq_46 (by decide +kernel)
theorem D_333_39 : decode J_333.2.2.1 39 = .ok (.iastore, 1) := dzq_79 (by decide +kernel)
theorem D_333_40 : decode J_333.2.2.1 40 = .ok (.iinc 3 1, 3) := dzq_132 (by decide +kernel)
theorem D_333_43 : decode J_333.2.2.1 43 = .ok (.goto (-29), 3) := dzq_167 (by decide +kernel)
theorem D_333_46 : decode J_333.2.2.1 46 = .ok (.aload_n 0, 1) := dzq_42 (by decide +kernel)
theorem D_333_47 : decode J_333.2.2.1 47 = .ok (.aload_n 0, 1) := dzq_42 (by decide +kernel)
theorem D_333_48 : decode J_333.2.2.1 48 = .ok (.getfield 118, 3) := dzq_180 (by decide +kernel)
theorem D_333_51 : decode J_333.2.2.1 51 = .ok (.bipush 6, 2) := dzq_16 (by decide +kernel)
theorem D_333_53 : decode J_333.2.2.1 53 = .ok (.iload_n 2, 1) := dzq_28 (by decide +kernel)
theorem D_333_54 : decode J_333.2.2.1 54 = .ok (.imul, 1) := dzq_104 (by decide +kernel)
theorem D_333_55 : decode J_333.2.2.1 55 = .ok (.aload_n 0, 1) := dzq_42 (by decide +kernel)
theorem D_333_56 : decode J_333.2.2.1 56 = .ok (.getfield 154, 3) := dzq_180 (by decide +kernel)
theorem D_333_59 : decode J_333.2.2.1 59 = .ok (.iload_n 1, 1) := dzq_27 (by decide +kernel)
theorem D_333_60 : decode J_333.2.2.1 60 = .ok (.iaload, 1) := dzq_46 (by decide +kernel)
theorem D_333_61 : decode J_333.2.2.1 61 = .ok (.iadd, 1) := dzq_96 (by decide +kernel)
theorem D_333_62 : decode J_333.2.2.1 62 = .ok (.iaload, 1) := dzq_46 (by decide +kernel)
theorem D_333_63 : decode J_333.2.2.1 63 = .ok (.invokevirtual 609, 3) := dzq_182 (by decide +kernel)
theorem D_333_66 : decode J_333.2.2.1 66 = .ok (.aload_n 0, 1) := dzq_42 (by decide +kernel)
theorem D_333_67 : decode J_333.2.2.1 67 = .ok (.aload_n 0, 1) := dzq_42 (by decide +kernel)
theorem D_333_68 : decode J_333.2.2.1 68 = .ok (.getfield 567, 3) := dzq_180 (by decide +kernel)
theorem D_333_71 : decode J_333.2.2.1 71 = .ok (.iconst 2, 1) := dzq_5 (by decide +kernel)
theorem D_333_72 : decode J_333.2.2.1 72 = .ok (.isub, 1) := dzq_100 (by decide +kernel)
theorem D_333_73 : decode J_333.2.2.1 73 = .ok (.aload_n 0, 1) := dzq_42 (by decide +kernel)
theorem D_333_74 : decode J_333.2.2.1 74 = .ok (.getfield 567, 3) := dzq_180 (by decide +kernel)
theorem D_333_77 : decode J_333.2.2.1 77 = .ok (.iconst 1, 1) := dzq_4 (by decide +kernel)
theorem D_333_78 : decode J_333.2.2.1 78 = .ok (.isub, 1) := dzq_100 (by decide +kernel)
theorem D_333_79 : decode J_333.2.2.1 79 = .ok (.invokevirtual 621, 3) := dzq_182 (by decide +kernel)
theorem D_333_82 : decode J_333.2.2.1 82 = .ok (.ifCond .ne 15, 3) := dzq_154 (by decide +kernel)
theorem D_333_85 : decode J_333.2.2.1 85 = .ok (.aload_n 0, 1) := dzq_42 (by decide +kernel)
theorem D_333_86 : decode J_333.2.2.1 86 = .ok (.bipush 7, 2) := dzq_16 (by decide +kernel)
theorem D_333_88 : decode J_333.2.2.1 88 = .ok (.aload_n 0, 1) := dzq_42 (by decide +kernel)
theorem D_333_89 : decode J_333.2.2.1 89 = .ok (.getfield 151, 3) := dzq_180 (by decide +kernel)
theorem D_333_92 : decode J_333.2.2.1 92 = .ok (.iload_n 1, 1) := dzq_27 (by decide +kernel)
theorem D_333_93 : decode J_333.2.2.1 93 = .ok (.iaload, 1) := dzq_46 (by decide +kernel)
theorem D_333_94 : decode J_333.2.2.1 94 = .ok (.invokevirtual 339, 3) := dzq_182 (by decide +kernel)
theorem D_333_97 : decode J_333.2.2.1 97 = .ok (.aload_n 0, 1) := dzq_42 (by decide +kernel)
theorem D_333_98 : decode J_333.2.2.1 98 = .ok (.dup, 1) := dzq_89 (by decide +kernel)
theorem D_333_99 : decode J_333.2.2.1 99 = .ok (.getfield 567, 3) := dzq_180 (by decide +kernel)
theorem D_333_102 : decode J_333.2.2.1 102 = .ok (.iconst 2, 1) := dzq_5 (by decide +kernel)
theorem D_333_103 : decode J_333.2.2.1 103 = .ok (.isub, 1) := dzq_100 (by decide +kernel)
theorem D_333_104 : decode J_333.2.2.1 104 = .ok (.putfield 567, 3) := dzq_181 (by decide +kernel)
theorem D_333_107 : decode J_333.2.2.1 107 = .ok (.return_, 1) := dzq_177 (by decide +kernel)
def P_333_97 (X : mjX) (d C S kc ks : Nat) (k : Nat → mjH → mjU) : Prop := ∀ (l0 : Nat) (hp : mjH) (q : Option Value × mjH), k l0 hp = some q → mjG X d C S J_333 (mjEq q) 97 [some (.ref l0), none, none, none] [] hp kc ks
def P_333_14 (X : mjX) (d C S kc ks : Nat) (k : Nat → Int32 → Int32 → Int32 → mjH → mjU) : Prop := ∀ (l0 : Nat) (l1 : Int32) (l2 : Int32) (l3 : Int32) (hp : mjH) (q : Option Value × mjH), k l0 l1 l2 l3 hp = some q → mjG X d C S J_333 (mjEq q) 14 [some (.ref l0), some (.int l1), some (.int l2), some (.int l3)] [] hp kc ks
def P_333_0 (X : mjX) (d C S kc ks : Nat) (k : Nat → Int32 → mjH → mjU) : Prop := ∀ (l0 : Nat) (l1 : Int32) (hp : mjH) (q : Option Value × mjH), k l0 l1 hp = some q → mjG X d C S J_333 (mjEq q) 0 [some (.ref l0), some (.int l1), none, none] [] hp kc ks
noncomputable def b_333_97 (R : mjR) (l0 : Nat) (hp : mjH) : mjU := gI hp l0 12 82 (fun v1 => pI hp l0 12 82 (v1 - (2 : Int32)) (fun hp2 => some (none, hp2)))
theorem t_333_97 {X : mjX} {d C S kc ks : Nat} {R : mjR} (hR : mjC R d) (h1 : kc ≤ C) (h2 : ks ≤ S) : P_333_97 X (d + 1) C S kc ks (b_333_97 R) := by
  intro l0 hp q h
  unfold b_333_97 at h
  refine mjr_aload_n (x := l0) D_333_97 rfl ?_
  refine mjr_dup D_333_98 rfl ?_
  refine mjq_gI D_333_99 fr_12_567 h (fun v1 h => ?_)
  refine mjq_ic (v := (2 : Int32)) D_333_102 rfl ?_
  refine mjr_isub D_333_103 ?_
  refine mjq_pI D_333_104 fr_12_567 rfl rfl h (fun hp2 h => ?_)
  exact mjq_nret D_333_107 rfl h1 h2 h
noncomputable def b_333_14 (R : mjR) (k14 : Nat → Int32 → Int32 → Int32 → mjH → mjU) (l0 : Nat) (l1 : Int32) (l2 : Int32) (l3 : Int32) (hp : mjH) : mjU := (if (5 : Int32) ≤ l3 then gR hp l0 12 44 (fun v1 => gR hp l0 12 56 (fun v2 => aI hp v2 l1 (fun v3 => aI hp v1 (((6 : Int32) * l2) + v3) (fun v4 => rV hp l0 12 (bN (R 332 [.ref l0, .int v4] hp) (fun  hp5 => gI hp5 l0 12 82 (fun v6 => gI hp5 l0 12 82 (fun v7 => rV hp5 l0 12 (bI (R 334 [.ref l0, .int (v6 - (2 : Int32)), .int (v7 - (1 : Int32))] hp5) (fun v8 hp9 => (if v8 = 0 then gR hp9 l0 12 55 (fun v10 => aI hp9 v10 l1 (fun v11 => rV hp9 l0 12 (bN (R 268 [.ref l0, .int (7 : Int32), .int v11] hp9) (fun  hp12 => b_333_97 R l0 hp12)))) else b_333_97 R l0 hp9))))))))))) else gR hp l0 12 93 (fun v13 => gR hp l0 12 90 (fun v14 => gI hp l0 12 92 (fun v15 => aI hp v14 (((5 : Int32) * (v15 - (1 : Int32))) + l3) (fun v16 => sI hp v13 l3 v16 (fun hp17 => k14 l0 l1 l2 (l3 + (1 : Int32)) hp17))))))
theorem t_333_14 {X : mjX} {d C S kc ks : Nat} {R : mjR} (hR : mjC R d) (h1 : kc ≤ C) (h2 : ks ≤ S) {k14 : Nat → Int32 → Int32 → Int32 → mjH → mjU} (hk14 : P_333_14 X (d + 1) C S kc ks k14) : P_333_14 X (d + 1) C S kc ks (b_333_14 R k14) := by
  intro l0 l1 l2 l3 hp q h
  unfold b_333_14 at h
  refine mjr_iload_n (x := l3) D_333_14 rfl ?_
  refine mjq_ic (v := (5 : Int32)) D_333_15 rfl ?_
  refine mjq_icmp_ge (tgt := 46) D_333_16 rfl h (fun h => ?_) (fun h => ?_)
  · refine mjr_aload_n (x := l0) D_333_46 rfl ?_
    refine mjr_aload_n (x := l0) D_333_47 rfl ?_
    refine mjq_gR D_333_48 fr_12_118 h (fun v1 h => ?_)
    refine mjq_bi (v := (6 : Int32)) D_333_51 rfl ?_
    refine mjr_iload_n (x := l2) D_333_53 rfl ?_
    refine mjr_imul D_333_54 ?_
    refine mjr_aload_n (x := l0) D_333_55 rfl ?_
    refine mjq_gR D_333_56 fr_12_154 h (fun v2 h => ?_)
    refine mjr_iload_n (x := l1) D_333_59 rfl ?_
    refine mjq_aI D_333_60 h (fun v3 h => ?_)
    refine mjr_iadd D_333_61 ?_
    refine mjq_aI D_333_62 h (fun v4 h => ?_)
    refine mjq_vN (As := [.int v4]) (rest := []) D_333_63 mr_12_609 V_332 rfl rfl rfl hR (Nat.le_refl _) h1 h2 h (fun  hp5 h => ?_)
    refine mjr_aload_n (x := l0) D_333_66 rfl ?_
    refine mjr_aload_n (x := l0) D_333_67 rfl ?_
    refine mjq_gI D_333_68 fr_12_567 h (fun v6 h => ?_)
    refine mjq_ic (v := (2 : Int32)) D_333_71 rfl ?_
    refine mjr_isub D_333_72 ?_
    refine mjr_aload_n (x := l0) D_333_73 rfl ?_
    refine mjq_gI D_333_74 fr_12_567 h (fun v7 h => ?_)
    refine mjq_ic (v := (1 : Int32)) D_333_77 rfl ?_
    refine mjr_isub D_333_78 ?_
    refine mjq_vI (As := [.int (v6 - (2 : Int32)), .int (v7 - (1 : Int32))]) (rest := []) D_333_79 mr_12_621 V_334 rfl rfl rfl hR (Nat.le_refl _) h1 h2 h (fun v8 hp9 h => ?_)
    refine mjq_if_ne (tgt := 97) D_333_82 rfl h (fun h => ?_) (fun h => ?_)
    · exact mjG.fg (lo' := [some (.ref l0), none, none, none]) (And.intro rfl True.intro) ((t_333_97 hR h1 h2) _ _ _ h)
    · refine mjr_aload_n (x := l0) D_333_85 rfl ?_
      refine mjq_bi (v := (7 : Int32)) D_333_86 rfl ?_
      refine mjr_aload_n (x := l0) D_333_88 rfl ?_
      refine mjq_gR D_333_89 fr_12_151 h (fun v10 h => ?_)
      refine mjr_iload_n (x := l1) D_333_92 rfl ?_
      refine mjq_aI D_333_93 h (fun v11 h => ?_)
      refine mjq_vN (As := [.int (7 : Int32), .int v11]) (rest := []) D_333_94 mr_12_339 V_268 rfl rfl rfl hR (Nat.le_refl _) h1 h2 h (fun  hp12 h => ?_)
      exact mjG.fg (lo' := [some (.ref l0), none, none, none]) (And.intro rfl True.intro) ((t_333_97 hR h1 h2) _ _ _ h)
  · refine mjr_aload_n (x := l0) D_333_19 rfl ?_
    refine mjq_gR D_333_20 fr_12_221 h (fun v13 h => ?_)
    refine mjr_iload_n (x := l3) D_333_23 rfl ?_
    refine mjr_aload_n (x := l0) D_333_24 rfl ?_
    refine mjq_gR D_333_25 fr_12_215 h (fun v14 h => ?_)
    refine mjq_ic (v := (5 : Int32)) D_333_28 rfl ?_
    refine mjr_aload_n (x := l0) D_333_29 rfl ?_
    refine mjq_gI D_333_30 fr_12_591 h (fun v15 h => ?_)
    refine mjq_ic (v := (1 : Int32)) D_333_33 rfl ?_
    refine mjr_isub D_333_34 ?_
    refine mjr_imul D_333_35 ?_
    refine mjr_iload_n (x := l3) D_333_36 rfl ?_
    refine mjr_iadd D_333_37 ?_
    refine mjq_aI D_333_38 h (fun v16 h => ?_)
    refine mjq_sI D_333_39 h (fun hp17 h => ?_)
    refine mjq_iinc (x := l3) (c := (1 : Int32)) (lo' := [some (.ref l0), some (.int l1), some (.int l2), some (.int (l3 + (1 : Int32)))]) D_333_40 rfl (Nat.le_of_ble_eq_true rfl) rfl rfl ?_
    refine mjr_goto (tgt := 14) D_333_43 rfl ?_
    exact hk14 _ _ _ _ _ _ h
noncomputable def L_333_14 (R : mjR) (n : Nat) : Nat → Int32 → Int32 → Int32 → mjH → mjU := Nat.rec (motive := fun _ => Nat → Int32 → Int32 → Int32 → mjH → mjU) (fun _ _ _ _ _ => none) (fun _ self => b_333_14 R self) n
theorem T_333_14 {X : mjX} {d C S kc ks : Nat} {R : mjR} (hR : mjC R d) (h1 : kc ≤ C) (h2 : ks ≤ S) (n : Nat) : P_333_14 X (d + 1) C S kc ks (L_333_14 R n) := by
  induction n with
  | zero => intro _ _ _ _ _ _ h; exact mj_no h
  | succ n ih => exact t_333_14 hR h1 h2 ih
noncomputable def b_333_0 (R : mjR) (l0 : Nat) (l1 : Int32) (hp : mjH) : mjU := gR hp l0 12 89 (fun v1 => gI hp l0 12 92 (fun v2 => aI hp v1 (v2 - (1 : Int32)) (fun v3 => L_333_14 R mjN l0 l1 v3 (0 : Int32) hp)))
theorem t_333_0 {X : mjX} {d C S kc ks : Nat} {R : mjR} (hR : mjC R d) (h1 : kc ≤ C) (h2 : ks ≤ S) : P_333_0 X (d + 1) C S kc ks (b_333_0 R) := by
  intro l0 l1 hp q h
  unfold b_333_0 at h
  refine mjr_aload_n (x := l0) D_333_0 rfl ?_
  refine mjq_gR D_333_1 fr_12_212 h (fun v1 h => ?_)
  refine mjr_aload_n (x := l0) D_333_4 rfl ?_
  refine mjq_gI D_333_5 fr_12_591 h (fun v2 h => ?_)
  refine mjq_ic (v := (1 : Int32)) D_333_8 rfl ?_
  refine mjr_isub D_333_9 ?_
  refine mjq_aI D_333_10 h (fun v3 h => ?_)
  refine mjq_istore_n (lo' := [some (.ref l0), some (.int l1), some (.int v3), none]) D_333_11 (Nat.le_of_ble_eq_true rfl) rfl ?_
  refine mjq_ic (v := (0 : Int32)) D_333_12 rfl ?_
  refine mjq_istore_n (lo' := [some (.ref l0), some (.int l1), some (.int v3), some (.int (0 : Int32))]) D_333_13 (Nat.le_of_ble_eq_true rfl) rfl ?_
  exact (T_333_14 hR h1 h2 mjN) _ _ _ _ _ _ h
noncomputable def f_333 (R : mjR) (a0 : Nat) (a1 : Int32) (hp : mjH) : mjU := b_333_0 R a0 a1 hp
theorem c_333 {R : mjR} {d : Nat} (hR : mjC R d) {a0 : Nat} {a1 : Int32} {hp : mjH} {q : Option Value × mjH} (h : f_333 R a0 a1 hp = some q) : mjM (d + 1) 0 0 333 [.ref a0, .int a1] hp (mjEq q) :=
  mjM_of Ja_333 (Nat.le_of_ble_eq_true rfl) (mjG.fg (lo' := [some (.ref a0), some (.int a1), none, none]) (And.intro rfl (And.intro rfl True.intro)) ((t_333_0 hR (Nat.le_refl 0) (Nat.le_refl 0)) a0 a1 hp q h))
def J_334 : mjI := (⟨"OwnerHeapModel", "fits", "(II)Z"⟩, 12, prog_14_method_71_code, 5, (some .boolean), 2, false)
theorem Ja_334 : mjMt 334 = some J_334 := by rfl
theorem D_334_0 : decode J_334.2.2.1 0 = .ok (.aload_n 0, 1) := dzq_42 (by decide +kernel)
theorem D_334_1 : decode J_334.2.2.1 1 = .ok (.getfield 191, 3) := dzq_180 (by decide +kernel)
theorem D_334_4 : decode J_334.2.2.1 4 = .ok (.iload_n 1, 1) := dzq_27 (by decide +kernel)
theorem D_334_5 : decode J_334.2.2.1 5 = .ok (.iaload, 1) := dzq_46 (by decide +kernel)
theorem D_334_6 : decode J_334.2.2.1 6 = .ok (.iconst (-1), 1) := dzq_2 (by decide +kernel)
theorem D_334_7 : decode J_334.2.2.1 7 = .ok (.if_icmp .eq 13, 3) := dzq_159 (by decide +kernel)
theorem D_334_10 : decode J_334.2.2.1 10 = .ok (.aload_n 0, 1) := dzq_42 (by decide +kernel)
theorem D_334_11 : decode J_334.2.2.1 11 = .ok (.getfield 191, 3) := dzq_180 (by decide +kernel)
theorem D_334_14 : decode J_334.2.2.1 14 = .ok (.iload_n 2, 1) := dzq_28 (by decide +kernel)
theorem D_334_15 : decode J_334.2.2.1 15 = .ok (.iaload, 1) := dzq_46 (by decide +kernel)
theorem D_334_16 : decode J_334.2.2.1 16 = .ok (.iconst (-1), 1) := dzq_2 (by decide +kernel)
theorem D_334_17 : decode J_334.2.2.1 17 = .ok (.if_icmp .ne 24, 3) := dzq_160 (by decide +kernel)
theorem D_334_20 : decode J_334.2.2.1 20 = .ok (.aload_n 0, 1) := dzq_42 (by decide +kernel)
theorem D_334_21 : decode J_334.2.2.1 21 = .ok (.getfield 191, 3) := dzq_180 (by decide +kernel)
theorem D_334_24 : decode J_334.2.2.1 24 = .ok (.iload_n 1, 1) := dzq_27 (by decide +kernel)
theorem D_334_25 : decode J_334.2.2.1 25 = .ok (.iaload, 1) := dzq_46 (by decide +kernel)
theorem D_334_26 : decode J_334.2.2.1 26 = .ok (.aload_n 0, 1) := dzq_42 (by decide +kernel)
theorem D_334_27 : decode J_334.2.2.1 27 = .ok (.getfield 191, 3) := dzq_180 (by decide +kernel)
theorem D_334_30 : decode J_334.2.2.1 30 = .ok (.iload_n 2, 1) := dzq_28 (by decide +kernel)
theorem D_334_31 : decode J_334.2.2.1 31 = .ok (.iaload, 1) := dzq_46 (by decide +kernel)
theorem D_334_32 : decode J_334.2.2.1 32 = .ok (.if_icmp .ne 7, 3) := dzq_160 (by decide +kernel)
theorem D_334_35 : decode J_334.2.2.1 35 = .ok (.iconst 1, 1) := dzq_4 (by decide +kernel)
theorem D_334_36 : decode J_334.2.2.1 36 = .ok (.goto 4, 3) := dzq_167 (by decide +kernel)
theorem D_334_39 : decode J_334.2.2.1 39 = .ok (.iconst 0, 1) := dzq_3 (by decide +kernel)
theorem D_334_40 : decode J_334.2.2.1 40 = .ok (.ireturn, 1) := dzq_172 (by decide +kernel)
theorem D_334_41 : decode J_334.2.2.1 41 = .ok (.aload_n 0, 1) := dzq_42 (by decide +kernel)
theorem D_334_42 : decode J_334.2.2.1 42 = .ok (.getfield 191, 3) := dzq_180 (by decide +kernel)
theorem D_334_45 : decode J_334.2.2.1 45 = .ok (.iload_n 1, 1) := dzq_27 (by decide +kernel)
theorem D_334_46 : decode J_334.2.2.1 46 = .ok (.iaload, 1) := dzq_46 (by decide +kernel)
theorem D_334_47 : decode J_334.2.2.1 47 = .ok (.bipush (-2), 2) := dzq_16 (by decide +kernel)
theorem D_334_49 : decode J_334.2.2.1 49 = .ok (.if_icmp .eq 14, 3) := dzq_159 (by decide +kernel)
theorem D_334_52 : decode J_334.2.2.1 52 = .ok (.aload_n 0, 1) := dzq_42 (by decide +kernel)
theorem D_334_53 : decode J_334.2.2.1 53 = .ok (.getfield 191, 3) := dzq_180 (by decide +kernel)
theorem D_334_56 : decode J_334.2.2.1 56 = .ok (.iload_n 2, 1) := dzq_28 (by decide +kernel)
theorem D_334_57 : decode J_334.2.2.1 57 = .ok (.iaload, 1) := dzq_46 (by decide +kernel)
theorem D_334_58 : decode J_334.2.2.1 58 = .ok (.bipush (-2), 2) := dzq_16 (by decide +kernel)
theorem D_334_60 : decode J_334.2.2.1 60 = .ok (.if_icmp .ne 20, 3) := dzq_160 (by decide +kernel)
theorem D_334_63 : decode J_334.2.2.1 63 = .ok (.aload_n 0, 1) := dzq_42 (by decide +kernel)
theorem D_334_64 : decode J_334.2.2.1 64 = .ok (.getfield 191, 3) := dzq_180 (by decide +kernel)
theorem D_334_67 : decode J_334.2.2.1 67 = .ok (.iload_n 1, 1) := dzq_27 (by decide +kernel)
theorem D_334_68 : decode J_334.2.2.1 68 = .ok (.iaload, 1) := dzq_46 (by decide +kernel)
theorem D_334_69 : decode J_334.2.2.1 69 = .ok (.bipush (-2), 2) := dzq_16 (by decide +kernel)
theorem D_334_71 : decode J_334.2.2.1 71 = .ok (.if_icmp .ne 7, 3) := dzq_160 (by decide +kernel)
theorem D_334_74 : decode J_334.2.2.1 74 = .ok (.iconst 1, 1) := dzq_4 (by decide +kernel)
theorem D_334_75 : decode J_334.2.2.1 75 = .ok (.goto 4, 3) := dzq_167 (by decide +kernel)
theorem D_334_78 : decode J_334.2.2.1 78 = .ok (.iconst 0, 1) := dzq_3 (by decide +kernel)
theorem D_334_79 : decode J_334.2.2.1 79 = .ok (.ireturn, 1) := dzq_172 (by decide +kernel)
theorem D_334_80 : decode J_334.2.2.1 80 = .ok (.aload_n 0, 1) := dzq_42 (by decide +kernel)
theorem D_334_81 : decode J_334.2.2.1 81 = .ok (.iload_n 1, 1) := dzq_27 (by decide +kernel)
theorem D_334_82 : decode J_334.2.2.1 82 = .ok (.invokevirtual 576, 3) := dzq_182 (by decide +kernel)
theorem D_334_85 : decode J_334.2.2.1 85 = .ok (.aload_n 0, 1) := dzq_42 (by decide +kernel)
theorem D_334_86 : decode J_334.2.2.1 86 = .ok (.getfield 544, 3) := dzq_180 (by decide +kernel)
theorem D_334_89 : decode J_334.2.2.1 89 = .ok (.aload_n 0, 1) := dzq_42 (by decide +kernel)
theorem D_334_90 : decode J_334.2.2.1 90 = .ok (.getfield 191, 3) := dzq_180 (by decide +kernel)
theorem D_334_93 : decode J_334.2.2.1 93 = .ok (.iload_n 2, 1) := dzq_28 (by decide +kernel)
theorem D_334_94 : decode J_334.2.2.1 94 = .ok (.iaload, 1) := dzq_46 (by decide +kernel)
theorem D_334_95 : decode J_334.2.2.1 95 = .ok (.if_icmp .eq 22, 3) := dzq_159 (by decide +kernel)
theorem D_334_98 : decode J_334.2.2.1 98 = .ok (.aload_n 0, 1) := dzq_42 (by decide +kernel)
theorem D_334_99 : decode J_334.2.2.1 99 = .ok (.aload_n 0, 1) := dzq_42 (by decide +kernel)
theorem D_334_100 : decode J_334.2.2.1 100 = .ok (.getfield 544, 3) := dzq_180 (by decide +kernel)
theorem D_334_103 : decode J_334.2.2.1 103 = .ok (.invokevirtual 538, 3) := dzq_182 (by decide +kernel)
theorem D_334_106 : decode J_334.2.2.1 106 = .ok (.iconst (-1), 1) := dzq_2 (by decide +kernel)
theorem D_334_107 : decode J_334.2.2.1 107 = .ok (.if_icmp .eq 10, 3) := dzq_159 (by decide +kernel)
theorem D_334_110 : decode J_334.2.2.1 110 = .ok (.aload_n 0, 1) := dzq_42 (by decide +kernel)
theorem D_334_111 : decode J_334.2.2.1 111 = .ok (.invokevirtual 550, 3) := dzq_182 (by decide +kernel)
theorem D_334_114 : decode J_334.2.2.1 114 = .ok (.goto (-29), 3) := dzq_167 (by decide +kernel)
theorem D_334_117 : decode J_334.2.2.1 117 = .ok (.aload_n 0, 1) := dzq_42 (by decide +kernel)
theorem D_334_118 : decode J_334.2.2.1 118 = .ok (.getfield 544, 3) := dzq_180 (by decide +kernel)
theorem D_334_121 : decode J_334.2.2.1 121 = .ok (.aload_n 0, 1) := dzq_42 (by decide +kernel)
theorem D_334_122 : decode J_334.2.2.1 122 = .ok (.getfield 191, 3) := dzq_180 (by decide +kernel)
theorem D_334_125 : decode J_334.2.2.1 125 = .ok (.iload_n 2, 1) := dzq_28 (by decide +kernel)
theorem D_334_126 : decode J_334.2.2.1 126 = .ok (.iaload, 1) := dzq_46 (by decide +kernel)
theorem D_334_127 : decode J_334.2.2.1 127 = .ok (.if_icmp .ne 7, 3) := dzq_160 (by decide +kernel)
theorem D_334_130 : decode J_334.2.2.1 130 = .ok (.iconst 1, 1) := dzq_4 (by decide +kernel)
theorem D_334_131 : decode J_334.2.2.1 131 = .ok (.goto 4, 3) := dzq_167 (by decide +kernel)
theorem D_334_134 : decode J_334.2.2.1 134 = .ok (.iconst 0, 1) := dzq_3 (by decide +kernel)
theorem D_334_135 : decode J_334.2.2.1 135 = .ok (.istore_n 3, 1) := dzq_62 (by decide +kernel)
theorem D_334_136 : decode J_334.2.2.1 136 = .ok (.iconst 0, 1) := dzq_3 (by decide +kernel)
theorem D_334_137 : decode J_334.2.2.1 137 = .ok (.istore 4, 2) := dzq_54 (by decide +kernel)
theorem D_334_139 : decode J_334.2.2.1 139 = .ok (.iload 4, 2) := dzq_21 (by decide +kernel)
theorem D_334_141 : decode J_334.2.2.1 141 = .ok (.aload_n 0, 1) := dzq_42 (by decide +kernel)
theorem D_334_142 : decode J_334.2.2.1 142 = .ok (.getfield 30, 3) := dzq_180 (by decide +kernel)
theorem D_334_145 : decode J_334.2.2.1 145 = .ok (.aload_n 0, 1) := dzq_42 (by decide +kernel)
theorem D_334_146 : decode J_334.2.2.1 146 = .ok (.getfield 544, 3) := dzq_180 (by decide +kernel)
theorem D_334_149 : decode J_334.2.2.1 149 = .ok (.iaload, 1) := dzq_46 (by decide +kernel)
theorem D_334_150 : decode J_334.2.2.1 150 = .ok (.if_icmp .ge 40, 3) := dzq_162 (by decide +kernel)
theorem D_334_153 : decode J_334.2.2.1 153 = .ok (.iload_n 3, 1) := dzq_29 (by decide +kernel)
theorem D_334_154 : decode J_334.2.2.1 154 = .ok (.ifCond .eq 36, 3) := dzq_153 (by decide +kernel)
theorem D_334_157 : decode J_334.2.2.1 157 = .ok (.aload_n 0, 1) := dzq_42 (by decide +kernel)
theorem D_334_158 : decode J_334.2.2.1 158 = .ok (.getfield 221, 3) := dzq_180 (by decide +kernel)
theorem D_334_161 : decode J_334.2.2.1 161 = .ok (.iload 4, 2) := dzq_21 (by decide +kernel)
theorem D_334_163 : decode J_334.2.2.1 163 = .ok (.iaload, 1) := dzq_46 (by decide +kernel)
theorem D_334_164 : decode J_334.2.2.1 164 = .ok (.aload_n 0, 1) := dzq_42 (by decide +kernel)
theorem D_334_165 : decode J_334.2.2.1 165 = .ok (.getfield 197, 3) := dzq_180 (by decide +kernel)
theorem D_334_168 : decode J_334.2.2.1 168 = .ok (.iconst 5, 1) := dzq_8 (by decide +kernel)
theorem D_334_169 : decode J_334.2.2.1 169 = .ok (.iload_n 2, 1) := dzq_28 (by decide +kernel)
theorem D_334_170 : decode J_334.2.2.1 170 = .ok (.imul, 1) := dzq_104 (by decide +kernel)
theorem D_334_171 : decode J_334.2.2.1 171 = .ok (.iload 4, 2) := dzq_21 (by decide +kernel)
theorem D_334_173 : decode J_334.2.2.1 173 = .ok (.iadd, 1) := dzq_96 (by decide +kernel)
theorem D_334_174 : decode J_334.2.2.1 174 = .ok (.iaload, 1) := dzq_46 (by decide +kernel)
theorem D_334_175 : decode J_334.2.2.1 175 = .ok (.if_icmp .ne 7, 3) := dzq_160 (by decide +kernel)
theorem D_334_178 : decode J_334.2.2.1 178 = .ok (.iconst 1, 1) := dzq_4 (by decide +kernel)
theorem D_334_179 : decode J_334.2.2.1 179 = .ok (.goto 4, 3) := dzq_167 (by decide +kernel)
theorem D_334_182 : decode J_334.2.2.1 182 = .ok (.iconst 0, 1) := dzq_3 (by decide +kernel)
theorem D_334_183 : decode J_334.2.2.1 183 = .ok (.istore_n 3, 1) := dzq_62 (by decide +kernel)
theorem D_334_184 : decode J_334.2.2.1 184 = .ok (.iinc 4 1, 3) := dzq_132 (by decide +kernel)
theorem D_334_187 : decode J_334.2.2.1 187 = .ok (.goto (-48), 3) := dzq_167 (by decide +kernel)
theorem D_334_190 : decode J_334.2.2.1 190 = .ok (.iload_n 3, 1) := dzq_29 (by decide +kernel)
theorem D_334_191 : decode J_334.2.2.1 191 = .ok (.ireturn, 1) := dzq_172 (by decide +kernel)
def P_334_20 (X : mjX) (d C S kc ks : Nat) (k : Nat → Int32 → Int32 → mjH → mjU) : Prop := ∀ (l0 : Nat) (l1 : Int32) (l2 : Int32) (hp : mjH) (q : Option Value × mjH), k l0 l1 l2 hp = some q → mjG X d C S J_334 (mjEq q) 20 [some (.ref l0), some (.int l1), some (.int l2), none, none] [] hp kc ks
def P_334_63 (X : mjX) (d C S kc ks : Nat) (k : Nat → Int32 → mjH → mjU) : Prop := ∀ (l0 : Nat) (l1 : Int32) (hp : mjH) (q : Option Value × mjH), k l0 l1 hp = some q → mjG X d C S J_334 (mjEq q) 63 [some (.ref l0), some (.int l1), none, none, none] [] hp kc ks
def P_334_190 (X : mjX) (d C S kc ks : Nat) (k : Int32 → mjH → mjU) : Prop := ∀ (l3 : Int32) (hp : mjH) (q : Option Value × mjH), k l3 hp = some q → mjG X d C S J_334 (mjEq q) 190 [none, none, none, some (.int l3), none] [] hp kc ks
def P_334_183 (X : mjX) (d C S kc ks : Nat) (k : Nat → Int32 → Int32 → Int32 → mjH → mjU) : Prop := ∀ (l0 : Nat) (l2 : Int32) (l4 : Int32) (s0 : Int32) (hp : mjH) (q : Option Value × mjH), k l0 l2 l4 s0 hp = some q → mjG X d C S J_334 (mjEq q) 183 [some (.ref l0), none, some (.int l2), none, some (.int l4)] [.int s0] hp kc ks
def P_334_139 (X : mjX) (d C S kc ks : Nat) (k : Nat → Int32 → Int32 → Int32 → mjH → mjU) : Prop := ∀ (l0 : Nat) (l2 : Int32) (l3 : Int32) (l4 : Int32) (hp : mjH) (q : Option Value × mjH), k l0 l2 l3 l4 hp = some q → mjG X d C S J_334 (mjEq q) 139 [some (.ref l0), none, some (.int l2), some (.int l3), some (.int l4)] [] hp kc ks
def P_334_135 (X : mjX) (d C S kc ks : Nat) (k : Nat → Int32 → Int32 → mjH → mjU) : Prop := ∀ (l0 : Nat) (l2 : Int32) (s0 : Int32) (hp : mjH) (q : Option Value × mjH), k l0 l2 s0 hp = some q → mjG X d C S J_334 (mjEq q) 135 [some (.ref l0), none, some (.int l2), none, none] [.int s0] hp kc ks
def P_334_117 (X : mjX) (d C S kc ks : Nat) (k : Nat → Int32 → mjH → mjU) : Prop := ∀ (l0 : Nat) (l2 : Int32) (hp : mjH) (q : Option Value × mjH), k l0 l2 hp = some q → mjG X d C S J_334 (mjEq q) 117 [some (.ref l0), none, some (.int l2), none, none] [] hp kc ks
def P_334_85 (X : mjX) (d C S kc ks : Nat) (k : Nat → Int32 → mjH → mjU) : Prop := ∀ (l0 : Nat) (l2 : Int32) (hp : mjH) (q : Option Value × mjH), k l0 l2 hp = some q → mjG X d C S J_334 (mjEq q) 85 [some (.ref l0), none, some (.int l2), none, none] [] hp kc ks
def P_334_0 (X : mjX) (d C S kc ks : Nat) (k : Nat → Int32 → Int32 → mjH → mjU) : Prop := ∀ (l0 : Nat) (l1 : Int32) (l2 : Int32) (hp : mjH) (q : Option Value × mjH), k l0 l1 l2 hp = some q → mjG X d C S J_334 (mjEq q) 0 [some (.ref l0), some (.int l1), some (.int l2), none, none] [] hp kc ks
noncomputable def b_334_20 (R : mjR) (l0 : Nat) (l1 : Int32) (l2 : Int32) (hp : mjH) : mjU := gR hp l0 12 79 (fun v1 => aI hp v1 l1 (fun v2 => gR hp l0 12 79 (fun v3 => aI hp v3 l2 (fun v4 => (if v2 = v4 then some (some (.int (1 : Int32)), hp) else some (some (.int (0 : Int32)), hp))))))
theorem t_334_20 {X : mjX} {d C S kc ks : Nat} {R : mjR} (hR : mjC R d) (h1 : kc ≤ C) (h2 : ks ≤ S) : P_334_20 X (d + 1) C S kc ks (b_334_20 R) := by
  intro l0 l1 l2 hp q h
  unfold b_334_20 at h
  refine mjr_aload_n (x := l0) D_334_20 rfl ?_
  refine mjq_gR D_334_21 fr_12_191 h (fun v1 h => ?_)
  refine mjr_iload_n (x := l1) D_334_24 rfl ?_
  refine mjq_aI D_334_25 h (fun v2 h => ?_)
  refine mjr_aload_n (x := l0) D_334_26 rfl ?_
  refine mjq_gR D_334_27 fr_12_191 h (fun v3 h => ?_)
  refine mjr_iload_n (x := l2) D_334_30 rfl ?_
  refine mjq_aI D_334_31 h (fun v4 h => ?_)
  refine mjq_icmp_ne (tgt := 39) D_334_32 rfl h (fun h => ?_) (fun h => ?_)
  · refine mjq_ic (v := (0 : Int32)) D_334_39 rfl ?_
    exact mjr_ireturn D_334_40 rfl rfl h1 h2 (Option.some.inj h)
  · refine mjq_ic (v := (1 : Int32)) D_334_35 rfl ?_
    refine mjr_goto (tgt := 40) D_334_36 rfl ?_
    exact mjr_ireturn D_334_40 rfl rfl h1 h2 (Option.some.inj h)
noncomputable def b_334_63 (R : mjR) (l0 : Nat) (l1 : Int32) (hp : mjH) : mjU := gR hp l0 12 79 (fun v1 => aI hp v1 l1 (fun v2 => (if v2 = (-2 : Int32) then some (some (.int (1 : Int32)), hp) else some (some (.int (0 : Int32)), hp))))
theorem t_334_63 {X : mjX} {d C S kc ks : Nat} {R : mjR} (hR : mjC R d) (h1 : kc ≤ C) (h2 : ks ≤ S) : P_334_63 X (d + 1) C S kc ks (b_334_63 R) := by
  intro l0 l1 hp q h
  unfold b_334_63 at h
  refine mjr_aload_n (x := l0) D_334_63 rfl ?_
  refine mjq_gR D_334_64 fr_12_191 h (fun v1 h => ?_)
  refine mjr_iload_n (x := l1) D_334_67 rfl ?_
  refine mjq_aI D_334_68 h (fun v2 h => ?_)
  refine mjq_bi (v := (-2 : Int32)) D_334_69 rfl ?_
  refine mjq_icmp_ne (tgt := 78) D_334_71 rfl h (fun h => ?_) (fun h => ?_)
  · refine mjq_ic (v := (0 : Int32)) D_334_78 rfl ?_
    exact mjr_ireturn D_334_79 rfl rfl h1 h2 (Option.some.inj h)
  · refine mjq_ic (v := (1 : Int32)) D_334_74 rfl ?_
    refine mjr_goto (tgt := 79) D_334_75 rfl ?_
    exact mjr_ireturn D_334_79 rfl rfl h1 h2 (Option.some.inj h)
noncomputable def b_334_190 (R : mjR) (l3 : Int32) (hp : mjH) : mjU := (if narrow .boolean (.int l3) = .int l3 then some (some (.int l3), hp) else none)
theorem t_334_190 {X : mjX} {d C S kc ks : Nat} {R : mjR} (hR : mjC R d) (h1 : kc ≤ C) (h2 : ks ≤ S) : P_334_190 X (d + 1) C S kc ks (b_334_190 R) := by
  intro l3 hp q h
  unfold b_334_190 at h
  refine mjr_iload_n (x := l3) D_334_190 rfl ?_
  exact mjq_retZ (ty := .boolean) D_334_191 rfl h1 h2 h
noncomputable def b_334_183 (R : mjR) (k139 : Nat → Int32 → Int32 → Int32 → mjH → mjU) (l0 : Nat) (l2 : Int32) (l4 : Int32) (s0 : Int32) (hp : mjH) : mjU := k139 l0 l2 s0 (l4 + (1 : Int32)) hp
theorem t_334_183 {X : mjX} {d C S kc ks : Nat} {R : mjR} (hR : mjC R d) (h1 : kc ≤ C) (h2 : ks ≤ S) {k139 : Nat → Int32 → Int32 → Int32 → mjH → mjU} (hk139 : P_334_139 X (d + 1) C S kc ks k139) : P_334_183 X (d + 1) C S kc ks (b_334_183 R k139) := by
  intro l0 l2 l4 s0 hp q h
  unfold b_334_183 at h
  refine mjq_istore_n (lo' := [some (.ref l0), none, some (.int l2), some (.int s0), some (.int l4)]) D_334_183 (Nat.le_of_ble_eq_true rfl) rfl ?_
  refine mjq_iinc (x := l4) (c := (1 : Int32)) (lo' := [some (.ref l0), none, some (.int l2), some (.int s0), some (.int (l4 + (1 : Int32)))]) D_334_184 rfl (Nat.le_of_ble_eq_true rfl) rfl rfl ?_
  refine mjr_goto (tgt := 139) D_334_187 rfl ?_
  exact hk139 _ _ _ _ _ _ h
noncomputable def b_334_139 (R : mjR) (k139 : Nat → Int32 → Int32 → Int32 → mjH → mjU) (l0 : Nat) (l2 : Int32) (l3 : Int32) (l4 : Int32) (hp : mjH) : mjU := gR hp l0 12 15 (fun v1 => gI hp l0 12 95 (fun v2 => aI hp v1 v2 (fun v3 => (if v3 ≤ l4 then b_334_190 R l3 hp else (if l3 = 0 then b_334_190 R l3 hp else gR hp l0 12 93 (fun v4 => aI hp v4 l4 (fun v5 => gR hp l0 12 81 (fun v6 => aI hp v6 (((5 : Int32) * l2) + l4) (fun v7 => (if v5 = v7 then b_334_183 R k139 l0 l2 l4 (1 : Int32) hp else b_334_183 R k139 l0 l2 l4 (0 : Int32) hp))))))))))
theorem t_334_139 {X : mjX} {d C S kc ks : Nat} {R : mjR} (hR : mjC R d) (h1 : kc ≤ C) (h2 : ks ≤ S) {k139 : Nat → Int32 → Int32 → Int32 → mjH → mjU} (hk139 : P_334_139 X (d + 1) C S kc ks k139) : P_334_139 X (d + 1) C S kc ks (b_334_139 R k139) := by
  intro l0 l2 l3 l4 hp q h
  unfold b_334_139 at h
  refine mjr_iload (x := l4) D_334_139 rfl ?_
  refine mjr_aload_n (x := l0) D_334_141 rfl ?_
  refine mjq_gR D_334_142 fr_12_30 h (fun v1 h => ?_)
  refine mjr_aload_n (x := l0) D_334_145 rfl ?_
  refine mjq_gI D_334_146 fr_12_544 h (fun v2 h => ?_)
  refine mjq_aI D_334_149 h (fun v3 h => ?_)
  refine mjq_icmp_ge (tgt := 190) D_334_150 rfl h (fun h => ?_) (fun h => ?_)
  · exact mjG.fg (lo' := [none, none, none, some (.int l3), none]) (And.intro rfl True.intro) ((t_334_190 hR h1 h2) _ _ _ h)
  · refine mjr_iload_n (x := l3) D_334_153 rfl ?_
    refine mjq_if_eq (tgt := 190) D_334_154 rfl h (fun h => ?_) (fun h => ?_)
    · exact mjG.fg (lo' := [none, none, none, some (.int l3), none]) (And.intro rfl True.intro) ((t_334_190 hR h1 h2) _ _ _ h)
    · refine mjr_aload_n (x := l0) D_334_157 rfl ?_
      refine mjq_gR D_334_158 fr_12_221 h (fun v4 h => ?_)
      refine mjr_iload (x := l4) D_334_161 rfl ?_
      refine mjq_aI D_334_163 h (fun v5 h => ?_)
      refine mjr_aload_n (x := l0) D_334_164 rfl ?_
      refine mjq_gR D_334_165 fr_12_197 h (fun v6 h => ?_)
      refine mjq_ic (v := (5 : Int32)) D_334_168 rfl ?_
      refine mjr_iload_n (x := l2) D_334_169 rfl ?_
      refine mjr_imul D_334_170 ?_
      refine mjr_iload (x := l4) D_334_171 rfl ?_
      refine mjr_iadd D_334_173 ?_
      refine mjq_aI D_334_174 h (fun v7 h => ?_)
      refine mjq_icmp_ne (tgt := 182) D_334_175 rfl h (fun h => ?_) (fun h => ?_)
      · refine mjq_ic (v := (0 : Int32)) D_334_182 rfl ?_
        exact mjG.fg (lo' := [some (.ref l0), none, some (.int l2), none, some (.int l4)]) (And.intro rfl (And.intro rfl (And.intro rfl True.intro))) ((t_334_183 hR h1 h2 hk139) _ _ _ _ _ _ h)
      · refine mjq_ic (v := (1 : Int32)) D_334_178 rfl ?_
        refine mjr_goto (tgt := 183) D_334_179 rfl ?_
        exact mjG.fg (lo' := [some (.ref l0), none, some (.int l2), none, some (.int l4)]) (And.intro rfl (And.intro rfl (And.intro rfl True.intro))) ((t_334_183 hR h1 h2 hk139) _ _ _ _ _ _ h)
noncomputable def L_334_139 (R : mjR) (n : Nat) : Nat → Int32 → Int32 → Int32 → mjH → mjU := Nat.rec (motive := fun _ => Nat → Int32 → Int32 → Int32 → mjH → mjU) (fun _ _ _ _ _ => none) (fun _ self => b_334_139 R self) n
theorem T_334_139 {X : mjX} {d C S kc ks : Nat} {R : mjR} (hR : mjC R d) (h1 : kc ≤ C) (h2 : ks ≤ S) (n : Nat) : P_334_139 X (d + 1) C S kc ks (L_334_139 R n) := by
  induction n with
  | zero => intro _ _ _ _ _ _ h; exact mj_no h
  | succ n ih => exact t_334_139 hR h1 h2 ih
noncomputable def b_334_135 (R : mjR) (l0 : Nat) (l2 : Int32) (s0 : Int32) (hp : mjH) : mjU := L_334_139 R mjN l0 l2 s0 (0 : Int32) hp
theorem t_334_135 {X : mjX} {d C S kc ks : Nat} {R : mjR} (hR : mjC R d) (h1 : kc ≤ C) (h2 : ks ≤ S) : P_334_135 X (d + 1) C S kc ks (b_334_135 R) := by
  intro l0 l2 s0 hp q h
  unfold b_334_135 at h
  refine mjq_istore_n (lo' := [some (.ref l0), none, some (.int l2), some (.int s0), none]) D_334_135 (Nat.le_of_ble_eq_true rfl) rfl ?_
  refine mjq_ic (v := (0 : Int32)) D_334_136 rfl ?_
  refine mjq_istore (lo' := [some (.ref l0), none, some (.int l2), some (.int s0), some (.int (0 : Int32))]) D_334_137 (Nat.le_of_ble_eq_true rfl) rfl ?_
  exact (T_334_139 hR h1 h2 mjN) _ _ _ _ _ _ h
noncomputable def b_334_117 (R : mjR) (l0 : Nat) (l2 : Int32) (hp : mjH) : mjU := gI hp l0 12 95 (fun v1 => gR hp l0 12 79 (fun v2 => aI hp v2 l2 (fun v3 => (if v1 = v3 then b_334_135 R l0 l2 (1 : Int32) hp else b_334_135 R l0 l2 (0 : Int32) hp))))
theorem t_334_117 {X : mjX} {d C S kc ks : Nat} {R : mjR} (hR : mjC R d) (h1 : kc ≤ C) (h2 : ks ≤ S) : P_334_117 X (d + 1) C S kc ks (b_334_117 R) := by
  intro l0 l2 hp q h
  unfold b_334_117 at h
  refine mjr_aload_n (x := l0) D_334_117 rfl ?_
  refine mjq_gI D_334_118 fr_12_544 h (fun v1 h => ?_)
  refine mjr_aload_n (x := l0) D_334_121 rfl ?_
  refine mjq_gR D_334_122 fr_12_191 h (fun v2 h => ?_)
  refine mjr_iload_n (x := l2) D_334_125 rfl ?_
  refine mjq_aI D_334_126 h (fun v3 h => ?_)
  refine mjq_icmp_ne (tgt := 134) D_334_127 rfl h (fun h => ?_) (fun h => ?_)
  · refine mjq_ic (v := (0 : Int32)) D_334_134 rfl ?_
    exact (t_334_135 hR h1 h2) _ _ _ _ _ h
  · refine mjq_ic (v := (1 : Int32)) D_334_130 rfl ?_
    refine mjr_goto (tgt := 135) D_334_131 rfl ?_
    exact (t_334_135 hR h1 h2) _ _ _ _ _ h
noncomputable def b_334_85 (R : mjR) (k85 : Nat → Int32 → mjH → mjU) (l0 : Nat) (l2 : Int32) (hp : mjH) : mjU := gI hp l0 12 95 (fun v1 => gR hp l0 12 79 (fun v2 => aI hp v2 l2 (fun v3 => (if v1 = v3 then b_334_117 R l0 l2 hp else gI hp l0 12 95 (fun v4 => rV hp l0 12 (bI (R 242 [.ref l0, .int v4] hp) (fun v5 hp6 => (if v5 = (-1 : Int32) then b_334_117 R l0 l2 hp6 else rV hp6 l0 12 (bN (R 317 [.ref l0] hp6) (fun  hp7 => k85 l0 l2 hp7))))))))))
theorem t_334_85 {X : mjX} {d C S kc ks : Nat} {R : mjR} (hR : mjC R d) (h1 : kc ≤ C) (h2 : ks ≤ S) {k85 : Nat → Int32 → mjH → mjU} (hk85 : P_334_85 X (d + 1) C S kc ks k85) : P_334_85 X (d + 1) C S kc ks (b_334_85 R k85) := by
  intro l0 l2 hp q h
  unfold b_334_85 at h
  refine mjr_aload_n (x := l0) D_334_85 rfl ?_
  refine mjq_gI D_334_86 fr_12_544 h (fun v1 h => ?_)
  refine mjr_aload_n (x := l0) D_334_89 rfl ?_
  refine mjq_gR D_334_90 fr_12_191 h (fun v2 h => ?_)
  refine mjr_iload_n (x := l2) D_334_93 rfl ?_
  refine mjq_aI D_334_94 h (fun v3 h => ?_)
  refine mjq_icmp_eq (tgt := 117) D_334_95 rfl h (fun h => ?_) (fun h => ?_)
  · exact (t_334_117 hR h1 h2) _ _ _ _ h
  · refine mjr_aload_n (x := l0) D_334_98 rfl ?_
    refine mjr_aload_n (x := l0) D_334_99 rfl ?_
    refine mjq_gI D_334_100 fr_12_544 h (fun v4 h => ?_)
    refine mjq_vI (As := [.int v4]) (rest := []) D_334_103 mr_12_538 V_242 rfl rfl rfl hR (Nat.le_refl _) h1 h2 h (fun v5 hp6 h => ?_)
    refine mjq_ic (v := (-1 : Int32)) D_334_106 rfl ?_
    refine mjq_icmp_eq (tgt := 117) D_334_107 rfl h (fun h => ?_) (fun h => ?_)
    · exact (t_334_117 hR h1 h2) _ _ _ _ h
    · refine mjr_aload_n (x := l0) D_334_110 rfl ?_
      refine mjq_vN (As := []) (rest := []) D_334_111 mr_12_550 V_317 rfl rfl rfl hR (Nat.le_refl _) h1 h2 h (fun  hp7 h => ?_)
      refine mjr_goto (tgt := 85) D_334_114 rfl ?_
      exact hk85 _ _ _ _ h
noncomputable def L_334_85 (R : mjR) (n : Nat) : Nat → Int32 → mjH → mjU := Nat.rec (motive := fun _ => Nat → Int32 → mjH → mjU) (fun _ _ _ => none) (fun _ self => b_334_85 R self) n
theorem T_334_85 {X : mjX} {d C S kc ks : Nat} {R : mjR} (hR : mjC R d) (h1 : kc ≤ C) (h2 : ks ≤ S) (n : Nat) : P_334_85 X (d + 1) C S kc ks (L_334_85 R n) := by
  induction n with
  | zero => intro _ _ _ _ h; exact mj_no h
  | succ n ih => exact t_334_85 hR h1 h2 ih
noncomputable def b_334_0 (R : mjR) (l0 : Nat) (l1 : Int32) (l2 : Int32) (hp : mjH) : mjU := gR hp l0 12 79 (fun v1 => aI hp v1 l1 (fun v2 => (if v2 = (-1 : Int32) then b_334_20 R l0 l1 l2 hp else gR hp l0 12 79 (fun v3 => aI hp v3 l2 (fun v4 => (if v4 = (-1 : Int32) then b_334_20 R l0 l1 l2 hp else gR hp l0 12 79 (fun v5 => aI hp v5 l1 (fun v6 => (if v6 = (-2 : Int32) then b_334_63 R l0 l1 hp else gR hp l0 12 79 (fun v7 => aI hp v7 l2 (fun v8 => (if v8 = (-2 : Int32) then b_334_63 R l0 l1 hp else rV hp l0 12 (bN (R 329 [.ref l0, .int l1] hp) (fun  hp9 => L_334_85 R mjN l0 l2 hp9))))))))))))))
theorem t_334_0 {X : mjX} {d C S kc ks : Nat} {R : mjR} (hR : mjC R d) (h1 : kc ≤ C) (h2 : ks ≤ S) : P_334_0 X (d + 1) C S kc ks (b_334_0 R) := by
  intro l0 l1 l2 hp q h
  unfold b_334_0 at h
  refine mjr_aload_n (x := l0) D_334_0 rfl ?_
  refine mjq_gR D_334_1 fr_12_191 h (fun v1 h => ?_)
  refine mjr_iload_n (x := l1) D_334_4 rfl ?_
  refine mjq_aI D_334_5 h (fun v2 h => ?_)
  refine mjq_ic (v := (-1 : Int32)) D_334_6 rfl ?_
  refine mjq_icmp_eq (tgt := 20) D_334_7 rfl h (fun h => ?_) (fun h => ?_)
  · exact (t_334_20 hR h1 h2) _ _ _ _ _ h
  · refine mjr_aload_n (x := l0) D_334_10 rfl ?_
    refine mjq_gR D_334_11 fr_12_191 h (fun v3 h => ?_)
    refine mjr_iload_n (x := l2) D_334_14 rfl ?_
    refine mjq_aI D_334_15 h (fun v4 h => ?_)
    refine mjq_ic (v := (-1 : Int32)) D_334_16 rfl ?_
    refine mjq_icmp_ne (tgt := 41) D_334_17 rfl h (fun h => ?_) (fun h => ?_)
    · refine mjr_aload_n (x := l0) D_334_41 rfl ?_
      refine mjq_gR D_334_42 fr_12_191 h (fun v5 h => ?_)
      refine mjr_iload_n (x := l1) D_334_45 rfl ?_
      refine mjq_aI D_334_46 h (fun v6 h => ?_)
      refine mjq_bi (v := (-2 : Int32)) D_334_47 rfl ?_
      refine mjq_icmp_eq (tgt := 63) D_334_49 rfl h (fun h => ?_) (fun h => ?_)
      · exact mjG.fg (lo' := [some (.ref l0), some (.int l1), none, none, none]) (And.intro rfl (And.intro rfl True.intro)) ((t_334_63 hR h1 h2) _ _ _ _ h)
      · refine mjr_aload_n (x := l0) D_334_52 rfl ?_
        refine mjq_gR D_334_53 fr_12_191 h (fun v7 h => ?_)
        refine mjr_iload_n (x := l2) D_334_56 rfl ?_
        refine mjq_aI D_334_57 h (fun v8 h => ?_)
        refine mjq_bi (v := (-2 : Int32)) D_334_58 rfl ?_
        refine mjq_icmp_ne (tgt := 80) D_334_60 rfl h (fun h => ?_) (fun h => ?_)
        · refine mjr_aload_n (x := l0) D_334_80 rfl ?_
          refine mjr_iload_n (x := l1) D_334_81 rfl ?_
          refine mjq_vN (As := [.int l1]) (rest := []) D_334_82 mr_12_576 V_329 rfl rfl rfl hR (Nat.le_refl _) h1 h2 h (fun  hp9 h => ?_)
          exact mjG.fg (lo' := [some (.ref l0), none, some (.int l2), none, none]) (And.intro rfl (And.intro rfl True.intro)) ((T_334_85 hR h1 h2 mjN) _ _ _ _ h)
        · exact mjG.fg (lo' := [some (.ref l0), some (.int l1), none, none, none]) (And.intro rfl (And.intro rfl True.intro)) ((t_334_63 hR h1 h2) _ _ _ _ h)
    · exact (t_334_20 hR h1 h2) _ _ _ _ _ h
noncomputable def f_334 (R : mjR) (a0 : Nat) (a1 : Int32) (a2 : Int32) (hp : mjH) : mjU := b_334_0 R a0 a1 a2 hp
theorem c_334 {R : mjR} {d : Nat} (hR : mjC R d) {a0 : Nat} {a1 : Int32} {a2 : Int32} {hp : mjH} {q : Option Value × mjH} (h : f_334 R a0 a1 a2 hp = some q) : mjM (d + 1) 0 0 334 [.ref a0, .int a1, .int a2] hp (mjEq q) :=
  mjM_of Ja_334 (Nat.le_of_ble_eq_true rfl) (mjG.fg (lo' := [some (.ref a0), some (.int a1), some (.int a2), none, none]) (And.intro rfl (And.intro rfl (And.intro rfl True.intro))) ((t_334_0 hR (Nat.le_refl 0) (Nat.le_refl 0)) a0 a1 a2 hp q h))
def J_335 : mjI := (⟨"OwnerHeapModel", "judgeStep", "(I)V"⟩, 12, prog_14_method_80_code, 3, none, 1, false)
theorem Ja_335 : mjMt 335 = some J_335 := by rfl
theorem D_335_0 : decode J_335.2.2.1 0 = .ok (.aload_n 0, 1) := dzq_42 (by decide +kernel)
theorem D_335_1 : decode J_335.2.2.1 1 = .ok (.getfield 148, 3) := dzq_180 (by decide +kernel)
theorem D_335_4 : decode J_335.2.2.1 4 = .ok (.iload_n 1, 1) := dzq_27 (by decide +kernel)
theorem D_335_5 : decode J_335.2.2.1 5 = .ok (.iaload, 1) := dzq_46 (by decide +kernel)
theorem D_335_6 : decode J_335.2.2.1 6 = .ok (.tableswitch 512 17 28 #[62, 62, 132, 244, 315, 512, 512, 315, 424, 437, 450, 355], 62) := by decide +kernel
theorem D_335_68 : decode J_335.2.2.1 68 = .ok (.aload_n 0, 1) := dzq_42 (by decide +kernel)
theorem D_335_69 : decode J_335.2.2.1 69 = .ok (.aload_n 0, 1) := dzq_42 (by decide +kernel)
theorem D_335_70 : decode J_335.2.2.1 70 = .ok (.getfield 567, 3) := dzq_180 (by decide +kernel)
theorem D_335_73 : decode J_335.2.2.1 73 = .ok (.iconst 1, 1) := dzq_4 (by decide +kernel)
theorem D_335_74 : decode J_335.2.2.1 74 = .ok (.isub, 1) := dzq_100 (by decide +kernel)
theorem D_335_75 : decode J_335.2.2.1 75 = .ok (.aload_n 0, 1) := dzq_42 (by decide +kernel)
theorem D_335_76 : decode J_335.2.2.1 76 = .ok (.getfield 567, 3) := dzq_180 (by decide +kernel)
theorem D_335_79 : decode J_335.2.2.1 79 = .ok (.iconst 2, 1) := dzq_5 (by decide +kernel)
theorem D_335_80 : decode J_335.2.2.1 80 = .ok (.isub, 1) := dzq_100 (by decide +kernel)
theorem D_335_81 : decode J_335.2.2.1 81 = .ok (.invokevirtual 621, 3) := dzq_182 (by decide +kernel)
theorem D_335_84 : decode J_335.2.2.1 84 = .ok (.ifCond .ne 15, 3) := dzq_154 (by decide +kernel)
theorem D_335_87 : decode J_335.2.2.1 87 = .ok (.aload_n 0, 1) := dzq_42 (by decide +kernel)
theorem D_335_88 : decode J_335.2.2.1 88 = .ok (.bipush 7, 2) := dzq_16 (by decide +kernel)
theorem D_335_90 : decode J_335.2.2.1 90 = .ok (.aload_n 0, 1) := dzq_42 (by decide +kernel)
theorem D_335_91 : decode J_335.2.2.1 91 = .ok (.getfield 151, 3) := dzq_180 (by decide +kernel)
theorem D_335_94 : decode J_335.2.2.1 94 = .ok (.iload_n 1, 1) := dzq_27 (by decide +kernel)
theorem D_335_95 : decode J_335.2.2.1 95 = .ok (.iaload, 1) := dzq_46 (by decide +kernel)
theorem D_335_96 : decode J_335.2.2.1 96 = .ok (.invokevirtual 339, 3) := dzq_182 (by decide +kernel)
theorem D_335_99 : decode J_335.2.2.1 99 = .ok (.aload_n 0, 1) := dzq_42 (by decide +kernel)
theorem D_335_100 : decode J_335.2.2.1 100 = .ok (.getfield 154, 3) := dzq_180 (by decide +kernel)
theorem D_335_103 : decode J_335.2.2.1 103 = .ok (.iload_n 1, 1) := dzq_27 (by decide +kernel)
theorem D_335_104 : decode J_335.2.2.1 104 = .ok (.aload_n 0, 1) := dzq_42 (by decide +kernel)
theorem D_335_105 : decode J_335.2.2.1 105 = .ok (.getfield 154, 3) := dzq_180 (by decide +kernel)
theorem D_335_108 : decode J_335.2.2.1 108 = .ok (.sipush 5000, 3) := dzq_17 (by decide +kernel)
theorem D_335_111 : decode J_335.2.2.1 111 = .ok (.aload_n 0, 1) := dzq_42 (by decide +kernel)
theorem D_335_112 : decode J_335.2.2.1 112 = .ok (.getfield 356, 3) := dzq_180 (by decide +kernel)
theorem D_335_115 : decode J_335.2.2.1 115 = .ok (.imul, 1) := dzq_104 (by decide +kernel)
theorem D_335_116 : decode J_335.2.2.1 116 = .ok (.aload_n 0, 1) := dzq_42 (by decide +kernel)
theorem D_335_117 : decode J_335.2.2.1 117 = .ok (.getfield 154, 3) := dzq_180 (by decide +kernel)
theorem D_335_120 : decode J_335.2.2.1 120 = .ok (.iload_n 1, 1) := dzq_27 (by decide +kernel)
theorem D_335_121 : decode J_335.2.2.1 121 = .ok (.iaload, 1) := dzq_46 (by decide +kernel)
theorem D_335_122 : decode J_335.2.2.1 122 = .ok (.iadd, 1) := dzq_96 (by decide +kernel)
theorem D_335_123 : decode J_335.2.2.1 123 = .ok (.iaload, 1) := dzq_46 (by decide +kernel)
theorem D_335_124 : decode J_335.2.2.1 124 = .ok (.iastore, 1) := dzq_79 (by decide +kernel)
theorem D_335_125 : decode J_335.2.2.1 125 = .ok (.aload_n 0, 1) := dzq_42 (by decide +kernel)
theorem D_335_126 : decode J_335.2.2.1 126 = .ok (.dup, 1) := dzq_89 (by decide +kernel)
theorem D_335_127 : decode J_335.2.2.1 127 = .ok (.getfield 567, 3) := dzq_180 (by decide +kernel)
theorem D_335_130 : decode J_335.2.2.1 130 = .ok (.iconst 2, 1) := dzq_5 (by decide +kernel)
theorem D_335_131 : decode J_335.2.2.1 131 = .ok (.isub, 1) := dzq_100 (by decide +kernel)
theorem D_335_132 : decode J_335.2.2.1 132 = .ok (.putfield 567, 3) := dzq_181 (by decide +kernel)
theorem D_335_135 : decode J_335.2.2.1 135 = .ok (.goto 383, 3) := dzq_167 (by decide +kernel)
theorem D_335_138 : decode J_335.2.2.1 138 = .ok (.aload_n 0, 1) := dzq_42 (by decide +kernel)
theorem D_335_139 : decode J_335.2.2.1 139 = .ok (.aload_n 0, 1) := dzq_42 (by decide +kernel)
theorem D_335_140 : decode J_335.2.2.1 140 = .ok (.getfield 154, 3) := dzq_180 (by decide +kernel)
theorem D_335_143 : decode J_335.2.2.1 143 = .ok (.iload_n 1, 1) := dzq_27 (by decide +kernel)
theorem D_335_144 : decode J_335.2.2.1 144 = .ok (.iaload, 1) := dzq_46 (by decide +kernel)
theorem D_335_145 : decode J_335.2.2.1 145 = .ok (.aload_n 0, 1) := dzq_42 (by decide +kernel)
theorem D_335_146 : decode J_335.2.2.1 146 = .ok (.getfield 582, 3) := dzq_180 (by decide +kernel)
theorem D_335_149 : decode J_335.2.2.1 149 = .ok (.invokevirtual 541, 3) := dzq_182 (by decide +kernel)
theorem D_335_152 : decode J_335.2.2.1 152 = .ok (.aload_n 0, 1) := dzq_42 (by decide +kernel)
theorem D_335_153 : decode J_335.2.2.1 153 = .ok (.getfield 333, 3) := dzq_180 (by decide +kernel)
theorem D_335_156 : decode J_335.2.2.1 156 = .ok (.ifCond .ne 28, 3) := dzq_154 (by decide +kernel)
theorem D_335_159 : decode J_335.2.2.1 159 = .ok (.aload_n 0, 1) := dzq_42 (by decide +kernel)
theorem D_335_160 : decode J_335.2.2.1 160 = .ok (.aload_n 0, 1) := dzq_42 (by decide +kernel)
theorem D_335_161 : decode J_335.2.2.1 161 = .ok (.getfield 160, 3) := dzq_180 (by decide +kernel)
theorem D_335_164 : decode J_335.2.2.1 164 = .ok (.iload_n 1, 1) := dzq_27 (by decide +kernel)
theorem D_335_165 : decode J_335.2.2.1 165 = .ok (.laload, 1) := dzq_47 (by decide +kernel)
theorem D_335_166 : decode J_335.2.2.1 166 = .ok (.invokevirtual 597, 3) := dzq_182 (by decide +kernel)
theorem D_335_169 : decode J_335.2.2.1 169 = .ok (.iconst (-1), 1) := dzq_2 (by decide +kernel)
theorem D_335_170 : decode J_335.2.2.1 170 = .ok (.if_icmp .eq 14, 3) := dzq_159 (by decide +kernel)
theorem D_335_173 : decode J_335.2.2.1 173 = .ok (.aload_n 0, 1) := dzq_42 (by decide +kernel)
theorem D_335_174 : decode J_335.2.2.1 174 = .ok (.iconst 4, 1) := dzq_7 (by decide +kernel)
theorem D_335_175 : decode J_335.2.2.1 175 = .ok (.aload_n 0, 1) := dzq_42 (by decide +kernel)
theorem D_335_176 : decode J_335.2.2.1 176 = .ok (.getfield 151, 3) := dzq_180 (by decide +kernel)
theorem D_335_179 : decode J_335.2.2.1 179 = .ok (.iload_n 1, 1) := dzq_27 (by decide +kernel)
theorem D_335_180 : decode J_335.2.2.1 180 = .ok (.iaload, 1) := dzq_46 (by decide +kernel)
theorem D_335_181 : decode J_335.2.2.1 181 = .ok (.invokevirtual 339, 3) := dzq_182 (by decide +kernel)
theorem D_335_184 : decode J_335.2.2.1 184 = .ok (.aload_n 0, 1) := dzq_42 (by decide +kernel)
theorem D_335_185 : decode J_335.2.2.1 185 = .ok (.getfield 200, 3) := dzq_180 (by decide +kernel)
theorem D_335_188 : decode J_335.2.2.1 188 = .ok (.aload_n 0, 1) := dzq_42 (by decide +kernel)
theorem D_335_189 : decode J_335.2.2.1 189 = .ok (.getfield 585, 3) := dzq_180 (by decide +kernel)
theorem D_335_192 : decode J_335.2.2.1 192 = .ok (.aload_n 0, 1) := dzq_42 (by decide +kernel)
theorem D_335_193 : decode J_335.2.2.1 193 = .ok (.getfield 160, 3) := dzq_180 (by decide +kernel)
theorem D_335_196 : decode J_335.2.2.1 196 = .ok (.iload_n 1, 1) := dzq_27 (by decide +kernel)
theorem D_335_197 : decode J_335.2.2.1 197 = .ok (.laload, 1) := dzq_47 (by decide +kernel)
theorem D_335_198 : decode J_335.2.2.1 198 = .ok (.lastore, 1) := by decide +kernel
theorem D_335_199 : decode J_335.2.2.1 199 = .ok (.aload_n 0, 1) := dzq_42 (by decide +kernel)
theorem D_335_200 : decode J_335.2.2.1 200 = .ok (.getfield 203, 3) := dzq_180 (by decide +kernel)
theorem D_335_203 : decode J_335.2.2.1 203 = .ok (.aload_n 0, 1) := dzq_42 (by decide +kernel)
theorem D_335_204 : decode J_335.2.2.1 204 = .ok (.getfield 585, 3) := dzq_180 (by decide +kernel)
theorem D_335_207 : decode J_335.2.2.1 207 = .ok (.aload_n 0, 1) := dzq_42 (by decide +kernel)
theorem D_335_208 : decode J_335.2.2.1 208 = .ok (.getfield 154, 3) := dzq_180 (by decide +kernel)
theorem D_335_211 : decode J_335.2.2.1 211 = .ok (.iload_n 1, 1) := dzq_27 (by decide +kernel)
theorem D_335_212 : decode J_335.2.2.1 212 = .ok (.iaload, 1) := dzq_46 (by decide +kernel)
theorem D_335_213 : decode J_335.2.2.1 213 = .ok (.iastore, 1) := dzq_79 (by decide +kernel)
theorem D_335_214 : decode J_335.2.2.1 214 = .ok (.aload_n 0, 1) := dzq_42 (by decide +kernel)
theorem D_335_215 : decode J_335.2.2.1 215 = .ok (.getfield 206, 3) := dzq_180 (by decide +kernel)
theorem D_335_218 : decode J_335.2.2.1 218 = .ok (.aload_n 0, 1) := dzq_42 (by decide +kernel)
theorem D_335_219 : decode J_335.2.2.1 219 = .ok (.getfield 585, 3) := dzq_180 (by decide +kernel)
theorem D_335_222 : decode J_335.2.2.1 222 = .ok (.aload_n 0, 1) := dzq_42 (by decide +kernel)
theorem D_335_223 : decode J_335.2.2.1 223 = .ok (.getfield 588, 3) := dzq_180 (by decide +kernel)
theorem D_335_226 : decode J_335.2.2.1 226 = .ok (.iastore, 1) := dzq_79 (by decide +kernel)
theorem D_335_227 : decode J_335.2.2.1 227 = .ok (.aload_n 0, 1) := dzq_42 (by decide +kernel)
theorem D_335_228 : decode J_335.2.2.1 228 = .ok (.getfield 209, 3) := dzq_180 (by decide +kernel)
theorem D_335_231 : decode J_335.2.2.1 231 = .ok (.aload_n 0, 1) := dzq_42 (by decide +kernel)
theorem D_335_232 : decode J_335.2.2.1 232 = .ok (.getfield 585, 3) := dzq_180 (by decide +kernel)
theorem D_335_235 : decode J_335.2.2.1 235 = .ok (.iconst 0, 1) := dzq_3 (by decide +kernel)
theorem D_335_236 : decode J_335.2.2.1 236 = .ok (.bastore, 1) := by decide +kernel
theorem D_335_237 : decode J_335.2.2.1 237 = .ok (.aload_n 0, 1) := dzq_42 (by decide +kernel)
theorem D_335_238 : decode J_335.2.2.1 238 = .ok (.dup, 1) := dzq_89 (by decide +kernel)
theorem D_335_239 : decode J_335.2.2.1 239 = .ok (.getfield 585, 3) := dzq_180 (by decide +kernel)
theorem D_335_242 : decode J_335.2.2.1 242 = .ok (.iconst 1, 1) := dzq_4 (by decide +kernel)
theorem D_335_243 : decode J_335.2.2.1 243 = .ok (.iadd, 1) := dzq_96 (by decide +kernel)
theorem D_335_244 : decode J_335.2.2.1 244 = .ok (.putfield 585, 3) := dzq_181 (by decide +kernel)
theorem D_335_247 : decode J_335.2.2.1 247 = .ok (.goto 271, 3) := dzq_167 (by decide +kernel)
theorem D_335_250 : decode J_335.2.2.1 250 = .ok (.aload_n 0, 1) := dzq_42 (by decide +kernel)
theorem D_335_251 : decode J_335.2.2.1 251 = .ok (.aload_n 0, 1) := dzq_42 (by decide +kernel)
theorem D_335_252 : decode J_335.2.2.1 252 = .ok (.getfield 203, 3) := dzq_180 (by decide +kernel)
theorem D_335_255 : decode J_335.2.2.1 255 = .ok (.aload_n 0, 1) := dzq_42 (by decide +kernel)
theorem D_335_256 : decode J_335.2.2.1 256 = .ok (.getfield 154, 3) := dzq_180 (by decide +kernel)
theorem D_335_259 : decode J_335.2.2.1 259 = .ok (.iload_n 1, 1) := dzq_27 (by decide +kernel)
theorem D_335_260 : decode J_335.2.2.1 260 = .ok (.iaload, 1) := dzq_46 (by decide +kernel)
theorem D_335_261 : decode J_335.2.2.1 261 = .ok (.iaload, 1) := dzq_46 (by decide +kernel)
theorem D_335_262 : decode J_335.2.2.1 262 = .ok (.invokevirtual 573, 3) := dzq_182 (by decide +kernel)
theorem D_335_265 : decode J_335.2.2.1 265 = .ok (.aload_n 0, 1) := dzq_42 (by decide +kernel)
theorem D_335_266 : decode J_335.2.2.1 266 = .ok (.aload_n 0, 1) := dzq_42 (by decide +kernel)
theorem D_335_267 : decode J_335.2.2.1 267 = .ok (.getfield 567, 3) := dzq_180 (by decide +kernel)
theorem D_335_270 : decode J_335.2.2.1 270 = .ok (.iconst 2, 1) := dzq_5 (by decide +kernel)
theorem D_335_271 : decode J_335.2.2.1 271 = .ok (.isub, 1) := dzq_100 (by decide +kernel)
theorem D_335_272 : decode J_335.2.2.1 272 = .ok (.aload_n 0, 1) := dzq_42 (by decide +kernel)
theorem D_335_273 : decode J_335.2.2.1 273 = .ok (.getfield 567, 3) := dzq_180 (by decide +kernel)
theorem D_335_276 : decode J_335.2.2.1 276 = .ok (.iconst 1, 1) := dzq_4 (by decide +kernel)
theorem D_335_277 : decode J_335.2.2.1 277 = .ok (.isub, 1) := dzq_100 (by decide +kernel)
theorem D_335_278 : decode J_335.2.2.1 278 = .ok (.invokevirtual 621, 3) := dzq_182 (by decide +kernel)
theorem D_335_281 : decode J_335.2.2.1 281 = .ok (.ifCond .ne 15, 3) := dzq_154 (by decide +kernel)
theorem D_335_284 : decode J_335.2.2.1 284 = .ok (.aload_n 0, 1) := dzq_42 (by decide +kernel)
theorem D_335_285 : decode J_335.2.2.1 285 = .ok (.bipush 7, 2) := dzq_16 (by decide +kernel)
theorem D_335_287 : decode J_335.2.2.1 287 = .ok (.aload_n 0, 1) := dzq_42 (by decide +kernel)
theorem D_335_288 : decode J_335.2.2.1 288 = .ok (.getfield 151, 3) := dzq_180 (by decide +kernel)
theorem D_335_291 : decode J_335.2.2.1 291 = .ok (.iload_n 1, 1) := dzq_27 (by decide +kernel)
theorem D_335_292 : decode J_335.2.2.1 292 = .ok (.iaload, 1) := dzq_46 (by decide +kernel)
theorem D_335_293 : decode J_335.2.2.1 293 = .ok (.invokevirtual 339, 3) := dzq_182 (by decide +kernel)
theorem D_335_296 : decode J_335.2.2.1 296 = .ok (.aload_n 0, 1) := dzq_42 (by decide +kernel)
theorem D_335_297 : decode J_335.2.2.1 297 = .ok (.getfield 209, 3) := dzq_180 (by decide +kernel)
theorem D_335_300 : decode J_335.2.2.1 300 = .ok (.aload_n 0, 1) := dzq_42 (by decide +kernel)
theorem D_335_301 : decode J_335.2.2.1 301 = .ok (.getfield 154, 3) := dzq_180 (by decide +kernel)
theorem D_335_304 : decode J_335.2.2.1 304 = .ok (.iload_n 1, 1) := dzq_27 (by decide +kernel)
theorem D_335_305 : decode J_335.2.2.1 305 = .ok (.iaload, 1) := dzq_46 (by decide +kernel)
theorem D_335_306 : decode J_335.2.2.1 306 = .ok (.iconst 1, 1) := dzq_4 (by decide +kernel)
theorem D_335_307 : decode J_335.2.2.1 307 = .ok (.bastore, 1) := by decide +kernel
theorem D_335_308 : decode J_335.2.2.1 308 = .ok (.aload_n 0, 1) := dzq_42 (by decide +kernel)
theorem D_335_309 : decode J_335.2.2.1 309 = .ok (.dup, 1) := dzq_89 (by decide +kernel)
theorem D_335_310 : decode J_335.2.2.1 310 = .ok (.getfield 567, 3) := dzq_180 (by decide +kernel)
theorem D_335_313 : decode J_335.2.2.1 313 = .ok (.iconst 2, 1) := dzq_5 (by decide +kernel)
theorem D_335_314 : decode J_335.2.2.1 314 = .ok (.isub, 1) := dzq_100 (by decide +kernel)
theorem D_335_315 : decode J_335.2.2.1 315 = .ok (.putfield 567, 3) := dzq_181 (by decide +kernel)
theorem D_335_318 : decode J_335.2.2.1 318 = .ok (.goto 200, 3) := dzq_167 (by decide +kernel)
theorem D_335_321 : decode J_335.2.2.1 321 = .ok (.aload_n 0, 1) := dzq_42 (by decide +kernel)
theorem D_335_322 : decode J_335.2.2.1 322 = .ok (.getfield 191, 3) := dzq_180 (by decide +kernel)
theorem D_335_325 : decode J_335.2.2.1 325 = .ok (.aload_n 0, 1) := dzq_42 (by decide +kernel)
theorem D_335_326 : decode J_335.2.2.1 326 = .ok (.getfield 567, 3) := dzq_180 (by decide +kernel)
theorem D_335_329 : decode J_335.2.2.1 329 = .ok (.iconst 1, 1) := dzq_4 (by decide +kernel)
theorem D_335_330 : decode J_335.2.2.1 330 = .ok (.isub, 1) := dzq_100 (by decide +kernel)
theorem D_335_331 : decode J_335.2.2.1 331 = .ok (.iaload, 1) := dzq_46 (by decide +kernel)
theorem D_335_332 : decode J_335.2.2.1 332 = .ok (.iconst (-1), 1) := dzq_2 (by decide +kernel)
theorem D_335_333 : decode J_335.2.2.1 333 = .ok (.if_icmp .eq 15, 3) := dzq_159 (by decide +kernel)
theorem D_335_336 : decode J_335.2.2.1 336 = .ok (.aload_n 0, 1) := dzq_42 (by decide +kernel)
theorem D_335_337 : decode J_335.2.2.1 337 = .ok (.bipush 7, 2) := dzq_16 (by decide +kernel)
theorem D_335_339 : decode J_335.2.2.1 339 = .ok (.aload_n 0, 1) := dzq_42 (by decide +kernel)
theorem D_335_340 : decode J_335.2.2.1 340 = .ok (.getfield 151, 3) := dzq_180 (by decide +kernel)
theorem D_335_343 : decode J_335.2.2.1 343 = .ok (.iload_n 1, 1) := dzq_27 (by decide +kernel)
theorem D_335_344 : decode J_335.2.2.1 344 = .ok (.iaload, 1) := dzq_46 (by decide +kernel)
theorem D_335_345 : decode J_335.2.2.1 345 = .ok (.invokevirtual 339, 3) := dzq_182 (by decide +kernel)
theorem D_335_348 : decode J_335.2.2.1 348 = .ok (.aload_n 0, 1) := dzq_42 (by decide +kernel)
theorem D_335_349 : decode J_335.2.2.1 349 = .ok (.dup, 1) := dzq_89 (by decide +kernel)
theorem D_335_350 : decode J_335.2.2.1 350 = .ok (.getfield 567, 3) := dzq_180 (by decide +kernel)
theorem D_335_353 : decode J_335.2.2.1 353 = .ok (.iconst 1, 1) := dzq_4 (by decide +kernel)
theorem D_335_354 : decode J_335.2.2.1 354 = .ok (.isub, 1) := dzq_100 (by decide +kernel)
theorem D_335_355 : decode J_335.2.2.1 355 = .ok (.putfield 567, 3) := dzq_181 (by decide +kernel)
theorem D_335_358 : decode J_335.2.2.1 358 = .ok (.goto 160, 3) := dzq_167 (by decide +kernel)
theorem D_335_361 : decode J_335.2.2.1 361 = .ok (.aload_n 0, 1) := dzq_42 (by decide +kernel)
theorem D_335_362 : decode J_335.2.2.1 362 = .ok (.aload_n 0, 1) := dzq_42 (by decide +kernel)
theorem D_335_363 : decode J_335.2.2.1 363 = .ok (.getfield 579, 3) := dzq_180 (by decide +kernel)
theorem D_335_366 : decode J_335.2.2.1 366 = .ok (.iconst (-1), 1) := dzq_2 (by decide +kernel)
theorem D_335_367 : decode J_335.2.2.1 367 = .ok (.if_icmp .ne 7, 3) := dzq_160 (by decide +kernel)
theorem D_335_370 : decode J_335.2.2.1 370 = .ok (.iconst (-1), 1) := dzq_2 (by decide +kernel)
theorem D_335_371 : decode J_335.2.2.1 371 = .ok (.goto 12, 3) := dzq_167 (by decide +kernel)
theorem D_335_374 : decode J_335.2.2.1 374 = .ok (.aload_n 0, 1) := dzq_42 (by decide +kernel)
theorem D_335_375 : decode J_335.2.2.1 375 = .ok (.getfield 97, 3) := dzq_180 (by decide +kernel)
theorem D_335_378 : decode J_335.2.2.1 378 = .ok (.aload_n 0, 1) := dzq_42 (by decide +kernel)
theorem D_335_379 : decode J_335.2.2.1 379 = .ok (.getfield 579, 3) := dzq_180 (by decide +kernel)
theorem D_335_382 : decode J_335.2.2.1 382 = .ok (.iaload, 1) := dzq_46 (by decide +kernel)
theorem D_335_383 : decode J_335.2.2.1 383 = .ok (.invokevirtual 573, 3) := dzq_182 (by decide +kernel)
theorem D_335_386 : decode J_335.2.2.1 386 = .ok (.aload_n 0, 1) := dzq_42 (by decide +kernel)
theorem D_335_387 : decode J_335.2.2.1 387 = .ok (.aload_n 0, 1) := dzq_42 (by decide +kernel)
theorem D_335_388 : decode J_335.2.2.1 388 = .ok (.getfield 567, 3) := dzq_180 (by decide +kernel)
theorem D_335_391 : decode J_335.2.2.1 391 = .ok (.iconst 2, 1) := dzq_5 (by decide +kernel)
theorem D_335_392 : decode J_335.2.2.1 392 = .ok (.isub, 1) := dzq_100 (by decide +kernel)
theorem D_335_393 : decode J_335.2.2.1 393 = .ok (.aload_n 0, 1) := dzq_42 (by decide +kernel)
theorem D_335_394 : decode J_335.2.2.1 394 = .ok (.getfield 567, 3) := dzq_180 (by decide +kernel)
theorem D_335_397 : decode J_335.2.2.1 397 = .ok (.iconst 1, 1) := dzq_4 (by decide +kernel)
theorem D_335_398 : decode J_335.2.2.1 398 = .ok (.isub, 1) := dzq_100 (by decide +kernel)
theorem D_335_399 : decode J_335.2.2.1 399 = .ok (.invokevirtual 621, 3) := dzq_182 (by decide +kernel)
theorem D_335_402 : decode J_335.2.2.1 402 = .ok (.ifCond .ne 15, 3) := dzq_154 (by decide +kernel)
theorem D_335_405 : decode J_335.2.2.1 405 = .ok (.aload_n 0, 1) := dzq_42 (by decide +kernel)
theorem D_335_406 : decode J_335.2.2.1 406 = .ok (.bipush 7, 2) := dzq_16 (by decide +kernel)
theorem D_335_408 : decode J_335.2.2.1 408 = .ok (.aload_n 0, 1) := dzq_42 (by decide +kernel)
theorem D_335_409 : decode J_335.2.2.1 409 = .ok (.getfield 151, 3) := dzq_180 (by decide +kernel)
theorem D_335_412 : decode J_335.2.2.1 412 = .ok (.iload_n 1, 1) := dzq_27 (by decide +kernel)
theorem D_335_413 : decode J_335.2.2.1 413 = .ok (.iaload, 1) := dzq_46 (by decide +kernel)
theorem D_335_414 : decode J_335.2.2.1 414 = .ok (.invokevirtual 339, 3) := dzq_182 (by decide +kernel)
theorem D_335_417 : decode J_335.2.2.1 417 = .ok (.aload_n 0, 1) := dzq_42 (by decide +kernel)
theorem D_335_418 : decode J_335.2.2.1 418 = .ok (.dup, 1) := dzq_89 (by decide +kernel)
theorem D_335_419 : decode J_335.2.2.1 419 = .ok (.getfield 567, 3) := dzq_180 (by decide +kernel)
theorem D_335_422 : decode J_335.2.2.1 422 = .ok (.iconst 2, 1) := dzq_5 (by decide +kernel)
theorem D_335_423 : decode J_335.2.2.1 423 = .ok (.isub, 1) := dzq_100 (by decide +kernel)
theorem D_335_424 : decode J_335.2.2.1 424 = .ok (.putfield 567, 3) := dzq_181 (by decide +kernel)
theorem D_335_427 : decode J_335.2.2.1 427 = .ok (.goto 91, 3) := dzq_167 (by decide +kernel)
theorem D_335_430 : decode J_335.2.2.1 430 = .ok (.aload_n 0, 1) := dzq_42 (by decide +kernel)
theorem D_335_431 : decode J_335.2.2.1 431 = .ok (.dup, 1) := dzq_89 (by decide +kernel)
theorem D_335_432 : decode J_335.2.2.1 432 = .ok (.getfield 567, 3) := dzq_180 (by decide +kernel)
theorem D_335_435 : decode J_335.2.2.1 435 = .ok (.iconst 1, 1) := dzq_4 (by decide +kernel)
theorem D_335_436 : decode J_335.2.2.1 436 = .ok (.isub, 1) := dzq_100 (by decide +kernel)
theorem D_335_437 : decode J_335.2.2.1 437 = .ok (.putfield 567, 3) := dzq_181 (by decide +kernel)
theorem D_335_440 : decode J_335.2.2.1 440 = .ok (.goto 78, 3) := dzq_167 (by decide +kernel)
theorem D_335_443 : decode J_335.2.2.1 443 = .ok (.aload_n 0, 1) := dzq_42 (by decide +kernel)
theorem D_335_444 : decode J_335.2.2.1 444 = .ok (.dup, 1) := dzq_89 (by decide +kernel)
theorem D_335_445 : decode J_335.2.2.1 445 = .ok (.getfield 588, 3) := dzq_180 (by decide +kernel)
theorem D_335_448 : decode J_335.2.2.1 448 = .ok (.iconst 1, 1) := dzq_4 (by decide +kernel)
theorem D_335_449 : decode J_335.2.2.1 449 = .ok (.iadd, 1) := dzq_96 (by decide +kernel)
theorem D_335_450 : decode J_335.2.2.1 450 = .ok (.putfield 588, 3) := dzq_181 (by decide +kernel)
theorem D_335_453 : decode J_335.2.2.1 453 = .ok (.goto 65, 3) := dzq_167 (by decide +kernel)
theorem D_335_456 : decode J_335.2.2.1 456 = .ok (.iconst 0, 1) := dzq_3 (by decide +kernel)
theorem D_335_457 : decode J_335.2.2.1 457 = .ok (.istore_n 2, 1) := dzq_61 (by decide +kernel)
theorem D_335_458 : decode J_335.2.2.1 458 = .ok (.iload_n 2, 1) := dzq_28 (by decide +kernel)
theorem D_335_459 : decode J_335.2.2.1 459 = .ok (.aload_n 0, 1) := dzq_42 (by decide +kernel)
theorem D_335_460 : decode J_335.2.2.1 460 = .ok (.getfield 585, 3) := dzq_180 (by decide +kernel)
theorem D_335_463 : decode J_335.2.2.1 463 = .ok (.if_icmp .ge 42, 3) := dzq_162 (by decide +kernel)
theorem D_335_466 : decode J_335.2.2.1 466 = .ok (.aload_n 0, 1) := dzq_42 (by decide +kernel)
theorem D_335_467 : decode J_335.2.2.1 467 = .ok (.getfield 209, 3) := dzq_180 (by decide +kernel)
theorem D_335_470 : decode J_335.2.2.1 470 = .ok (.iload_n 2, 1) := dzq_28 (by decide +kernel)
theorem D_335_471 : decode J_335.2.2.1 471 = .ok (.aload_n 0, 1) := dzq_42 (by decide +kernel)
theorem D_335_472 : decode J_335.2.2.1 472 = .ok (.getfield 209, 3) := dzq_180 (by decide +kernel)
theorem D_335_475 : decode J_335.2.2.1 475 = .ok (.iload_n 2, 1) := dzq_28 (by decide +kernel)
theorem D_335_476 : decode J_335.2.2.1 476 = .ok (.baload, 1) := dzq_51 (by decide +kernel)
theorem D_335_477 : decode J_335.2.2.1 477 = .ok (.ifCond .eq 20, 3) := dzq_153 (by decide +kernel)
theorem D_335_480 : decode J_335.2.2.1 480 = .ok (.aload_n 0, 1) := dzq_42 (by decide +kernel)
theorem D_335_481 : decode J_335.2.2.1 481 = .ok (.getfield 206, 3) := dzq_180 (by decide +kernel)
theorem D_335_484 : decode J_335.2.2.1 484 = .ok (.iload_n 2, 1) := dzq_28 (by decide +kernel)
theorem D_335_485 : decode J_335.2.2.1 485 = .ok (.iaload, 1) := dzq_46 (by decide +kernel)
theorem D_335_486 : decode J_335.2.2.1 486 = .ok (.aload_n 0, 1) := dzq_42 (by decide +kernel)
theorem D_335_487 : decode J_335.2.2.1 487 = .ok (.getfield 588, 3) := dzq_180 (by decide +kernel)
theorem D_335_490 : decode J_335.2.2.1 490 = .ok (.if_icmp .eq 7, 3) := dzq_159 (by decide +kernel)
theorem D_335_493 : decode J_335.2.2.1 493 = .ok (.iconst 1, 1) := dzq_4 (by decide +kernel)
theorem D_335_494 : decode J_335.2.2.1 494 = .ok (.goto 4, 3) := dzq_167 (by decide +kernel)
theorem D_335_497 : decode J_335.2.2.1 497 = .ok (.iconst 0, 1) := dzq_3 (by decide +kernel)
theorem D_335_498 : decode J_335.2.2.1 498 = .ok (.bastore, 1) := by decide +kernel
theorem D_335_499 : decode J_335.2.2.1 499 = .ok (.iinc 2 1, 3) := dzq_132 (by decide +kernel)
theorem D_335_502 : decode J_335.2.2.1 502 = .ok (.goto (-44), 3) := dzq_167 (by decide +kernel)
theorem D_335_505 : decode J_335.2.2.1 505 = .ok (.aload_n 0, 1) := dzq_42 (by decide +kernel)
theorem D_335_506 : decode J_335.2.2.1 506 = .ok (.dup, 1) := dzq_89 (by decide +kernel)
theorem D_335_507 : decode J_335.2.2.1 507 = .ok (.getfield 588, 3) := dzq_180 (by decide +kernel)
theorem D_335_510 : decode J_335.2.2.1 510 = .ok (.iconst 1, 1) := dzq_4 (by decide +kernel)
theorem D_335_511 : decode J_335.2.2.1 511 = .ok (.isub, 1) := dzq_100 (by decide +kernel)
theorem D_335_512 : decode J_335.2.2.1 512 = .ok (.putfield 588, 3) := dzq_181 (by decide +kernel)
theorem D_335_515 : decode J_335.2.2.1 515 = .ok (.goto 3, 3) := dzq_167 (by decide +kernel)
theorem D_335_518 : decode J_335.2.2.1 518 = .ok (.return_, 1) := dzq_177 (by decide +kernel)
def P_335_99 (X : mjX) (d C S kc ks : Nat) (k : Nat → Int32 → mjH → mjU) : Prop := ∀ (l0 : Nat) (l1 : Int32) (hp : mjH) (q : Option Value × mjH), k l0 l1 hp = some q → mjG X d C S J_335 (mjEq q) 99 [some (.ref l0), some (.int l1), none] [] hp kc ks
def P_335_68 (X : mjX) (d C S kc ks : Nat) (k : Nat → Int32 → mjH → mjU) : Prop := ∀ (l0 : Nat) (l1 : Int32) (hp : mjH) (q : Option Value × mjH), k l0 l1 hp = some q → mjG X d C S J_335 (mjEq q) 68 [some (.ref l0), some (.int l1), none] [] hp kc ks
def P_335_184 (X : mjX) (d C S kc ks : Nat) (k : Nat → Int32 → mjH → mjU) : Prop := ∀ (l0 : Nat) (l1 : Int32) (hp : mjH) (q : Option Value × mjH), k l0 l1 hp = some q → mjG X d C S J_335 (mjEq q) 184 [some (.ref l0), some (.int l1), none] [] hp kc ks
def P_335_296 (X : mjX) (d C S kc ks : Nat) (k : Nat → Int32 → mjH → mjU) : Prop := ∀ (l0 : Nat) (l1 : Int32) (hp : mjH) (q : Option Value × mjH), k l0 l1 hp = some q → mjG X d C S J_335 (mjEq q) 296 [some (.ref l0), some (.int l1), none] [] hp kc ks
def P_335_348 (X : mjX) (d C S kc ks : Nat) (k : Nat → mjH → mjU) : Prop := ∀ (l0 : Nat) (hp : mjH) (q : Option Value × mjH), k l0 hp = some q → mjG X d C S J_335 (mjEq q) 348 [some (.ref l0), none, none] [] hp kc ks
def P_335_321 (X : mjX) (d C S kc ks : Nat) (k : Nat → Int32 → mjH → mjU) : Prop := ∀ (l0 : Nat) (l1 : Int32) (hp : mjH) (q : Option Value × mjH), k l0 l1 hp = some q → mjG X d C S J_335 (mjEq q) 321 [some (.ref l0), some (.int l1), none] [] hp kc ks
def P_335_498 (X : mjX) (d C S kc ks : Nat) (k : Nat → Int32 → Nat → Int32 → Int32 → mjH → mjU) : Prop := ∀ (l0 : Nat) (l2 : Int32) (s0 : Nat) (s1 : Int32) (s2 : Int32) (hp : mjH) (q : Option Value × mjH), k l0 l2 s0 s1 s2 hp = some q → mjG X d C S J_335 (mjEq q) 498 [some (.ref l0), none, some (.int l2)] [.int s2, .int s1, .ref s0] hp kc ks
def P_335_497 (X : mjX) (d C S kc ks : Nat) (k : Nat → Int32 → Nat → Int32 → mjH → mjU) : Prop := ∀ (l0 : Nat) (l2 : Int32) (s0 : Nat) (s1 : Int32) (hp : mjH) (q : Option Value × mjH), k l0 l2 s0 s1 hp = some q → mjG X d C S J_335 (mjEq q) 497 [some (.ref l0), none, some (.int l2)] [.int s1, .ref s0] hp kc ks
def P_335_458 (X : mjX) (d C S kc ks : Nat) (k : Nat → Int32 → mjH → mjU) : Prop := ∀ (l0 : Nat) (l2 : Int32) (hp : mjH) (q : Option Value × mjH), k l0 l2 hp = some q → mjG X d C S J_335 (mjEq q) 458 [some (.ref l0), none, some (.int l2)] [] hp kc ks
def P_335_417 (X : mjX) (d C S kc ks : Nat) (k : Nat → mjH → mjU) : Prop := ∀ (l0 : Nat) (hp : mjH) (q : Option Value × mjH), k l0 hp = some q → mjG X d C S J_335 (mjEq q) 417 [some (.ref l0), none, none] [] hp kc ks
def P_335_383 (X : mjX) (d C S kc ks : Nat) (k : Nat → Int32 → Nat → Int32 → mjH → mjU) : Prop := ∀ (l0 : Nat) (l1 : Int32) (s0 : Nat) (s1 : Int32) (hp : mjH) (q : Option Value × mjH), k l0 l1 s0 s1 hp = some q → mjG X d C S J_335 (mjEq q) 383 [some (.ref l0), some (.int l1), none] [.int s1, .ref s0] hp kc ks
def P_335_0 (X : mjX) (d C S kc ks : Nat) (k : Nat → Int32 → mjH → mjU) : Prop := ∀ (l0 : Nat) (l1 : Int32) (hp : mjH) (q : Option Value × mjH), k l0 l1 hp = some q → mjG X d C S J_335 (mjEq q) 0 [some (.ref l0), some (.int l1), none] [] hp kc ks
noncomputable def b_335_99 (R : mjR) (l0 : Nat) (l1 : Int32) (hp : mjH) : mjU := gR hp l0 12 56 (fun v1 => gR hp l0 12 56 (fun v2 => gI hp l0 12 63 (fun v3 => gR hp l0 12 56 (fun v4 => aI hp v4 l1 (fun v5 => aI hp v2 (((5000 : Int32) * v3) + v5) (fun v6 => sI hp v1 l1 v6 (fun hp7 => gI hp7 l0 12 82 (fun v8 => pI hp7 l0 12 82 (v8 - (2 : Int32)) (fun hp9 => some (none, hp9))))))))))
theorem t_335_99 {X : mjX} {d C S kc ks : Nat} {R : mjR} (hR : mjC R d) (h1 : kc ≤ C) (h2 : ks ≤ S) : P_335_99 X (d + 1) C S kc ks (b_335_99 R) := by
  intro l0 l1 hp q h
  unfold b_335_99 at h
  refine mjr_aload_n (x := l0) D_335_99 rfl ?_
  refine mjq_gR D_335_100 fr_12_154 h (fun v1 h => ?_)
  refine mjr_iload_n (x := l1) D_335_103 rfl ?_
  refine mjr_aload_n (x := l0) D_335_104 rfl ?_
  refine mjq_gR D_335_105 fr_12_154 h (fun v2 h => ?_)
  refine mjq_si (v := (5000 : Int32)) D_335_108 rfl ?_
  refine mjr_aload_n (x := l0) D_335_111 rfl ?_
  refine mjq_gI D_335_112 fr_12_356 h (fun v3 h => ?_)
  refine mjr_imul D_335_115 ?_
  refine mjr_aload_n (x := l0) D_335_116 rfl ?_
  refine mjq_gR D_335_117 fr_12_154 h (fun v4 h => ?_)
  refine mjr_iload_n (x := l1) D_335_120 rfl ?_
  refine mjq_aI D_335_121 h (fun v5 h => ?_)
  refine mjr_iadd D_335_122 ?_
  refine mjq_aI D_335_123 h (fun v6 h => ?_)
  refine mjq_sI D_335_124 h (fun hp7 h => ?_)
  refine mjr_aload_n (x := l0) D_335_125 rfl ?_
  refine mjr_dup D_335_126 rfl ?_
  refine mjq_gI D_335_127 fr_12_567 h (fun v8 h => ?_)
  refine mjq_ic (v := (2 : Int32)) D_335_130 rfl ?_
  refine mjr_isub D_335_131 ?_
  refine mjq_pI D_335_132 fr_12_567 rfl rfl h (fun hp9 h => ?_)
  refine mjr_goto (tgt := 518) D_335_135 rfl ?_
  exact mjq_nret D_335_518 rfl h1 h2 h
noncomputable def b_335_68 (R : mjR) (l0 : Nat) (l1 : Int32) (hp : mjH) : mjU := gI hp l0 12 82 (fun v1 => gI hp l0 12 82 (fun v2 => rV hp l0 12 (bI (R 334 [.ref l0, .int (v1 - (1 : Int32)), .int (v2 - (2 : Int32))] hp) (fun v3 hp4 => (if v3 = 0 then gR hp4 l0 12 55 (fun v5 => aI hp4 v5 l1 (fun v6 => rV hp4 l0 12 (bN (R 268 [.ref l0, .int (7 : Int32), .int v6] hp4) (fun  hp7 => b_335_99 R l0 l1 hp7)))) else b_335_99 R l0 l1 hp4)))))
theorem t_335_68 {X : mjX} {d C S kc ks : Nat} {R : mjR} (hR : mjC R d) (h1 : kc ≤ C) (h2 : ks ≤ S) : P_335_68 X (d + 1) C S kc ks (b_335_68 R) := by
  intro l0 l1 hp q h
  unfold b_335_68 at h
  refine mjr_aload_n (x := l0) D_335_68 rfl ?_
  refine mjr_aload_n (x := l0) D_335_69 rfl ?_
  refine mjq_gI D_335_70 fr_12_567 h (fun v1 h => ?_)
  refine mjq_ic (v := (1 : Int32)) D_335_73 rfl ?_
  refine mjr_isub D_335_74 ?_
  refine mjr_aload_n (x := l0) D_335_75 rfl ?_
  refine mjq_gI D_335_76 fr_12_567 h (fun v2 h => ?_)
  refine mjq_ic (v := (2 : Int32)) D_335_79 rfl ?_
  refine mjr_isub D_335_80 ?_
  refine mjq_vI (As := [.int (v1 - (1 : Int32)), .int (v2 - (2 : Int32))]) (rest := []) D_335_81 mr_12_621 V_334 rfl rfl rfl hR (Nat.le_refl _) h1 h2 h (fun v3 hp4 h => ?_)
  refine mjq_if_ne (tgt := 99) D_335_84 rfl h (fun h => ?_) (fun h => ?_)
  · exact (t_335_99 hR h1 h2) _ _ _ _ h
  · refine mjr_aload_n (x := l0) D_335_87 rfl ?_
    refine mjq_bi (v := (7 : Int32)) D_335_88 rfl ?_
    refine mjr_aload_n (x := l0) D_335_90 rfl ?_
    refine mjq_gR D_335_91 fr_12_151 h (fun v5 h => ?_)
    refine mjr_iload_n (x := l1) D_335_94 rfl ?_
    refine mjq_aI D_335_95 h (fun v6 h => ?_)
    refine mjq_vN (As := [.int (7 : Int32), .int v6]) (rest := []) D_335_96 mr_12_339 V_268 rfl rfl rfl hR (Nat.le_refl _) h1 h2 h (fun  hp7 h => ?_)
    exact (t_335_99 hR h1 h2) _ _ _ _ h
noncomputable def b_335_184 (R : mjR) (l0 : Nat) (l1 : Int32) (hp : mjH) : mjU := gR hp l0 12 83 (fun v1 => gI hp l0 12 87 (fun v2 => gR hp l0 12 58 (fun v3 => aL hp v3 l1 (fun v4 => sL hp v1 v2 v4 (fun hp5 => gR hp5 l0 12 84 (fun v6 => gI hp5 l0 12 87 (fun v7 => gR hp5 l0 12 56 (fun v8 => aI hp5 v8 l1 (fun v9 => sI hp5 v6 v7 v9 (fun hp10 => gR hp10 l0 12 85 (fun v11 => gI hp10 l0 12 87 (fun v12 => gI hp10 l0 12 88 (fun v13 => sI hp10 v11 v12 v13 (fun hp14 => gR hp14 l0 12 86 (fun v15 => gI hp14 l0 12 87 (fun v16 => sB hp14 v15 v16 (0 : Int32) (fun hp17 => gI hp17 l0 12 87 (fun v18 => pI hp17 l0 12 87 (v18 + (1 : Int32)) (fun hp19 => some (none, hp19))))))))))))))))))))
theorem t_335_184 {X : mjX} {d C S kc ks : Nat} {R : mjR} (hR : mjC R d) (h1 : kc ≤ C) (h2 : ks ≤ S) : P_335_184 X (d + 1) C S kc ks (b_335_184 R) := by
  intro l0 l1 hp q h
  unfold b_335_184 at h
  refine mjr_aload_n (x := l0) D_335_184 rfl ?_
  refine mjq_gR D_335_185 fr_12_200 h (fun v1 h => ?_)
  refine mjr_aload_n (x := l0) D_335_188 rfl ?_
  refine mjq_gI D_335_189 fr_12_585 h (fun v2 h => ?_)
  refine mjr_aload_n (x := l0) D_335_192 rfl ?_
  refine mjq_gR D_335_193 fr_12_160 h (fun v3 h => ?_)
  refine mjr_iload_n (x := l1) D_335_196 rfl ?_
  refine mjq_aL D_335_197 h (fun v4 h => ?_)
  refine mjq_sL D_335_198 h (fun hp5 h => ?_)
  refine mjr_aload_n (x := l0) D_335_199 rfl ?_
  refine mjq_gR D_335_200 fr_12_203 h (fun v6 h => ?_)
  refine mjr_aload_n (x := l0) D_335_203 rfl ?_
  refine mjq_gI D_335_204 fr_12_585 h (fun v7 h => ?_)
  refine mjr_aload_n (x := l0) D_335_207 rfl ?_
  refine mjq_gR D_335_208 fr_12_154 h (fun v8 h => ?_)
  refine mjr_iload_n (x := l1) D_335_211 rfl ?_
  refine mjq_aI D_335_212 h (fun v9 h => ?_)
  refine mjq_sI D_335_213 h (fun hp10 h => ?_)
  refine mjr_aload_n (x := l0) D_335_214 rfl ?_
  refine mjq_gR D_335_215 fr_12_206 h (fun v11 h => ?_)
  refine mjr_aload_n (x := l0) D_335_218 rfl ?_
  refine mjq_gI D_335_219 fr_12_585 h (fun v12 h => ?_)
  refine mjr_aload_n (x := l0) D_335_222 rfl ?_
  refine mjq_gI D_335_223 fr_12_588 h (fun v13 h => ?_)
  refine mjq_sI D_335_226 h (fun hp14 h => ?_)
  refine mjr_aload_n (x := l0) D_335_227 rfl ?_
  refine mjq_gR D_335_228 fr_12_209 h (fun v15 h => ?_)
  refine mjr_aload_n (x := l0) D_335_231 rfl ?_
  refine mjq_gI D_335_232 fr_12_585 h (fun v16 h => ?_)
  refine mjq_ic (v := (0 : Int32)) D_335_235 rfl ?_
  refine mjq_sB D_335_236 h (fun hp17 h => ?_)
  refine mjr_aload_n (x := l0) D_335_237 rfl ?_
  refine mjr_dup D_335_238 rfl ?_
  refine mjq_gI D_335_239 fr_12_585 h (fun v18 h => ?_)
  refine mjq_ic (v := (1 : Int32)) D_335_242 rfl ?_
  refine mjr_iadd D_335_243 ?_
  refine mjq_pI D_335_244 fr_12_585 rfl rfl h (fun hp19 h => ?_)
  refine mjr_goto (tgt := 518) D_335_247 rfl ?_
  exact mjq_nret D_335_518 rfl h1 h2 h
noncomputable def b_335_296 (R : mjR) (l0 : Nat) (l1 : Int32) (hp : mjH) : mjU := gR hp l0 12 86 (fun v1 => gR hp l0 12 56 (fun v2 => aI hp v2 l1 (fun v3 => sB hp v1 v3 (1 : Int32) (fun hp4 => gI hp4 l0 12 82 (fun v5 => pI hp4 l0 12 82 (v5 - (2 : Int32)) (fun hp6 => some (none, hp6)))))))
theorem t_335_296 {X : mjX} {d C S kc ks : Nat} {R : mjR} (hR : mjC R d) (h1 : kc ≤ C) (h2 : ks ≤ S) : P_335_296 X (d + 1) C S kc ks (b_335_296 R) := by
  intro l0 l1 hp q h
  unfold b_335_296 at h
  refine mjr_aload_n (x := l0) D_335_296 rfl ?_
  refine mjq_gR D_335_297 fr_12_209 h (fun v1 h => ?_)
  refine mjr_aload_n (x := l0) D_335_300 rfl ?_
  refine mjq_gR D_335_301 fr_12_154 h (fun v2 h => ?_)
  refine mjr_iload_n (x := l1) D_335_304 rfl ?_
  refine mjq_aI D_335_305 h (fun v3 h => ?_)
  refine mjq_ic (v := (1 : Int32)) D_335_306 rfl ?_
  refine mjq_sB D_335_307 h (fun hp4 h => ?_)
  refine mjr_aload_n (x := l0) D_335_308 rfl ?_
  refine mjr_dup D_335_309 rfl ?_
  refine mjq_gI D_335_310 fr_12_567 h (fun v5 h => ?_)
  refine mjq_ic (v := (2 : Int32)) D_335_313 rfl ?_
  refine mjr_isub D_335_314 ?_
  refine mjq_pI D_335_315 fr_12_567 rfl rfl h (fun hp6 h => ?_)
  refine mjr_goto (tgt := 518) D_335_318 rfl ?_
  exact mjq_nret D_335_518 rfl h1 h2 h
noncomputable def b_335_348 (R : mjR) (l0 : Nat) (hp : mjH) : mjU := gI hp l0 12 82 (fun v1 => pI hp l0 12 82 (v1 - (1 : Int32)) (fun hp2 => some (none, hp2)))
theorem t_335_348 {X : mjX} {d C S kc ks : Nat} {R : mjR} (hR : mjC R d) (h1 : kc ≤ C) (h2 : ks ≤ S) : P_335_348 X (d + 1) C S kc ks (b_335_348 R) := by
  intro l0 hp q h
  unfold b_335_348 at h
  refine mjr_aload_n (x := l0) D_335_348 rfl ?_
  refine mjr_dup D_335_349 rfl ?_
  refine mjq_gI D_335_350 fr_12_567 h (fun v1 h => ?_)
  refine mjq_ic (v := (1 : Int32)) D_335_353 rfl ?_
  refine mjr_isub D_335_354 ?_
  refine mjq_pI D_335_355 fr_12_567 rfl rfl h (fun hp2 h => ?_)
  refine mjr_goto (tgt := 518) D_335_358 rfl ?_
  exact mjq_nret D_335_518 rfl h1 h2 h
noncomputable def b_335_321 (R : mjR) (l0 : Nat) (l1 : Int32) (hp : mjH) : mjU := gR hp l0 12 79 (fun v1 => gI hp l0 12 82 (fun v2 => aI hp v1 (v2 - (1 : Int32)) (fun v3 => (if v3 = (-1 : Int32) then b_335_348 R l0 hp else gR hp l0 12 55 (fun v4 => aI hp v4 l1 (fun v5 => rV hp l0 12 (bN (R 268 [.ref l0, .int (7 : Int32), .int v5] hp) (fun  hp6 => b_335_348 R l0 hp6))))))))
theorem t_335_321 {X : mjX} {d C S kc ks : Nat} {R : mjR} (hR : mjC R d) (h1 : kc ≤ C) (h2 : ks ≤ S) : P_335_321 X (d + 1) C S kc ks (b_335_321 R) := by
  intro l0 l1 hp q h
  unfold b_335_321 at h
  refine mjr_aload_n (x := l0) D_335_321 rfl ?_
  refine mjq_gR D_335_322 fr_12_191 h (fun v1 h => ?_)
  refine mjr_aload_n (x := l0) D_335_325 rfl ?_
  refine mjq_gI D_335_326 fr_12_567 h (fun v2 h => ?_)
  refine mjq_ic (v := (1 : Int32)) D_335_329 rfl ?_
  refine mjr_isub D_335_330 ?_
  refine mjq_aI D_335_331 h (fun v3 h => ?_)
  refine mjq_ic (v := (-1 : Int32)) D_335_332 rfl ?_
  refine mjq_icmp_eq (tgt := 348) D_335_333 rfl h (fun h => ?_) (fun h => ?_)
  · exact mjG.fg (lo' := [some (.ref l0), none, none]) (And.intro rfl True.intro) ((t_335_348 hR h1 h2) _ _ _ h)
  · refine mjr_aload_n (x := l0) D_335_336 rfl ?_
    refine mjq_bi (v := (7 : Int32)) D_335_337 rfl ?_
    refine mjr_aload_n (x := l0) D_335_339 rfl ?_
    refine mjq_gR D_335_340 fr_12_151 h (fun v4 h => ?_)
    refine mjr_iload_n (x := l1) D_335_343 rfl ?_
    refine mjq_aI D_335_344 h (fun v5 h => ?_)
    refine mjq_vN (As := [.int (7 : Int32), .int v5]) (rest := []) D_335_345 mr_12_339 V_268 rfl rfl rfl hR (Nat.le_refl _) h1 h2 h (fun  hp6 h => ?_)
    exact mjG.fg (lo' := [some (.ref l0), none, none]) (And.intro rfl True.intro) ((t_335_348 hR h1 h2) _ _ _ h)
noncomputable def b_335_498 (R : mjR) (k458 : Nat → Int32 → mjH → mjU) (l0 : Nat) (l2 : Int32) (s0 : Nat) (s1 : Int32) (s2 : Int32) (hp : mjH) : mjU := sB hp s0 s1 s2 (fun hp1 => k458 l0 (l2 + (1 : Int32)) hp1)
theorem t_335_498 {X : mjX} {d C S kc ks : Nat} {R : mjR} (hR : mjC R d) (h1 : kc ≤ C) (h2 : ks ≤ S) {k458 : Nat → Int32 → mjH → mjU} (hk458 : P_335_458 X (d + 1) C S kc ks k458) : P_335_498 X (d + 1) C S kc ks (b_335_498 R k458) := by
  intro l0 l2 s0 s1 s2 hp q h
  unfold b_335_498 at h
  refine mjq_sB D_335_498 h (fun hp1 h => ?_)
  refine mjq_iinc (x := l2) (c := (1 : Int32)) (lo' := [some (.ref l0), none, some (.int (l2 + (1 : Int32)))]) D_335_499 rfl (Nat.le_of_ble_eq_true rfl) rfl rfl ?_
  refine mjr_goto (tgt := 458) D_335_502 rfl ?_
  exact hk458 _ _ _ _ h
noncomputable def b_335_497 (R : mjR) (k458 : Nat → Int32 → mjH → mjU) (l0 : Nat) (l2 : Int32) (s0 : Nat) (s1 : Int32) (hp : mjH) : mjU := b_335_498 R k458 l0 l2 s0 s1 (0 : Int32) hp
theorem t_335_497 {X : mjX} {d C S kc ks : Nat} {R : mjR} (hR : mjC R d) (h1 : kc ≤ C) (h2 : ks ≤ S) {k458 : Nat → Int32 → mjH → mjU} (hk458 : P_335_458 X (d + 1) C S kc ks k458) : P_335_497 X (d + 1) C S kc ks (b_335_497 R k458) := by
  intro l0 l2 s0 s1 hp q h
  unfold b_335_497 at h
  refine mjq_ic (v := (0 : Int32)) D_335_497 rfl ?_
  exact (t_335_498 hR h1 h2 hk458) _ _ _ _ _ _ _ h
noncomputable def b_335_458 (R : mjR) (k458 : Nat → Int32 → mjH → mjU) (l0 : Nat) (l2 : Int32) (hp : mjH) : mjU := gI hp l0 12 87 (fun v1 => (if v1 ≤ l2 then gI hp l0 12 88 (fun v2 => pI hp l0 12 88 (v2 - (1 : Int32)) (fun hp3 => some (none, hp3))) else gR hp l0 12 86 (fun v4 => gR hp l0 12 86 (fun v5 => aB hp v5 l2 (fun v6 => (if v6 = 0 then b_335_497 R k458 l0 l2 v4 l2 hp else gR hp l0 12 85 (fun v7 => aI hp v7 l2 (fun v8 => gI hp l0 12 88 (fun v9 => (if v8 = v9 then b_335_497 R k458 l0 l2 v4 l2 hp else b_335_498 R k458 l0 l2 v4 l2 (1 : Int32) hp))))))))))
theorem t_335_458 {X : mjX} {d C S kc ks : Nat} {R : mjR} (hR : mjC R d) (h1 : kc ≤ C) (h2 : ks ≤ S) {k458 : Nat → Int32 → mjH → mjU} (hk458 : P_335_458 X (d + 1) C S kc ks k458) : P_335_458 X (d + 1) C S kc ks (b_335_458 R k458) := by
  intro l0 l2 hp q h
  unfold b_335_458 at h
  refine mjr_iload_n (x := l2) D_335_458 rfl ?_
  refine mjr_aload_n (x := l0) D_335_459 rfl ?_
  refine mjq_gI D_335_460 fr_12_585 h (fun v1 h => ?_)
  refine mjq_icmp_ge (tgt := 505) D_335_463 rfl h (fun h => ?_) (fun h => ?_)
  · refine mjr_aload_n (x := l0) D_335_505 rfl ?_
    refine mjr_dup D_335_506 rfl ?_
    refine mjq_gI D_335_507 fr_12_588 h (fun v2 h => ?_)
    refine mjq_ic (v := (1 : Int32)) D_335_510 rfl ?_
    refine mjr_isub D_335_511 ?_
    refine mjq_pI D_335_512 fr_12_588 rfl rfl h (fun hp3 h => ?_)
    refine mjr_goto (tgt := 518) D_335_515 rfl ?_
    exact mjq_nret D_335_518 rfl h1 h2 h
  · refine mjr_aload_n (x := l0) D_335_466 rfl ?_
    refine mjq_gR D_335_467 fr_12_209 h (fun v4 h => ?_)
    refine mjr_iload_n (x := l2) D_335_470 rfl ?_
    refine mjr_aload_n (x := l0) D_335_471 rfl ?_
    refine mjq_gR D_335_472 fr_12_209 h (fun v5 h => ?_)
    refine mjr_iload_n (x := l2) D_335_475 rfl ?_
    refine mjq_aB D_335_476 h (fun v6 h => ?_)
    refine mjq_if_eq (tgt := 497) D_335_477 rfl h (fun h => ?_) (fun h => ?_)
    · exact (t_335_497 hR h1 h2 hk458) _ _ _ _ _ _ h
    · refine mjr_aload_n (x := l0) D_335_480 rfl ?_
      refine mjq_gR D_335_481 fr_12_206 h (fun v7 h => ?_)
      refine mjr_iload_n (x := l2) D_335_484 rfl ?_
      refine mjq_aI D_335_485 h (fun v8 h => ?_)
      refine mjr_aload_n (x := l0) D_335_486 rfl ?_
      refine mjq_gI D_335_487 fr_12_588 h (fun v9 h => ?_)
      refine mjq_icmp_eq (tgt := 497) D_335_490 rfl h (fun h => ?_) (fun h => ?_)
      · exact (t_335_497 hR h1 h2 hk458) _ _ _ _ _ _ h
      · refine mjq_ic (v := (1 : Int32)) D_335_493 rfl ?_
        refine mjr_goto (tgt := 498) D_335_494 rfl ?_
        exact (t_335_498 hR h1 h2 hk458) _ _ _ _ _ _ _ h
noncomputable def L_335_458 (R : mjR) (n : Nat) : Nat → Int32 → mjH → mjU := Nat.rec (motive := fun _ => Nat → Int32 → mjH → mjU) (fun _ _ _ => none) (fun _ self => b_335_458 R self) n
theorem T_335_458 {X : mjX} {d C S kc ks : Nat} {R : mjR} (hR : mjC R d) (h1 : kc ≤ C) (h2 : ks ≤ S) (n : Nat) : P_335_458 X (d + 1) C S kc ks (L_335_458 R n) := by
  induction n with
  | zero => intro _ _ _ _ h; exact mj_no h
  | succ n ih => exact t_335_458 hR h1 h2 ih
noncomputable def b_335_417 (R : mjR) (l0 : Nat) (hp : mjH) : mjU := gI hp l0 12 82 (fun v1 => pI hp l0 12 82 (v1 - (2 : Int32)) (fun hp2 => some (none, hp2)))
theorem t_335_417 {X : mjX} {d C S kc ks : Nat} {R : mjR} (hR : mjC R d) (h1 : kc ≤ C) (h2 : ks ≤ S) : P_335_417 X (d + 1) C S kc ks (b_335_417 R) := by
  intro l0 hp q h
  unfold b_335_417 at h
  refine mjr_aload_n (x := l0) D_335_417 rfl ?_
  refine mjr_dup D_335_418 rfl ?_
  refine mjq_gI D_335_419 fr_12_567 h (fun v1 h => ?_)
  refine mjq_ic (v := (2 : Int32)) D_335_422 rfl ?_
  refine mjr_isub D_335_423 ?_
  refine mjq_pI D_335_424 fr_12_567 rfl rfl h (fun hp2 h => ?_)
  refine mjr_goto (tgt := 518) D_335_427 rfl ?_
  exact mjq_nret D_335_518 rfl h1 h2 h
noncomputable def b_335_383 (R : mjR) (l0 : Nat) (l1 : Int32) (s0 : Nat) (s1 : Int32) (hp : mjH) : mjU := rV hp s0 12 (bN (R 326 [.ref s0, .int s1] hp) (fun  hp1 => gI hp1 l0 12 82 (fun v2 => gI hp1 l0 12 82 (fun v3 => rV hp1 l0 12 (bI (R 334 [.ref l0, .int (v2 - (2 : Int32)), .int (v3 - (1 : Int32))] hp1) (fun v4 hp5 => (if v4 = 0 then gR hp5 l0 12 55 (fun v6 => aI hp5 v6 l1 (fun v7 => rV hp5 l0 12 (bN (R 268 [.ref l0, .int (7 : Int32), .int v7] hp5) (fun  hp8 => b_335_417 R l0 hp8)))) else b_335_417 R l0 hp5)))))))
theorem t_335_383 {X : mjX} {d C S kc ks : Nat} {R : mjR} (hR : mjC R d) (h1 : kc ≤ C) (h2 : ks ≤ S) : P_335_383 X (d + 1) C S kc ks (b_335_383 R) := by
  intro l0 l1 s0 s1 hp q h
  unfold b_335_383 at h
  refine mjq_vN (As := [.int s1]) (rest := []) D_335_383 mr_12_573 V_326 rfl rfl rfl hR (Nat.le_refl _) h1 h2 h (fun  hp1 h => ?_)
  refine mjr_aload_n (x := l0) D_335_386 rfl ?_
  refine mjr_aload_n (x := l0) D_335_387 rfl ?_
  refine mjq_gI D_335_388 fr_12_567 h (fun v2 h => ?_)
  refine mjq_ic (v := (2 : Int32)) D_335_391 rfl ?_
  refine mjr_isub D_335_392 ?_
  refine mjr_aload_n (x := l0) D_335_393 rfl ?_
  refine mjq_gI D_335_394 fr_12_567 h (fun v3 h => ?_)
  refine mjq_ic (v := (1 : Int32)) D_335_397 rfl ?_
  refine mjr_isub D_335_398 ?_
  refine mjq_vI (As := [.int (v2 - (2 : Int32)), .int (v3 - (1 : Int32))]) (rest := []) D_335_399 mr_12_621 V_334 rfl rfl rfl hR (Nat.le_refl _) h1 h2 h (fun v4 hp5 h => ?_)
  refine mjq_if_ne (tgt := 417) D_335_402 rfl h (fun h => ?_) (fun h => ?_)
  · exact mjG.fg (lo' := [some (.ref l0), none, none]) (And.intro rfl True.intro) ((t_335_417 hR h1 h2) _ _ _ h)
  · refine mjr_aload_n (x := l0) D_335_405 rfl ?_
    refine mjq_bi (v := (7 : Int32)) D_335_406 rfl ?_
    refine mjr_aload_n (x := l0) D_335_408 rfl ?_
    refine mjq_gR D_335_409 fr_12_151 h (fun v6 h => ?_)
    refine mjr_iload_n (x := l1) D_335_412 rfl ?_
    refine mjq_aI D_335_413 h (fun v7 h => ?_)
    refine mjq_vN (As := [.int (7 : Int32), .int v7]) (rest := []) D_335_414 mr_12_339 V_268 rfl rfl rfl hR (Nat.le_refl _) h1 h2 h (fun  hp8 h => ?_)
    exact mjG.fg (lo' := [some (.ref l0), none, none]) (And.intro rfl True.intro) ((t_335_417 hR h1 h2) _ _ _ h)
noncomputable def b_335_0 (R : mjR) (l0 : Nat) (l1 : Int32) (hp : mjH) : mjU := gR hp l0 12 54 (fun v1 => aI hp v1 l1 (fun v2 => (if v2 = (17 : Int32) then b_335_68 R l0 l1 hp else if v2 = (18 : Int32) then b_335_68 R l0 l1 hp else if v2 = (19 : Int32) then gR hp l0 12 56 (fun v6 => aI hp v6 l1 (fun v7 => gI hp l0 12 132 (fun v8 => rV hp l0 12 (bN (R 313 [.ref l0, .int v7, .int v8] hp) (fun  hp9 => gI hp9 l0 12 61 (fun v10 => (if v10 = 0 then gR hp9 l0 12 58 (fun v11 => aL hp9 v11 l1 (fun v12 => rV hp9 l0 12 (bI (R 325 [.ref l0, .long v12] hp9) (fun v13 hp14 => (if v13 = (-1 : Int32) then b_335_184 R l0 l1 hp14 else gR hp14 l0 12 55 (fun v15 => aI hp14 v15 l1 (fun v16 => rV hp14 l0 12 (bN (R 268 [.ref l0, .int (4 : Int32), .int v16] hp14) (fun  hp17 => b_335_184 R l0 l1 hp17))))))))) else b_335_184 R l0 l1 hp9))))))) else if v2 = (20 : Int32) then gR hp l0 12 84 (fun v19 => gR hp l0 12 56 (fun v20 => aI hp v20 l1 (fun v21 => aI hp v19 v21 (fun v22 => rV hp l0 12 (bN (R 326 [.ref l0, .int v22] hp) (fun  hp23 => gI hp23 l0 12 82 (fun v24 => gI hp23 l0 12 82 (fun v25 => rV hp23 l0 12 (bI (R 334 [.ref l0, .int (v24 - (2 : Int32)), .int (v25 - (1 : Int32))] hp23) (fun v26 hp27 => (if v26 = 0 then gR hp27 l0 12 55 (fun v28 => aI hp27 v28 l1 (fun v29 => rV hp27 l0 12 (bN (R 268 [.ref l0, .int (7 : Int32), .int v29] hp27) (fun  hp30 => b_335_296 R l0 l1 hp30)))) else b_335_296 R l0 l1 hp27))))))))))) else if v2 = (21 : Int32) then b_335_321 R l0 l1 hp else if v2 = (22 : Int32) then some (none, hp) else if v2 = (23 : Int32) then some (none, hp) else if v2 = (24 : Int32) then b_335_321 R l0 l1 hp else if v2 = (25 : Int32) then gI hp l0 12 82 (fun v36 => pI hp l0 12 82 (v36 - (1 : Int32)) (fun hp37 => some (none, hp37))) else if v2 = (26 : Int32) then gI hp l0 12 88 (fun v39 => pI hp l0 12 88 (v39 + (1 : Int32)) (fun hp40 => some (none, hp40))) else if v2 = (27 : Int32) then L_335_458 R mjN l0 (0 : Int32) hp else if v2 = (28 : Int32) then gI hp l0 12 133 (fun v43 => (if v43 = (-1 : Int32) then b_335_383 R l0 l1 l0 (-1 : Int32) hp else gR hp l0 12 37 (fun v44 => gI hp l0 12 133 (fun v45 => aI hp v44 v45 (fun v46 => b_335_383 R l0 l1 l0 v46 hp))))) else some (none, hp))))
theorem t_335_0 {X : mjX} {d C S kc ks : Nat} {R : mjR} (hR : mjC R d) (h1 : kc ≤ C) (h2 : ks ≤ S) : P_335_0 X (d + 1) C S kc ks (b_335_0 R) := by
  intro l0 l1 hp q h
  unfold b_335_0 at h
  refine mjr_aload_n (x := l0) D_335_0 rfl ?_
  refine mjq_gR D_335_1 fr_12_148 h (fun v1 h => ?_)
  refine mjr_iload_n (x := l1) D_335_4 rfl ?_
  refine mjq_aI D_335_5 h (fun v2 h => ?_)
  refine mjq_tsw (c := (17 : Int32)) (tgt := 68) D_335_6 (by decide) (by decide) rfl rfl h (fun h => ?_) (fun n3 h => ?_)
  · exact (t_335_68 hR h1 h2) _ _ _ _ h
  refine mjq_tsw (c := (18 : Int32)) (tgt := 68) D_335_6 (by decide) (by decide) rfl rfl h (fun h => ?_) (fun n4 h => ?_)
  · exact (t_335_68 hR h1 h2) _ _ _ _ h
  refine mjq_tsw (c := (19 : Int32)) (tgt := 138) D_335_6 (by decide) (by decide) rfl rfl h (fun h => ?_) (fun n5 h => ?_)
  · refine mjr_aload_n (x := l0) D_335_138 rfl ?_
    refine mjr_aload_n (x := l0) D_335_139 rfl ?_
    refine mjq_gR D_335_140 fr_12_154 h (fun v6 h => ?_)
    refine mjr_iload_n (x := l1) D_335_143 rfl ?_
    refine mjq_aI D_335_144 h (fun v7 h => ?_)
    refine mjr_aload_n (x := l0) D_335_145 rfl ?_
    refine mjq_gI D_335_146 fr_12_582 h (fun v8 h => ?_)
    refine mjq_vN (As := [.int v7, .int v8]) (rest := []) D_335_149 mr_12_541 V_313 rfl rfl rfl hR (Nat.le_refl _) h1 h2 h (fun  hp9 h => ?_)
    refine mjr_aload_n (x := l0) D_335_152 rfl ?_
    refine mjq_gI D_335_153 fr_12_333 h (fun v10 h => ?_)
    refine mjq_if_ne (tgt := 184) D_335_156 rfl h (fun h => ?_) (fun h => ?_)
    · exact (t_335_184 hR h1 h2) _ _ _ _ h
    · refine mjr_aload_n (x := l0) D_335_159 rfl ?_
      refine mjr_aload_n (x := l0) D_335_160 rfl ?_
      refine mjq_gR D_335_161 fr_12_160 h (fun v11 h => ?_)
      refine mjr_iload_n (x := l1) D_335_164 rfl ?_
      refine mjq_aL D_335_165 h (fun v12 h => ?_)
      refine mjq_vI (As := [.long v12]) (rest := []) D_335_166 mr_12_597 V_325 rfl rfl rfl hR (Nat.le_refl _) h1 h2 h (fun v13 hp14 h => ?_)
      refine mjq_ic (v := (-1 : Int32)) D_335_169 rfl ?_
      refine mjq_icmp_eq (tgt := 184) D_335_170 rfl h (fun h => ?_) (fun h => ?_)
      · exact (t_335_184 hR h1 h2) _ _ _ _ h
      · refine mjr_aload_n (x := l0) D_335_173 rfl ?_
        refine mjq_ic (v := (4 : Int32)) D_335_174 rfl ?_
        refine mjr_aload_n (x := l0) D_335_175 rfl ?_
        refine mjq_gR D_335_176 fr_12_151 h (fun v15 h => ?_)
        refine mjr_iload_n (x := l1) D_335_179 rfl ?_
        refine mjq_aI D_335_180 h (fun v16 h => ?_)
        refine mjq_vN (As := [.int (4 : Int32), .int v16]) (rest := []) D_335_181 mr_12_339 V_268 rfl rfl rfl hR (Nat.le_refl _) h1 h2 h (fun  hp17 h => ?_)
        exact (t_335_184 hR h1 h2) _ _ _ _ h
  refine mjq_tsw (c := (20 : Int32)) (tgt := 250) D_335_6 (by decide) (by decide) rfl rfl h (fun h => ?_) (fun n18 h => ?_)
  · refine mjr_aload_n (x := l0) D_335_250 rfl ?_
    refine mjr_aload_n (x := l0) D_335_251 rfl ?_
    refine mjq_gR D_335_252 fr_12_203 h (fun v19 h => ?_)
    refine mjr_aload_n (x := l0) D_335_255 rfl ?_
    refine mjq_gR D_335_256 fr_12_154 h (fun v20 h => ?_)
    refine mjr_iload_n (x := l1) D_335_259 rfl ?_
    refine mjq_aI D_335_260 h (fun v21 h => ?_)
    refine mjq_aI D_335_261 h (fun v22 h => ?_)
    refine mjq_vN (As := [.int v22]) (rest := []) D_335_262 mr_12_573 V_326 rfl rfl rfl hR (Nat.le_refl _) h1 h2 h (fun  hp23 h => ?_)
    refine mjr_aload_n (x := l0) D_335_265 rfl ?_
    refine mjr_aload_n (x := l0) D_335_266 rfl ?_
    refine mjq_gI D_335_267 fr_12_567 h (fun v24 h => ?_)
    refine mjq_ic (v := (2 : Int32)) D_335_270 rfl ?_
    refine mjr_isub D_335_271 ?_
    refine mjr_aload_n (x := l0) D_335_272 rfl ?_
    refine mjq_gI D_335_273 fr_12_567 h (fun v25 h => ?_)
    refine mjq_ic (v := (1 : Int32)) D_335_276 rfl ?_
    refine mjr_isub D_335_277 ?_
    refine mjq_vI (As := [.int (v24 - (2 : Int32)), .int (v25 - (1 : Int32))]) (rest := []) D_335_278 mr_12_621 V_334 rfl rfl rfl hR (Nat.le_refl _) h1 h2 h (fun v26 hp27 h => ?_)
    refine mjq_if_ne (tgt := 296) D_335_281 rfl h (fun h => ?_) (fun h => ?_)
    · exact (t_335_296 hR h1 h2) _ _ _ _ h
    · refine mjr_aload_n (x := l0) D_335_284 rfl ?_
      refine mjq_bi (v := (7 : Int32)) D_335_285 rfl ?_
      refine mjr_aload_n (x := l0) D_335_287 rfl ?_
      refine mjq_gR D_335_288 fr_12_151 h (fun v28 h => ?_)
      refine mjr_iload_n (x := l1) D_335_291 rfl ?_
      refine mjq_aI D_335_292 h (fun v29 h => ?_)
      refine mjq_vN (As := [.int (7 : Int32), .int v29]) (rest := []) D_335_293 mr_12_339 V_268 rfl rfl rfl hR (Nat.le_refl _) h1 h2 h (fun  hp30 h => ?_)
      exact (t_335_296 hR h1 h2) _ _ _ _ h
  refine mjq_tsw (c := (21 : Int32)) (tgt := 321) D_335_6 (by decide) (by decide) rfl rfl h (fun h => ?_) (fun n31 h => ?_)
  · exact (t_335_321 hR h1 h2) _ _ _ _ h
  refine mjq_tsw (c := (22 : Int32)) (tgt := 518) D_335_6 (by decide) (by decide) rfl rfl h (fun h => ?_) (fun n32 h => ?_)
  · exact mjq_nret D_335_518 rfl h1 h2 h
  refine mjq_tsw (c := (23 : Int32)) (tgt := 518) D_335_6 (by decide) (by decide) rfl rfl h (fun h => ?_) (fun n33 h => ?_)
  · exact mjq_nret D_335_518 rfl h1 h2 h
  refine mjq_tsw (c := (24 : Int32)) (tgt := 321) D_335_6 (by decide) (by decide) rfl rfl h (fun h => ?_) (fun n34 h => ?_)
  · exact (t_335_321 hR h1 h2) _ _ _ _ h
  refine mjq_tsw (c := (25 : Int32)) (tgt := 430) D_335_6 (by decide) (by decide) rfl rfl h (fun h => ?_) (fun n35 h => ?_)
  · refine mjr_aload_n (x := l0) D_335_430 rfl ?_
    refine mjr_dup D_335_431 rfl ?_
    refine mjq_gI D_335_432 fr_12_567 h (fun v36 h => ?_)
    refine mjq_ic (v := (1 : Int32)) D_335_435 rfl ?_
    refine mjr_isub D_335_436 ?_
    refine mjq_pI D_335_437 fr_12_567 rfl rfl h (fun hp37 h => ?_)
    refine mjr_goto (tgt := 518) D_335_440 rfl ?_
    exact mjq_nret D_335_518 rfl h1 h2 h
  refine mjq_tsw (c := (26 : Int32)) (tgt := 443) D_335_6 (by decide) (by decide) rfl rfl h (fun h => ?_) (fun n38 h => ?_)
  · refine mjr_aload_n (x := l0) D_335_443 rfl ?_
    refine mjr_dup D_335_444 rfl ?_
    refine mjq_gI D_335_445 fr_12_588 h (fun v39 h => ?_)
    refine mjq_ic (v := (1 : Int32)) D_335_448 rfl ?_
    refine mjr_iadd D_335_449 ?_
    refine mjq_pI D_335_450 fr_12_588 rfl rfl h (fun hp40 h => ?_)
    refine mjr_goto (tgt := 518) D_335_453 rfl ?_
    exact mjq_nret D_335_518 rfl h1 h2 h
  refine mjq_tsw (c := (27 : Int32)) (tgt := 456) D_335_6 (by decide) (by decide) rfl rfl h (fun h => ?_) (fun n41 h => ?_)
  · refine mjq_ic (v := (0 : Int32)) D_335_456 rfl ?_
    refine mjq_istore_n (lo' := [some (.ref l0), some (.int l1), some (.int (0 : Int32))]) D_335_457 (Nat.le_of_ble_eq_true rfl) rfl ?_
    exact mjG.fg (lo' := [some (.ref l0), none, some (.int (0 : Int32))]) (And.intro rfl (And.intro rfl True.intro)) ((T_335_458 hR h1 h2 mjN) _ _ _ _ h)
  refine mjq_tsw (c := (28 : Int32)) (tgt := 361) D_335_6 (by decide) (by decide) rfl rfl h (fun h => ?_) (fun n42 h => ?_)
  · refine mjr_aload_n (x := l0) D_335_361 rfl ?_
    refine mjr_aload_n (x := l0) D_335_362 rfl ?_
    refine mjq_gI D_335_363 fr_12_579 h (fun v43 h => ?_)
    refine mjq_ic (v := (-1 : Int32)) D_335_366 rfl ?_
    refine mjq_icmp_ne (tgt := 374) D_335_367 rfl h (fun h => ?_) (fun h => ?_)
    · refine mjr_aload_n (x := l0) D_335_374 rfl ?_
      refine mjq_gR D_335_375 fr_12_97 h (fun v44 h => ?_)
      refine mjr_aload_n (x := l0) D_335_378 rfl ?_
      refine mjq_gI D_335_379 fr_12_579 h (fun v45 h => ?_)
      refine mjq_aI D_335_382 h (fun v46 h => ?_)
      exact (t_335_383 hR h1 h2) _ _ _ _ _ _ h
    · refine mjq_ic (v := (-1 : Int32)) D_335_370 rfl ?_
      refine mjr_goto (tgt := 383) D_335_371 rfl ?_
      exact (t_335_383 hR h1 h2) _ _ _ _ _ _ h
  refine mjr_tableOut (tgt := 518) D_335_6 (mj_swout [(17 : Int32), (18 : Int32), (19 : Int32), (20 : Int32), (21 : Int32), (22 : Int32), (23 : Int32), (24 : Int32), (25 : Int32), (26 : Int32), (27 : Int32), (28 : Int32)] (by decide) (mj_all1 n3 (mj_all1 n4 (mj_all1 n5 (mj_all1 n18 (mj_all1 n31 (mj_all1 n32 (mj_all1 n33 (mj_all1 n34 (mj_all1 n35 (mj_all1 n38 (mj_all1 n41 (mj_all1 n42 mj_all0))))))))))))) rfl ?_
  exact mjq_nret D_335_518 rfl h1 h2 h
noncomputable def f_335 (R : mjR) (a0 : Nat) (a1 : Int32) (hp : mjH) : mjU := b_335_0 R a0 a1 hp
theorem c_335 {R : mjR} {d : Nat} (hR : mjC R d) {a0 : Nat} {a1 : Int32} {hp : mjH} {q : Option Value × mjH} (h : f_335 R a0 a1 hp = some q) : mjM (d + 1) 0 0 335 [.ref a0, .int a1] hp (mjEq q) :=
  mjM_of Ja_335 (Nat.le_of_ble_eq_true rfl) (mjG.fg (lo' := [some (.ref a0), some (.int a1), none]) (And.intro rfl (And.intro rfl True.intro)) ((t_335_0 hR (Nat.le_refl 0) (Nat.le_refl 0)) a0 a1 hp q h))
def J_336 : mjI := (⟨"OwnerHeapModel", "fault", "(I)I"⟩, 12, prog_14_method_112_code, 2, (some .int), 1, false)
theorem Ja_336 : mjMt 336 = some J_336 := by rfl
theorem D_336_0 : decode J_336.2.2.1 0 = .ok (.iload_n 1, 1) := dzq_27 (by decide +kernel)
theorem D_336_1 : decode J_336.2.2.1 1 = .ok (.ifCond .ne 10, 3) := dzq_154 (by decide +kernel)
theorem D_336_4 : decode J_336.2.2.1 4 = .ok (.aload_n 0, 1) := dzq_42 (by decide +kernel)
theorem D_336_5 : decode J_336.2.2.1 5 = .ok (.getfield 163, 3) := dzq_180 (by decide +kernel)
theorem D_336_8 : decode J_336.2.2.1 8 = .ok (.goto 16, 3) := dzq_167 (by decide +kernel)
theorem D_336_11 : decode J_336.2.2.1 11 = .ok (.iload_n 1, 1) := dzq_27 (by decide +kernel)
theorem D_336_12 : decode J_336.2.2.1 12 = .ok (.iconst 1, 1) := dzq_4 (by decide +kernel)
theorem D_336_13 : decode J_336.2.2.1 13 = .ok (.if_icmp .ne 10, 3) := dzq_160 (by decide +kernel)
theorem D_336_16 : decode J_336.2.2.1 16 = .ok (.aload_n 0, 1) := dzq_42 (by decide +kernel)
theorem D_336_17 : decode J_336.2.2.1 17 = .ok (.getfield 167, 3) := dzq_180 (by decide +kernel)
theorem D_336_20 : decode J_336.2.2.1 20 = .ok (.goto 4, 3) := dzq_167 (by decide +kernel)
theorem D_336_23 : decode J_336.2.2.1 23 = .ok (.iconst (-1), 1) := dzq_2 (by decide +kernel)
theorem D_336_24 : decode J_336.2.2.1 24 = .ok (.ireturn, 1) := dzq_172 (by decide +kernel)
def P_336_0 (X : mjX) (d C S kc ks : Nat) (k : Nat → Int32 → mjH → mjU) : Prop := ∀ (l0 : Nat) (l1 : Int32) (hp : mjH) (q : Option Value × mjH), k l0 l1 hp = some q → mjG X d C S J_336 (mjEq q) 0 [some (.ref l0), some (.int l1)] [] hp kc ks
noncomputable def b_336_0 (R : mjR) (l0 : Nat) (l1 : Int32) (hp : mjH) : mjU := (if l1 = 0 then gI hp l0 12 59 (fun v2 => some (some (.int v2), hp)) else (if l1 = (1 : Int32) then gI hp l0 12 60 (fun v1 => some (some (.int v1), hp)) else some (some (.int (-1 : Int32)), hp)))
theorem t_336_0 {X : mjX} {d C S kc ks : Nat} {R : mjR} (hR : mjC R d) (h1 : kc ≤ C) (h2 : ks ≤ S) : P_336_0 X (d + 1) C S kc ks (b_336_0 R) := by
  intro l0 l1 hp q h
  unfold b_336_0 at h
  refine mjr_iload_n (x := l1) D_336_0 rfl ?_
  refine mjq_if_ne (tgt := 11) D_336_1 rfl h (fun h => ?_) (fun h => ?_)
  · refine mjr_iload_n (x := l1) D_336_11 rfl ?_
    refine mjq_ic (v := (1 : Int32)) D_336_12 rfl ?_
    refine mjq_icmp_ne (tgt := 23) D_336_13 rfl h (fun h => ?_) (fun h => ?_)
    · refine mjq_ic (v := (-1 : Int32)) D_336_23 rfl ?_
      exact mjq_ret D_336_24 rfl h1 h2 h
    · refine mjr_aload_n (x := l0) D_336_16 rfl ?_
      refine mjq_gI D_336_17 fr_12_167 h (fun v1 h => ?_)
      refine mjr_goto (tgt := 24) D_336_20 rfl ?_
      exact mjq_ret D_336_24 rfl h1 h2 h
  · refine mjr_aload_n (x := l0) D_336_4 rfl ?_
    refine mjq_gI D_336_5 fr_12_163 h (fun v2 h => ?_)
    refine mjr_goto (tgt := 24) D_336_8 rfl ?_
    exact mjq_ret D_336_24 rfl h1 h2 h
noncomputable def f_336 (R : mjR) (a0 : Nat) (a1 : Int32) (hp : mjH) : mjU := b_336_0 R a0 a1 hp
theorem c_336 {R : mjR} {d : Nat} (hR : mjC R d) {a0 : Nat} {a1 : Int32} {hp : mjH} {q : Option Value × mjH} (h : f_336 R a0 a1 hp = some q) : mjM (d + 1) 0 0 336 [.ref a0, .int a1] hp (mjEq q) :=
  mjM_of Ja_336 (Nat.le_of_ble_eq_true rfl) (mjG.fg (lo' := [some (.ref a0), some (.int a1)]) (And.intro rfl (And.intro rfl True.intro)) ((t_336_0 hR (Nat.le_refl 0) (Nat.le_refl 0)) a0 a1 hp q h))
