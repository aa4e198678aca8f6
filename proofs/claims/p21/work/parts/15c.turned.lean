def J_77 : mjI := (⟨"OwnerHeap$Machine", "isAtOnce", "()Z"⟩, 5, prog_7_method_6_code, 1, (some .boolean), 0, false)
theorem Ja_77 : mjMt 77 = some J_77 := by rfl
theorem D_77_0 : decode J_77.2.2.1 0 = .ok (.aload_n 0, 1) := dzq_42 (by decide +kernel)
theorem D_77_1 : decode J_77.2.2.1 1 = .ok (.getfield 93, 3) := dzq_180 (by decide +kernel)
theorem D_77_4 : decode J_77.2.2.1 4 = .ok (.aload_n 0, 1) := dzq_42 (by decide +kernel)
theorem D_77_5 : decode J_77.2.2.1 5 = .ok (.getfield 25, 3) := dzq_180 (by decide +kernel)
theorem D_77_8 : decode J_77.2.2.1 8 = .ok (.getfield 99, 3) := dzq_180 (by decide +kernel)
theorem D_77_11 : decode J_77.2.2.1 11 = .ok (.if_icmp .ge 24, 3) := dzq_162 (by decide +kernel)
theorem D_77_14 : decode J_77.2.2.1 14 = .ok (.aload_n 0, 1) := dzq_42 (by decide +kernel)
theorem D_77_15 : decode J_77.2.2.1 15 = .ok (.getfield 25, 3) := dzq_180 (by decide +kernel)
theorem D_77_18 : decode J_77.2.2.1 18 = .ok (.getfield 104, 3) := dzq_180 (by decide +kernel)
theorem D_77_21 : decode J_77.2.2.1 21 = .ok (.aload_n 0, 1) := dzq_42 (by decide +kernel)
theorem D_77_22 : decode J_77.2.2.1 22 = .ok (.getfield 93, 3) := dzq_180 (by decide +kernel)
theorem D_77_25 : decode J_77.2.2.1 25 = .ok (.iaload, 1) := dzq_46 (by decide +kernel)
theorem D_77_26 : decode J_77.2.2.1 26 = .ok (.bipush 10, 2) := dzq_16 (by decide +kernel)
theorem D_77_28 : decode J_77.2.2.1 28 = .ok (.if_icmp .ge 7, 3) := dzq_162 (by decide +kernel)
theorem D_77_31 : decode J_77.2.2.1 31 = .ok (.iconst 1, 1) := dzq_4 (by decide +kernel)
theorem D_77_32 : decode J_77.2.2.1 32 = .ok (.goto 4, 3) := dzq_167 (by decide +kernel)
theorem D_77_35 : decode J_77.2.2.1 35 = .ok (.iconst 0, 1) := dzq_3 (by decide +kernel)
theorem D_77_36 : decode J_77.2.2.1 36 = .ok (.ireturn, 1) := dzq_172 (by decide +kernel)
def P_77_35 (X : mjX) (d C S kc ks : Nat) (k : mjH → mjU) : Prop := ∀  (hp : mjH) (q : Option Value × mjH), k  hp = some q → mjG X d C S J_77 (mjEq q) 35 [none] [] hp kc ks
def P_77_0 (X : mjX) (d C S kc ks : Nat) (k : Nat → mjH → mjU) : Prop := ∀ (l0 : Nat) (hp : mjH) (q : Option Value × mjH), k l0 hp = some q → mjG X d C S J_77 (mjEq q) 0 [some (.ref l0)] [] hp kc ks
noncomputable def b_77_35 (R : mjR)  (hp : mjH) : mjU := some (some (.int (0 : Int32)), hp)
theorem t_77_35 {X : mjX} {d C S kc ks : Nat} {R : mjR} (hR : mjC R d) (h1 : kc ≤ C) (h2 : ks ≤ S) : P_77_35 X (d + 1) C S kc ks (b_77_35 R) := by
  intro  hp q h
  unfold b_77_35 at h
  refine mjq_ic (v := (0 : Int32)) D_77_35 rfl ?_
  exact mjr_ireturn D_77_36 rfl rfl h1 h2 (Option.some.inj h)
noncomputable def b_77_0 (R : mjR) (l0 : Nat) (hp : mjH) : mjU := gI hp l0 5 4 (fun v1 => gR hp l0 5 3 (fun v2 => gI hp v2 0 3 (fun v3 => (if v3 ≤ v1 then b_77_35 R hp else gR hp l0 5 3 (fun v4 => gR hp v4 0 0 (fun v5 => gI hp l0 5 4 (fun v6 => aI hp v5 v6 (fun v7 => (if (10 : Int32) ≤ v7 then b_77_35 R hp else some (some (.int (1 : Int32)), hp))))))))))
theorem t_77_0 {X : mjX} {d C S kc ks : Nat} {R : mjR} (hR : mjC R d) (h1 : kc ≤ C) (h2 : ks ≤ S) : P_77_0 X (d + 1) C S kc ks (b_77_0 R) := by
  intro l0 hp q h
  unfold b_77_0 at h
  refine mjr_aload_n (x := l0) D_77_0 rfl ?_
  refine mjq_gI D_77_1 fr_5_93 h (fun v1 h => ?_)
  refine mjr_aload_n (x := l0) D_77_4 rfl ?_
  refine mjq_gR D_77_5 fr_5_25 h (fun v2 h => ?_)
  refine mjq_gI D_77_8 fr_5_99 h (fun v3 h => ?_)
  refine mjq_icmp_ge (tgt := 35) D_77_11 rfl h (fun h => ?_) (fun h => ?_)
  · exact mjG.fg (lo' := [none]) True.intro ((t_77_35 hR h1 h2) _ _ h)
  · refine mjr_aload_n (x := l0) D_77_14 rfl ?_
    refine mjq_gR D_77_15 fr_5_25 h (fun v4 h => ?_)
    refine mjq_gR D_77_18 fr_5_104 h (fun v5 h => ?_)
    refine mjr_aload_n (x := l0) D_77_21 rfl ?_
    refine mjq_gI D_77_22 fr_5_93 h (fun v6 h => ?_)
    refine mjq_aI D_77_25 h (fun v7 h => ?_)
    refine mjq_bi (v := (10 : Int32)) D_77_26 rfl ?_
    refine mjq_icmp_ge (tgt := 35) D_77_28 rfl h (fun h => ?_) (fun h => ?_)
    · exact mjG.fg (lo' := [none]) True.intro ((t_77_35 hR h1 h2) _ _ h)
    · refine mjq_ic (v := (1 : Int32)) D_77_31 rfl ?_
      refine mjr_goto (tgt := 36) D_77_32 rfl ?_
      exact mjr_ireturn D_77_36 rfl rfl h1 h2 (Option.some.inj h)
noncomputable def f_77 (R : mjR) (a0 : Nat) (hp : mjH) : mjU := b_77_0 R a0 hp
theorem c_77 {R : mjR} {d : Nat} (hR : mjC R d) {a0 : Nat} {hp : mjH} {q : Option Value × mjH} (h : f_77 R a0 hp = some q) : mjM (d + 1) 0 0 77 [.ref a0] hp (mjEq q) :=
  mjM_of Ja_77 (Nat.le_of_ble_eq_true rfl) (mjG.fg (lo' := [some (.ref a0)]) (And.intro rfl True.intro) ((t_77_0 hR (Nat.le_refl 0) (Nat.le_refl 0)) a0 hp q h))
def J_78 : mjI := (⟨"OwnerHeap$Machine", "workAtOnce", "(III)V"⟩, 5, prog_7_method_7_code, 4, none, 3, false)
theorem Ja_78 : mjMt 78 = some J_78 := by rfl
theorem D_78_0 : decode J_78.2.2.1 0 = .ok (.iload_n 1, 1) := dzq_27 (by decide +kernel)
theorem D_78_1 : decode J_78.2.2.1 1 = .ok (.tableswitch 176 0 8 #[51, 59, 81, 96, 118, 127, 135, 143, 165], 51) := by decide +kernel
theorem D_78_52 : decode J_78.2.2.1 52 = .ok (.aload_n 0, 1) := dzq_42 (by decide +kernel)
theorem D_78_53 : decode J_78.2.2.1 53 = .ok (.iload_n 2, 1) := dzq_28 (by decide +kernel)
theorem D_78_54 : decode J_78.2.2.1 54 = .ok (.invokevirtual 128, 3) := dzq_182 (by decide +kernel)
theorem D_78_57 : decode J_78.2.2.1 57 = .ok (.goto 128, 3) := dzq_167 (by decide +kernel)
theorem D_78_60 : decode J_78.2.2.1 60 = .ok (.aload_n 0, 1) := dzq_42 (by decide +kernel)
theorem D_78_61 : decode J_78.2.2.1 61 = .ok (.aload_n 0, 1) := dzq_42 (by decide +kernel)
theorem D_78_62 : decode J_78.2.2.1 62 = .ok (.getfield 29, 3) := dzq_180 (by decide +kernel)
theorem D_78_65 : decode J_78.2.2.1 65 = .ok (.aload_n 0, 1) := dzq_42 (by decide +kernel)
theorem D_78_66 : decode J_78.2.2.1 66 = .ok (.getfield 29, 3) := dzq_180 (by decide +kernel)
theorem D_78_69 : decode J_78.2.2.1 69 = .ok (.invokevirtual 131, 3) := dzq_182 (by decide +kernel)
theorem D_78_72 : decode J_78.2.2.1 72 = .ok (.iload_n 2, 1) := dzq_28 (by decide +kernel)
theorem D_78_73 : decode J_78.2.2.1 73 = .ok (.invokevirtual 135, 3) := dzq_182 (by decide +kernel)
theorem D_78_76 : decode J_78.2.2.1 76 = .ok (.invokevirtual 128, 3) := dzq_182 (by decide +kernel)
theorem D_78_79 : decode J_78.2.2.1 79 = .ok (.goto 106, 3) := dzq_167 (by decide +kernel)
theorem D_78_82 : decode J_78.2.2.1 82 = .ok (.aload_n 0, 1) := dzq_42 (by decide +kernel)
theorem D_78_83 : decode J_78.2.2.1 83 = .ok (.getfield 29, 3) := dzq_180 (by decide +kernel)
theorem D_78_86 : decode J_78.2.2.1 86 = .ok (.iload_n 2, 1) := dzq_28 (by decide +kernel)
theorem D_78_87 : decode J_78.2.2.1 87 = .ok (.aload_n 0, 1) := dzq_42 (by decide +kernel)
theorem D_78_88 : decode J_78.2.2.1 88 = .ok (.invokevirtual 139, 3) := dzq_182 (by decide +kernel)
theorem D_78_91 : decode J_78.2.2.1 91 = .ok (.invokevirtual 142, 3) := dzq_182 (by decide +kernel)
theorem D_78_94 : decode J_78.2.2.1 94 = .ok (.goto 91, 3) := dzq_167 (by decide +kernel)
theorem D_78_97 : decode J_78.2.2.1 97 = .ok (.aload_n 0, 1) := dzq_42 (by decide +kernel)
theorem D_78_98 : decode J_78.2.2.1 98 = .ok (.aload_n 0, 1) := dzq_42 (by decide +kernel)
theorem D_78_99 : decode J_78.2.2.1 99 = .ok (.getfield 29, 3) := dzq_180 (by decide +kernel)
theorem D_78_102 : decode J_78.2.2.1 102 = .ok (.getfield 145, 3) := dzq_180 (by decide +kernel)
theorem D_78_105 : decode J_78.2.2.1 105 = .ok (.aload_n 0, 1) := dzq_42 (by decide +kernel)
theorem D_78_106 : decode J_78.2.2.1 106 = .ok (.getfield 29, 3) := dzq_180 (by decide +kernel)
theorem D_78_109 : decode J_78.2.2.1 109 = .ok (.invokevirtual 131, 3) := dzq_182 (by decide +kernel)
theorem D_78_112 : decode J_78.2.2.1 112 = .ok (.iaload, 1) := dzq_46 (by decide +kernel)
theorem D_78_113 : decode J_78.2.2.1 113 = .ok (.invokevirtual 128, 3) := dzq_182 (by decide +kernel)
theorem D_78_116 : decode J_78.2.2.1 116 = .ok (.goto 69, 3) := dzq_167 (by decide +kernel)
theorem D_78_119 : decode J_78.2.2.1 119 = .ok (.aload_n 0, 1) := dzq_42 (by decide +kernel)
theorem D_78_120 : decode J_78.2.2.1 120 = .ok (.iload_n 2, 1) := dzq_28 (by decide +kernel)
theorem D_78_121 : decode J_78.2.2.1 121 = .ok (.iload_n 3, 1) := dzq_29 (by decide +kernel)
theorem D_78_122 : decode J_78.2.2.1 122 = .ok (.invokevirtual 148, 3) := dzq_182 (by decide +kernel)
theorem D_78_125 : decode J_78.2.2.1 125 = .ok (.goto 60, 3) := dzq_167 (by decide +kernel)
theorem D_78_128 : decode J_78.2.2.1 128 = .ok (.aload_n 0, 1) := dzq_42 (by decide +kernel)
theorem D_78_129 : decode J_78.2.2.1 129 = .ok (.invokevirtual 139, 3) := dzq_182 (by decide +kernel)
theorem D_78_132 : decode J_78.2.2.1 132 = .ok (.pop, 1) := dzq_87 (by decide +kernel)
theorem D_78_133 : decode J_78.2.2.1 133 = .ok (.goto 52, 3) := dzq_167 (by decide +kernel)
theorem D_78_136 : decode J_78.2.2.1 136 = .ok (.aload_n 0, 1) := dzq_42 (by decide +kernel)
theorem D_78_137 : decode J_78.2.2.1 137 = .ok (.iload_n 2, 1) := dzq_28 (by decide +kernel)
theorem D_78_138 : decode J_78.2.2.1 138 = .ok (.putfield 93, 3) := dzq_181 (by decide +kernel)
theorem D_78_141 : decode J_78.2.2.1 141 = .ok (.goto 44, 3) := dzq_167 (by decide +kernel)
theorem D_78_144 : decode J_78.2.2.1 144 = .ok (.aload_n 0, 1) := dzq_42 (by decide +kernel)
theorem D_78_145 : decode J_78.2.2.1 145 = .ok (.aload_n 0, 1) := dzq_42 (by decide +kernel)
theorem D_78_146 : decode J_78.2.2.1 146 = .ok (.invokevirtual 139, 3) := dzq_182 (by decide +kernel)
theorem D_78_149 : decode J_78.2.2.1 149 = .ok (.ifCond .ne 7, 3) := dzq_154 (by decide +kernel)
theorem D_78_152 : decode J_78.2.2.1 152 = .ok (.iload_n 2, 1) := dzq_28 (by decide +kernel)
theorem D_78_153 : decode J_78.2.2.1 153 = .ok (.goto 7, 3) := dzq_167 (by decide +kernel)
theorem D_78_156 : decode J_78.2.2.1 156 = .ok (.aload_n 0, 1) := dzq_42 (by decide +kernel)
theorem D_78_157 : decode J_78.2.2.1 157 = .ok (.getfield 93, 3) := dzq_180 (by decide +kernel)
theorem D_78_160 : decode J_78.2.2.1 160 = .ok (.putfield 93, 3) := dzq_181 (by decide +kernel)
theorem D_78_163 : decode J_78.2.2.1 163 = .ok (.goto 22, 3) := dzq_167 (by decide +kernel)
theorem D_78_166 : decode J_78.2.2.1 166 = .ok (.aload_n 0, 1) := dzq_42 (by decide +kernel)
theorem D_78_167 : decode J_78.2.2.1 167 = .ok (.aload_n 0, 1) := dzq_42 (by decide +kernel)
theorem D_78_168 : decode J_78.2.2.1 168 = .ok (.invokevirtual 139, 3) := dzq_182 (by decide +kernel)
theorem D_78_171 : decode J_78.2.2.1 171 = .ok (.invokevirtual 151, 3) := dzq_182 (by decide +kernel)
theorem D_78_174 : decode J_78.2.2.1 174 = .ok (.goto 11, 3) := dzq_167 (by decide +kernel)
theorem D_78_177 : decode J_78.2.2.1 177 = .ok (.aload_n 0, 1) := dzq_42 (by decide +kernel)
theorem D_78_178 : decode J_78.2.2.1 178 = .ok (.aload_n 0, 1) := dzq_42 (by decide +kernel)
theorem D_78_179 : decode J_78.2.2.1 179 = .ok (.invokevirtual 139, 3) := dzq_182 (by decide +kernel)
theorem D_78_182 : decode J_78.2.2.1 182 = .ok (.invokevirtual 154, 3) := dzq_182 (by decide +kernel)
theorem D_78_185 : decode J_78.2.2.1 185 = .ok (.return_, 1) := dzq_177 (by decide +kernel)
def P_78_160 (X : mjX) (d C S kc ks : Nat) (k : Nat → Int32 → mjH → mjU) : Prop := ∀ (s0 : Nat) (s1 : Int32) (hp : mjH) (q : Option Value × mjH), k s0 s1 hp = some q → mjG X d C S J_78 (mjEq q) 160 [none, none, none, none] [.int s1, .ref s0] hp kc ks
def P_78_0 (X : mjX) (d C S kc ks : Nat) (k : Nat → Int32 → Int32 → Int32 → mjH → mjU) : Prop := ∀ (l0 : Nat) (l1 : Int32) (l2 : Int32) (l3 : Int32) (hp : mjH) (q : Option Value × mjH), k l0 l1 l2 l3 hp = some q → mjG X d C S J_78 (mjEq q) 0 [some (.ref l0), some (.int l1), some (.int l2), some (.int l3)] [] hp kc ks
noncomputable def b_78_160 (R : mjR) (s0 : Nat) (s1 : Int32) (hp : mjH) : mjU := pI hp s0 5 4 s1 (fun hp1 => some (none, hp1))
theorem t_78_160 {X : mjX} {d C S kc ks : Nat} {R : mjR} (hR : mjC R d) (h1 : kc ≤ C) (h2 : ks ≤ S) : P_78_160 X (d + 1) C S kc ks (b_78_160 R) := by
  intro s0 s1 hp q h
  unfold b_78_160 at h
  refine mjq_pI D_78_160 fr_5_93 rfl rfl h (fun hp1 h => ?_)
  refine mjr_goto (tgt := 185) D_78_163 rfl ?_
  exact mjq_nret D_78_185 rfl h1 h2 h
noncomputable def b_78_0 (R : mjR) (l0 : Nat) (l1 : Int32) (l2 : Int32) (l3 : Int32) (hp : mjH) : mjU := (if l1 = (0 : Int32) then rV hp l0 5 (bN (R 79 [.ref l0, .int l2] hp) (fun  hp2 => some (none, hp2))) else if l1 = (1 : Int32) then gR hp l0 5 1 (fun v4 => gR hp l0 5 1 (fun v5 => rV hp v5 2 (bI (R 38 [.ref v5] hp) (fun v6 hp7 => rV hp7 v4 2 (bI (R 39 [.ref v4, .int v6, .int l2] hp7) (fun v8 hp9 => rV hp9 l0 5 (bN (R 79 [.ref l0, .int v8] hp9) (fun  hp10 => some (none, hp10))))))))) else if l1 = (2 : Int32) then gR hp l0 5 1 (fun v12 => rV hp l0 5 (bI (R 80 [.ref l0] hp) (fun v13 hp14 => rV hp14 v12 2 (bN (R 40 [.ref v12, .int l2, .int v13] hp14) (fun  hp15 => some (none, hp15)))))) else if l1 = (3 : Int32) then gR hp l0 5 1 (fun v17 => gR hp v17 2 3 (fun v18 => gR hp l0 5 1 (fun v19 => rV hp v19 2 (bI (R 38 [.ref v19] hp) (fun v20 hp21 => aI hp21 v18 v20 (fun v22 => rV hp21 l0 5 (bN (R 79 [.ref l0, .int v22] hp21) (fun  hp23 => some (none, hp23))))))))) else if l1 = (4 : Int32) then rV hp l0 5 (bN (R 81 [.ref l0, .int l2, .int l3] hp) (fun  hp25 => some (none, hp25))) else if l1 = (5 : Int32) then rV hp l0 5 (bI (R 80 [.ref l0] hp) (fun v27 hp28 => some (none, hp28))) else if l1 = (6 : Int32) then pI hp l0 5 4 l2 (fun hp30 => some (none, hp30)) else if l1 = (7 : Int32) then rV hp l0 5 (bI (R 80 [.ref l0] hp) (fun v32 hp33 => (if v32 = 0 then b_78_160 R l0 l2 hp33 else gI hp33 l0 5 4 (fun v34 => b_78_160 R l0 v34 hp33)))) else if l1 = (8 : Int32) then rV hp l0 5 (bI (R 80 [.ref l0] hp) (fun v36 hp37 => rV hp37 l0 5 (bN (R 83 [.ref l0, .int v36] hp37) (fun  hp38 => some (none, hp38))))) else rV hp l0 5 (bI (R 80 [.ref l0] hp) (fun v39 hp40 => rV hp40 l0 5 (bN (R 84 [.ref l0, .int v39] hp40) (fun  hp41 => some (none, hp41))))))
theorem t_78_0 {X : mjX} {d C S kc ks : Nat} {R : mjR} (hR : mjC R d) (h1 : kc ≤ C) (h2 : ks ≤ S) : P_78_0 X (d + 1) C S kc ks (b_78_0 R) := by
  intro l0 l1 l2 l3 hp q h
  unfold b_78_0 at h
  refine mjr_iload_n (x := l1) D_78_0 rfl ?_
  refine mjq_tsw (c := (0 : Int32)) (tgt := 52) D_78_1 (by decide) (by decide) rfl rfl h (fun h => ?_) (fun n1 h => ?_)
  · refine mjr_aload_n (x := l0) D_78_52 rfl ?_
    refine mjr_iload_n (x := l2) D_78_53 rfl ?_
    refine mjq_vN (As := [.int l2]) (rest := []) D_78_54 mr_5_128 V_79 rfl rfl rfl hR (Nat.le_refl _) h1 h2 h (fun  hp2 h => ?_)
    refine mjr_goto (tgt := 185) D_78_57 rfl ?_
    exact mjq_nret D_78_185 rfl h1 h2 h
  refine mjq_tsw (c := (1 : Int32)) (tgt := 60) D_78_1 (by decide) (by decide) rfl rfl h (fun h => ?_) (fun n3 h => ?_)
  · refine mjr_aload_n (x := l0) D_78_60 rfl ?_
    refine mjr_aload_n (x := l0) D_78_61 rfl ?_
    refine mjq_gR D_78_62 fr_5_29 h (fun v4 h => ?_)
    refine mjr_aload_n (x := l0) D_78_65 rfl ?_
    refine mjq_gR D_78_66 fr_5_29 h (fun v5 h => ?_)
    refine mjq_vI (As := []) (rest := [.ref v4, .ref l0]) D_78_69 mr_5_131 V_38 rfl rfl rfl hR (Nat.le_refl _) h1 h2 h (fun v6 hp7 h => ?_)
    refine mjr_iload_n (x := l2) D_78_72 rfl ?_
    refine mjq_vI (As := [.int v6, .int l2]) (rest := [.ref l0]) D_78_73 mr_5_135 V_39 rfl rfl rfl hR (Nat.le_refl _) h1 h2 h (fun v8 hp9 h => ?_)
    refine mjq_vN (As := [.int v8]) (rest := []) D_78_76 mr_5_128 V_79 rfl rfl rfl hR (Nat.le_refl _) h1 h2 h (fun  hp10 h => ?_)
    refine mjr_goto (tgt := 185) D_78_79 rfl ?_
    exact mjq_nret D_78_185 rfl h1 h2 h
  refine mjq_tsw (c := (2 : Int32)) (tgt := 82) D_78_1 (by decide) (by decide) rfl rfl h (fun h => ?_) (fun n11 h => ?_)
  · refine mjr_aload_n (x := l0) D_78_82 rfl ?_
    refine mjq_gR D_78_83 fr_5_29 h (fun v12 h => ?_)
    refine mjr_iload_n (x := l2) D_78_86 rfl ?_
    refine mjr_aload_n (x := l0) D_78_87 rfl ?_
    refine mjq_vI (As := []) (rest := [.int l2, .ref v12]) D_78_88 mr_5_139 V_80 rfl rfl rfl hR (Nat.le_refl _) h1 h2 h (fun v13 hp14 h => ?_)
    refine mjq_vN (As := [.int l2, .int v13]) (rest := []) D_78_91 mr_5_142 V_40 rfl rfl rfl hR (Nat.le_refl _) h1 h2 h (fun  hp15 h => ?_)
    refine mjr_goto (tgt := 185) D_78_94 rfl ?_
    exact mjq_nret D_78_185 rfl h1 h2 h
  refine mjq_tsw (c := (3 : Int32)) (tgt := 97) D_78_1 (by decide) (by decide) rfl rfl h (fun h => ?_) (fun n16 h => ?_)
  · refine mjr_aload_n (x := l0) D_78_97 rfl ?_
    refine mjr_aload_n (x := l0) D_78_98 rfl ?_
    refine mjq_gR D_78_99 fr_5_29 h (fun v17 h => ?_)
    refine mjq_gR D_78_102 fr_5_145 h (fun v18 h => ?_)
    refine mjr_aload_n (x := l0) D_78_105 rfl ?_
    refine mjq_gR D_78_106 fr_5_29 h (fun v19 h => ?_)
    refine mjq_vI (As := []) (rest := [.ref v18, .ref l0]) D_78_109 mr_5_131 V_38 rfl rfl rfl hR (Nat.le_refl _) h1 h2 h (fun v20 hp21 h => ?_)
    refine mjq_aI D_78_112 h (fun v22 h => ?_)
    refine mjq_vN (As := [.int v22]) (rest := []) D_78_113 mr_5_128 V_79 rfl rfl rfl hR (Nat.le_refl _) h1 h2 h (fun  hp23 h => ?_)
    refine mjr_goto (tgt := 185) D_78_116 rfl ?_
    exact mjq_nret D_78_185 rfl h1 h2 h
  refine mjq_tsw (c := (4 : Int32)) (tgt := 119) D_78_1 (by decide) (by decide) rfl rfl h (fun h => ?_) (fun n24 h => ?_)
  · refine mjr_aload_n (x := l0) D_78_119 rfl ?_
    refine mjr_iload_n (x := l2) D_78_120 rfl ?_
    refine mjr_iload_n (x := l3) D_78_121 rfl ?_
    refine mjq_vN (As := [.int l2, .int l3]) (rest := []) D_78_122 mr_5_148 V_81 rfl rfl rfl hR (Nat.le_refl _) h1 h2 h (fun  hp25 h => ?_)
    refine mjr_goto (tgt := 185) D_78_125 rfl ?_
    exact mjq_nret D_78_185 rfl h1 h2 h
  refine mjq_tsw (c := (5 : Int32)) (tgt := 128) D_78_1 (by decide) (by decide) rfl rfl h (fun h => ?_) (fun n26 h => ?_)
  · refine mjr_aload_n (x := l0) D_78_128 rfl ?_
    refine mjq_vI (As := []) (rest := []) D_78_129 mr_5_139 V_80 rfl rfl rfl hR (Nat.le_refl _) h1 h2 h (fun v27 hp28 h => ?_)
    refine mjr_pop D_78_132 rfl ?_
    refine mjr_goto (tgt := 185) D_78_133 rfl ?_
    exact mjq_nret D_78_185 rfl h1 h2 h
  refine mjq_tsw (c := (6 : Int32)) (tgt := 136) D_78_1 (by decide) (by decide) rfl rfl h (fun h => ?_) (fun n29 h => ?_)
  · refine mjr_aload_n (x := l0) D_78_136 rfl ?_
    refine mjr_iload_n (x := l2) D_78_137 rfl ?_
    refine mjq_pI D_78_138 fr_5_93 rfl rfl h (fun hp30 h => ?_)
    refine mjr_goto (tgt := 185) D_78_141 rfl ?_
    exact mjq_nret D_78_185 rfl h1 h2 h
  refine mjq_tsw (c := (7 : Int32)) (tgt := 144) D_78_1 (by decide) (by decide) rfl rfl h (fun h => ?_) (fun n31 h => ?_)
  · refine mjr_aload_n (x := l0) D_78_144 rfl ?_
    refine mjr_aload_n (x := l0) D_78_145 rfl ?_
    refine mjq_vI (As := []) (rest := [.ref l0]) D_78_146 mr_5_139 V_80 rfl rfl rfl hR (Nat.le_refl _) h1 h2 h (fun v32 hp33 h => ?_)
    refine mjq_if_ne (tgt := 156) D_78_149 rfl h (fun h => ?_) (fun h => ?_)
    · refine mjr_aload_n (x := l0) D_78_156 rfl ?_
      refine mjq_gI D_78_157 fr_5_93 h (fun v34 h => ?_)
      exact mjG.fg (lo' := [none, none, none, none]) True.intro ((t_78_160 hR h1 h2) _ _ _ _ h)
    · refine mjr_iload_n (x := l2) D_78_152 rfl ?_
      refine mjr_goto (tgt := 160) D_78_153 rfl ?_
      exact mjG.fg (lo' := [none, none, none, none]) True.intro ((t_78_160 hR h1 h2) _ _ _ _ h)
  refine mjq_tsw (c := (8 : Int32)) (tgt := 166) D_78_1 (by decide) (by decide) rfl rfl h (fun h => ?_) (fun n35 h => ?_)
  · refine mjr_aload_n (x := l0) D_78_166 rfl ?_
    refine mjr_aload_n (x := l0) D_78_167 rfl ?_
    refine mjq_vI (As := []) (rest := [.ref l0]) D_78_168 mr_5_139 V_80 rfl rfl rfl hR (Nat.le_refl _) h1 h2 h (fun v36 hp37 h => ?_)
    refine mjq_vN (As := [.int v36]) (rest := []) D_78_171 mr_5_151 V_83 rfl rfl rfl hR (Nat.le_refl _) h1 h2 h (fun  hp38 h => ?_)
    refine mjr_goto (tgt := 185) D_78_174 rfl ?_
    exact mjq_nret D_78_185 rfl h1 h2 h
  refine mjr_tableOut (tgt := 177) D_78_1 (mj_swout [(0 : Int32), (1 : Int32), (2 : Int32), (3 : Int32), (4 : Int32), (5 : Int32), (6 : Int32), (7 : Int32), (8 : Int32)] (by decide) (mj_all1 n1 (mj_all1 n3 (mj_all1 n11 (mj_all1 n16 (mj_all1 n24 (mj_all1 n26 (mj_all1 n29 (mj_all1 n31 (mj_all1 n35 mj_all0)))))))))) rfl ?_
  refine mjr_aload_n (x := l0) D_78_177 rfl ?_
  refine mjr_aload_n (x := l0) D_78_178 rfl ?_
  refine mjq_vI (As := []) (rest := [.ref l0]) D_78_179 mr_5_139 V_80 rfl rfl rfl hR (Nat.le_refl _) h1 h2 h (fun v39 hp40 h => ?_)
  refine mjq_vN (As := [.int v39]) (rest := []) D_78_182 mr_5_154 V_84 rfl rfl rfl hR (Nat.le_refl _) h1 h2 h (fun  hp41 h => ?_)
  exact mjq_nret D_78_185 rfl h1 h2 h
noncomputable def f_78 (R : mjR) (a0 : Nat) (a1 : Int32) (a2 : Int32) (a3 : Int32) (hp : mjH) : mjU := b_78_0 R a0 a1 a2 a3 hp
theorem c_78 {R : mjR} {d : Nat} (hR : mjC R d) {a0 : Nat} {a1 : Int32} {a2 : Int32} {a3 : Int32} {hp : mjH} {q : Option Value × mjH} (h : f_78 R a0 a1 a2 a3 hp = some q) : mjM (d + 1) 0 0 78 [.ref a0, .int a1, .int a2, .int a3] hp (mjEq q) :=
  mjM_of Ja_78 (Nat.le_of_ble_eq_true rfl) (mjG.fg (lo' := [some (.ref a0), some (.int a1), some (.int a2), some (.int a3)]) (And.intro rfl (And.intro rfl (And.intro rfl (And.intro rfl True.intro)))) ((t_78_0 hR (Nat.le_refl 0) (Nat.le_refl 0)) a0 a1 a2 a3 hp q h))
def J_79 : mjI := (⟨"OwnerHeap$Machine", "push", "(I)V"⟩, 5, prog_7_method_11_code, 2, none, 1, false)
theorem Ja_79 : mjMt 79 = some J_79 := by rfl
theorem D_79_0 : decode J_79.2.2.1 0 = .ok (.aload_n 0, 1) := dzq_42 (by decide +kernel)
theorem D_79_1 : decode J_79.2.2.1 1 = .ok (.getfield 59, 3) := dzq_180 (by decide +kernel)
theorem D_79_4 : decode J_79.2.2.1 4 = .ok (.aload_n 0, 1) := dzq_42 (by decide +kernel)
theorem D_79_5 : decode J_79.2.2.1 5 = .ok (.getfield 33, 3) := dzq_180 (by decide +kernel)
theorem D_79_8 : decode J_79.2.2.1 8 = .ok (.arraylength, 1) := by decide +kernel
theorem D_79_9 : decode J_79.2.2.1 9 = .ok (.if_icmp .ge 23, 3) := dzq_162 (by decide +kernel)
theorem D_79_12 : decode J_79.2.2.1 12 = .ok (.aload_n 0, 1) := dzq_42 (by decide +kernel)
theorem D_79_13 : decode J_79.2.2.1 13 = .ok (.getfield 33, 3) := dzq_180 (by decide +kernel)
theorem D_79_16 : decode J_79.2.2.1 16 = .ok (.aload_n 0, 1) := dzq_42 (by decide +kernel)
theorem D_79_17 : decode J_79.2.2.1 17 = .ok (.getfield 59, 3) := dzq_180 (by decide +kernel)
theorem D_79_20 : decode J_79.2.2.1 20 = .ok (.iload_n 1, 1) := dzq_27 (by decide +kernel)
theorem D_79_21 : decode J_79.2.2.1 21 = .ok (.iastore, 1) := dzq_79 (by decide +kernel)
theorem D_79_22 : decode J_79.2.2.1 22 = .ok (.aload_n 0, 1) := dzq_42 (by decide +kernel)
theorem D_79_23 : decode J_79.2.2.1 23 = .ok (.dup, 1) := dzq_89 (by decide +kernel)
theorem D_79_24 : decode J_79.2.2.1 24 = .ok (.getfield 59, 3) := dzq_180 (by decide +kernel)
theorem D_79_27 : decode J_79.2.2.1 27 = .ok (.iconst 1, 1) := dzq_4 (by decide +kernel)
theorem D_79_28 : decode J_79.2.2.1 28 = .ok (.iadd, 1) := dzq_96 (by decide +kernel)
theorem D_79_29 : decode J_79.2.2.1 29 = .ok (.putfield 59, 3) := dzq_181 (by decide +kernel)
theorem D_79_32 : decode J_79.2.2.1 32 = .ok (.return_, 1) := dzq_177 (by decide +kernel)
def P_79_0 (X : mjX) (d C S kc ks : Nat) (k : Nat → Int32 → mjH → mjU) : Prop := ∀ (l0 : Nat) (l1 : Int32) (hp : mjH) (q : Option Value × mjH), k l0 l1 hp = some q → mjG X d C S J_79 (mjEq q) 0 [some (.ref l0), some (.int l1)] [] hp kc ks
noncomputable def b_79_0 (R : mjR) (l0 : Nat) (l1 : Int32) (hp : mjH) : mjU := gI hp l0 5 6 (fun v1 => gR hp l0 5 5 (fun v2 => aN hp v2 (fun v3 => (if v3 ≤ v1 then some (none, hp) else gR hp l0 5 5 (fun v4 => gI hp l0 5 6 (fun v5 => sI hp v4 v5 l1 (fun hp6 => gI hp6 l0 5 6 (fun v7 => pI hp6 l0 5 6 (v7 + (1 : Int32)) (fun hp8 => some (none, hp8))))))))))
theorem t_79_0 {X : mjX} {d C S kc ks : Nat} {R : mjR} (hR : mjC R d) (h1 : kc ≤ C) (h2 : ks ≤ S) : P_79_0 X (d + 1) C S kc ks (b_79_0 R) := by
  intro l0 l1 hp q h
  unfold b_79_0 at h
  refine mjr_aload_n (x := l0) D_79_0 rfl ?_
  refine mjq_gI D_79_1 fr_5_59 h (fun v1 h => ?_)
  refine mjr_aload_n (x := l0) D_79_4 rfl ?_
  refine mjq_gR D_79_5 fr_5_33 h (fun v2 h => ?_)
  refine mjq_aN D_79_8 h (fun v3 h => ?_)
  refine mjq_icmp_ge (tgt := 32) D_79_9 rfl h (fun h => ?_) (fun h => ?_)
  · exact mjq_nret D_79_32 rfl h1 h2 h
  · refine mjr_aload_n (x := l0) D_79_12 rfl ?_
    refine mjq_gR D_79_13 fr_5_33 h (fun v4 h => ?_)
    refine mjr_aload_n (x := l0) D_79_16 rfl ?_
    refine mjq_gI D_79_17 fr_5_59 h (fun v5 h => ?_)
    refine mjr_iload_n (x := l1) D_79_20 rfl ?_
    refine mjq_sI D_79_21 h (fun hp6 h => ?_)
    refine mjr_aload_n (x := l0) D_79_22 rfl ?_
    refine mjr_dup D_79_23 rfl ?_
    refine mjq_gI D_79_24 fr_5_59 h (fun v7 h => ?_)
    refine mjq_ic (v := (1 : Int32)) D_79_27 rfl ?_
    refine mjr_iadd D_79_28 ?_
    refine mjq_pI D_79_29 fr_5_59 rfl rfl h (fun hp8 h => ?_)
    exact mjq_nret D_79_32 rfl h1 h2 h
noncomputable def f_79 (R : mjR) (a0 : Nat) (a1 : Int32) (hp : mjH) : mjU := b_79_0 R a0 a1 hp
theorem c_79 {R : mjR} {d : Nat} (hR : mjC R d) {a0 : Nat} {a1 : Int32} {hp : mjH} {q : Option Value × mjH} (h : f_79 R a0 a1 hp = some q) : mjM (d + 1) 0 0 79 [.ref a0, .int a1] hp (mjEq q) :=
  mjM_of Ja_79 (Nat.le_of_ble_eq_true rfl) (mjG.fg (lo' := [some (.ref a0), some (.int a1)]) (And.intro rfl (And.intro rfl True.intro)) ((t_79_0 hR (Nat.le_refl 0) (Nat.le_refl 0)) a0 a1 hp q h))
def J_80 : mjI := (⟨"OwnerHeap$Machine", "pop", "()I"⟩, 5, prog_7_method_12_code, 1, (some .int), 0, false)
theorem Ja_80 : mjMt 80 = some J_80 := by rfl
theorem D_80_0 : decode J_80.2.2.1 0 = .ok (.aload_n 0, 1) := dzq_42 (by decide +kernel)
theorem D_80_1 : decode J_80.2.2.1 1 = .ok (.getfield 59, 3) := dzq_180 (by decide +kernel)
theorem D_80_4 : decode J_80.2.2.1 4 = .ok (.ifCond .le 13, 3) := dzq_158 (by decide +kernel)
theorem D_80_7 : decode J_80.2.2.1 7 = .ok (.aload_n 0, 1) := dzq_42 (by decide +kernel)
theorem D_80_8 : decode J_80.2.2.1 8 = .ok (.dup, 1) := dzq_89 (by decide +kernel)
theorem D_80_9 : decode J_80.2.2.1 9 = .ok (.getfield 59, 3) := dzq_180 (by decide +kernel)
theorem D_80_12 : decode J_80.2.2.1 12 = .ok (.iconst 1, 1) := dzq_4 (by decide +kernel)
theorem D_80_13 : decode J_80.2.2.1 13 = .ok (.isub, 1) := dzq_100 (by decide +kernel)
theorem D_80_14 : decode J_80.2.2.1 14 = .ok (.putfield 59, 3) := dzq_181 (by decide +kernel)
theorem D_80_17 : decode J_80.2.2.1 17 = .ok (.aload_n 0, 1) := dzq_42 (by decide +kernel)
theorem D_80_18 : decode J_80.2.2.1 18 = .ok (.getfield 33, 3) := dzq_180 (by decide +kernel)
theorem D_80_21 : decode J_80.2.2.1 21 = .ok (.aload_n 0, 1) := dzq_42 (by decide +kernel)
theorem D_80_22 : decode J_80.2.2.1 22 = .ok (.getfield 59, 3) := dzq_180 (by decide +kernel)
theorem D_80_25 : decode J_80.2.2.1 25 = .ok (.iaload, 1) := dzq_46 (by decide +kernel)
theorem D_80_26 : decode J_80.2.2.1 26 = .ok (.ireturn, 1) := dzq_172 (by decide +kernel)
def P_80_17 (X : mjX) (d C S kc ks : Nat) (k : Nat → mjH → mjU) : Prop := ∀ (l0 : Nat) (hp : mjH) (q : Option Value × mjH), k l0 hp = some q → mjG X d C S J_80 (mjEq q) 17 [some (.ref l0)] [] hp kc ks
def P_80_0 (X : mjX) (d C S kc ks : Nat) (k : Nat → mjH → mjU) : Prop := ∀ (l0 : Nat) (hp : mjH) (q : Option Value × mjH), k l0 hp = some q → mjG X d C S J_80 (mjEq q) 0 [some (.ref l0)] [] hp kc ks
noncomputable def b_80_17 (R : mjR) (l0 : Nat) (hp : mjH) : mjU := gR hp l0 5 5 (fun v1 => gI hp l0 5 6 (fun v2 => aI hp v1 v2 (fun v3 => some (some (.int v3), hp))))
theorem t_80_17 {X : mjX} {d C S kc ks : Nat} {R : mjR} (hR : mjC R d) (h1 : kc ≤ C) (h2 : ks ≤ S) : P_80_17 X (d + 1) C S kc ks (b_80_17 R) := by
  intro l0 hp q h
  unfold b_80_17 at h
  refine mjr_aload_n (x := l0) D_80_17 rfl ?_
  refine mjq_gR D_80_18 fr_5_33 h (fun v1 h => ?_)
  refine mjr_aload_n (x := l0) D_80_21 rfl ?_
  refine mjq_gI D_80_22 fr_5_59 h (fun v2 h => ?_)
  refine mjq_aI D_80_25 h (fun v3 h => ?_)
  exact mjq_ret D_80_26 rfl h1 h2 h
noncomputable def b_80_0 (R : mjR) (l0 : Nat) (hp : mjH) : mjU := gI hp l0 5 6 (fun v1 => (if v1 ≤ 0 then b_80_17 R l0 hp else gI hp l0 5 6 (fun v2 => pI hp l0 5 6 (v2 - (1 : Int32)) (fun hp3 => b_80_17 R l0 hp3))))
theorem t_80_0 {X : mjX} {d C S kc ks : Nat} {R : mjR} (hR : mjC R d) (h1 : kc ≤ C) (h2 : ks ≤ S) : P_80_0 X (d + 1) C S kc ks (b_80_0 R) := by
  intro l0 hp q h
  unfold b_80_0 at h
  refine mjr_aload_n (x := l0) D_80_0 rfl ?_
  refine mjq_gI D_80_1 fr_5_59 h (fun v1 h => ?_)
  refine mjq_if_le (tgt := 17) D_80_4 rfl h (fun h => ?_) (fun h => ?_)
  · exact (t_80_17 hR h1 h2) _ _ _ h
  · refine mjr_aload_n (x := l0) D_80_7 rfl ?_
    refine mjr_dup D_80_8 rfl ?_
    refine mjq_gI D_80_9 fr_5_59 h (fun v2 h => ?_)
    refine mjq_ic (v := (1 : Int32)) D_80_12 rfl ?_
    refine mjr_isub D_80_13 ?_
    refine mjq_pI D_80_14 fr_5_59 rfl rfl h (fun hp3 h => ?_)
    exact (t_80_17 hR h1 h2) _ _ _ h
noncomputable def f_80 (R : mjR) (a0 : Nat) (hp : mjH) : mjU := b_80_0 R a0 hp
theorem c_80 {R : mjR} {d : Nat} (hR : mjC R d) {a0 : Nat} {hp : mjH} {q : Option Value × mjH} (h : f_80 R a0 hp = some q) : mjM (d + 1) 0 0 80 [.ref a0] hp (mjEq q) :=
  mjM_of Ja_80 (Nat.le_of_ble_eq_true rfl) (mjG.fg (lo' := [some (.ref a0)]) (And.intro rfl True.intro) ((t_80_0 hR (Nat.le_refl 0) (Nat.le_refl 0)) a0 hp q h))
def J_81 : mjI := (⟨"OwnerHeap$Machine", "putField", "(II)V"⟩, 5, prog_7_method_18_code, 5, none, 2, false)
theorem Ja_81 : mjMt 81 = some J_81 := by rfl
theorem D_81_0 : decode J_81.2.2.1 0 = .ok (.aload_n 0, 1) := dzq_42 (by decide +kernel)
theorem D_81_1 : decode J_81.2.2.1 1 = .ok (.invokevirtual 139, 3) := dzq_182 (by decide +kernel)
theorem D_81_4 : decode J_81.2.2.1 4 = .ok (.istore_n 3, 1) := dzq_62 (by decide +kernel)
theorem D_81_5 : decode J_81.2.2.1 5 = .ok (.aload_n 0, 1) := dzq_42 (by decide +kernel)
theorem D_81_6 : decode J_81.2.2.1 6 = .ok (.invokevirtual 139, 3) := dzq_182 (by decide +kernel)
theorem D_81_9 : decode J_81.2.2.1 9 = .ok (.istore 4, 2) := dzq_54 (by decide +kernel)
theorem D_81_11 : decode J_81.2.2.1 11 = .ok (.aload_n 0, 1) := dzq_42 (by decide +kernel)
theorem D_81_12 : decode J_81.2.2.1 12 = .ok (.getfield 9, 3) := dzq_180 (by decide +kernel)
theorem D_81_15 : decode J_81.2.2.1 15 = .ok (.iload 4, 2) := dzq_21 (by decide +kernel)
theorem D_81_17 : decode J_81.2.2.1 17 = .ok (.invokevirtual 190, 3) := dzq_182 (by decide +kernel)
theorem D_81_20 : decode J_81.2.2.1 20 = .ok (.ifCond .eq 17, 3) := dzq_153 (by decide +kernel)
theorem D_81_23 : decode J_81.2.2.1 23 = .ok (.aload_n 0, 1) := dzq_42 (by decide +kernel)
theorem D_81_24 : decode J_81.2.2.1 24 = .ok (.getfield 9, 3) := dzq_180 (by decide +kernel)
theorem D_81_27 : decode J_81.2.2.1 27 = .ok (.iload 4, 2) := dzq_21 (by decide +kernel)
theorem D_81_29 : decode J_81.2.2.1 29 = .ok (.iload_n 1, 1) := dzq_27 (by decide +kernel)
theorem D_81_30 : decode J_81.2.2.1 30 = .ok (.iload_n 3, 1) := dzq_29 (by decide +kernel)
theorem D_81_31 : decode J_81.2.2.1 31 = .ok (.invokevirtual 197, 3) := dzq_182 (by decide +kernel)
theorem D_81_34 : decode J_81.2.2.1 34 = .ok (.goto 9, 3) := dzq_167 (by decide +kernel)
theorem D_81_37 : decode J_81.2.2.1 37 = .ok (.aload_n 0, 1) := dzq_42 (by decide +kernel)
theorem D_81_38 : decode J_81.2.2.1 38 = .ok (.iconst 1, 1) := dzq_4 (by decide +kernel)
theorem D_81_39 : decode J_81.2.2.1 39 = .ok (.iload_n 2, 1) := dzq_28 (by decide +kernel)
theorem D_81_40 : decode J_81.2.2.1 40 = .ok (.invokevirtual 177, 3) := dzq_182 (by decide +kernel)
theorem D_81_43 : decode J_81.2.2.1 43 = .ok (.return_, 1) := dzq_177 (by decide +kernel)
def P_81_0 (X : mjX) (d C S kc ks : Nat) (k : Nat → Int32 → Int32 → mjH → mjU) : Prop := ∀ (l0 : Nat) (l1 : Int32) (l2 : Int32) (hp : mjH) (q : Option Value × mjH), k l0 l1 l2 hp = some q → mjG X d C S J_81 (mjEq q) 0 [some (.ref l0), some (.int l1), some (.int l2), none, none] [] hp kc ks
noncomputable def b_81_0 (R : mjR) (l0 : Nat) (l1 : Int32) (l2 : Int32) (hp : mjH) : mjU := rV hp l0 5 (bI (R 80 [.ref l0] hp) (fun v1 hp2 => rV hp2 l0 5 (bI (R 80 [.ref l0] hp2) (fun v3 hp4 => gR hp4 l0 5 0 (fun v5 => rV hp4 v5 3 (bI (R 43 [.ref v5, .int v3] hp4) (fun v6 hp7 => (if v6 = 0 then rV hp7 l0 5 (bN (R 82 [.ref l0, .int (1 : Int32), .int l2] hp7) (fun  hp8 => some (none, hp8))) else gR hp7 l0 5 0 (fun v9 => rV hp7 v9 3 (bN (R 44 [.ref v9, .int v3, .int l1, .int v1] hp7) (fun  hp10 => some (none, hp10))))))))))))
theorem t_81_0 {X : mjX} {d C S kc ks : Nat} {R : mjR} (hR : mjC R d) (h1 : kc ≤ C) (h2 : ks ≤ S) : P_81_0 X (d + 1) C S kc ks (b_81_0 R) := by
  intro l0 l1 l2 hp q h
  unfold b_81_0 at h
  refine mjr_aload_n (x := l0) D_81_0 rfl ?_
  refine mjq_vI (As := []) (rest := []) D_81_1 mr_5_139 V_80 rfl rfl rfl hR (Nat.le_refl _) h1 h2 h (fun v1 hp2 h => ?_)
  refine mjq_istore_n (lo' := [some (.ref l0), some (.int l1), some (.int l2), some (.int v1), none]) D_81_4 (Nat.le_of_ble_eq_true rfl) rfl ?_
  refine mjr_aload_n (x := l0) D_81_5 rfl ?_
  refine mjq_vI (As := []) (rest := []) D_81_6 mr_5_139 V_80 rfl rfl rfl hR (Nat.le_refl _) h1 h2 h (fun v3 hp4 h => ?_)
  refine mjq_istore (lo' := [some (.ref l0), some (.int l1), some (.int l2), some (.int v1), some (.int v3)]) D_81_9 (Nat.le_of_ble_eq_true rfl) rfl ?_
  refine mjr_aload_n (x := l0) D_81_11 rfl ?_
  refine mjq_gR D_81_12 fr_5_9 h (fun v5 h => ?_)
  refine mjr_iload (x := v3) D_81_15 rfl ?_
  refine mjq_vI (As := [.int v3]) (rest := []) D_81_17 mr_5_190 V_43 rfl rfl rfl hR (Nat.le_refl _) h1 h2 h (fun v6 hp7 h => ?_)
  refine mjq_if_eq (tgt := 37) D_81_20 rfl h (fun h => ?_) (fun h => ?_)
  · refine mjr_aload_n (x := l0) D_81_37 rfl ?_
    refine mjq_ic (v := (1 : Int32)) D_81_38 rfl ?_
    refine mjr_iload_n (x := l2) D_81_39 rfl ?_
    refine mjq_vN (As := [.int (1 : Int32), .int l2]) (rest := []) D_81_40 mr_5_177 V_82 rfl rfl rfl hR (Nat.le_refl _) h1 h2 h (fun  hp8 h => ?_)
    exact mjq_nret D_81_43 rfl h1 h2 h
  · refine mjr_aload_n (x := l0) D_81_23 rfl ?_
    refine mjq_gR D_81_24 fr_5_9 h (fun v9 h => ?_)
    refine mjr_iload (x := v3) D_81_27 rfl ?_
    refine mjr_iload_n (x := l1) D_81_29 rfl ?_
    refine mjr_iload_n (x := v1) D_81_30 rfl ?_
    refine mjq_vN (As := [.int v3, .int l1, .int v1]) (rest := []) D_81_31 mr_5_197 V_44 rfl rfl rfl hR (Nat.le_refl _) h1 h2 h (fun  hp10 h => ?_)
    refine mjr_goto (tgt := 43) D_81_34 rfl ?_
    exact mjq_nret D_81_43 rfl h1 h2 h
noncomputable def f_81 (R : mjR) (a0 : Nat) (a1 : Int32) (a2 : Int32) (hp : mjH) : mjU := b_81_0 R a0 a1 a2 hp
theorem c_81 {R : mjR} {d : Nat} (hR : mjC R d) {a0 : Nat} {a1 : Int32} {a2 : Int32} {hp : mjH} {q : Option Value × mjH} (h : f_81 R a0 a1 a2 hp = some q) : mjM (d + 1) 0 0 81 [.ref a0, .int a1, .int a2] hp (mjEq q) :=
  mjM_of Ja_81 (Nat.le_of_ble_eq_true rfl) (mjG.fg (lo' := [some (.ref a0), some (.int a1), some (.int a2), none, none]) (And.intro rfl (And.intro rfl (And.intro rfl True.intro))) ((t_81_0 hR (Nat.le_refl 0) (Nat.le_refl 0)) a0 a1 a2 hp q h))
def J_82 : mjI := (⟨"OwnerHeap$Machine", "fail", "(II)V"⟩, 5, prog_7_method_14_code, 3, none, 2, false)
theorem Ja_82 : mjMt 82 = some J_82 := by rfl
theorem D_82_0 : decode J_82.2.2.1 0 = .ok (.aload_n 0, 1) := dzq_42 (by decide +kernel)
theorem D_82_1 : decode J_82.2.2.1 1 = .ok (.iconst 3, 1) := dzq_6 (by decide +kernel)
theorem D_82_2 : decode J_82.2.2.1 2 = .ok (.putfield 44, 3) := dzq_181 (by decide +kernel)
theorem D_82_5 : decode J_82.2.2.1 5 = .ok (.aload_n 0, 1) := dzq_42 (by decide +kernel)
theorem D_82_6 : decode J_82.2.2.1 6 = .ok (.iload_n 1, 1) := dzq_27 (by decide +kernel)
theorem D_82_7 : decode J_82.2.2.1 7 = .ok (.putfield 50, 3) := dzq_181 (by decide +kernel)
theorem D_82_10 : decode J_82.2.2.1 10 = .ok (.aload_n 0, 1) := dzq_42 (by decide +kernel)
theorem D_82_11 : decode J_82.2.2.1 11 = .ok (.iload_n 2, 1) := dzq_28 (by decide +kernel)
theorem D_82_12 : decode J_82.2.2.1 12 = .ok (.putfield 40, 3) := dzq_181 (by decide +kernel)
theorem D_82_15 : decode J_82.2.2.1 15 = .ok (.aload_n 0, 1) := dzq_42 (by decide +kernel)
theorem D_82_16 : decode J_82.2.2.1 16 = .ok (.getfield 29, 3) := dzq_180 (by decide +kernel)
theorem D_82_19 : decode J_82.2.2.1 19 = .ok (.invokevirtual 62, 3) := dzq_182 (by decide +kernel)
theorem D_82_22 : decode J_82.2.2.1 22 = .ok (.return_, 1) := dzq_177 (by decide +kernel)
def P_82_0 (X : mjX) (d C S kc ks : Nat) (k : Nat → Int32 → Int32 → mjH → mjU) : Prop := ∀ (l0 : Nat) (l1 : Int32) (l2 : Int32) (hp : mjH) (q : Option Value × mjH), k l0 l1 l2 hp = some q → mjG X d C S J_82 (mjEq q) 0 [some (.ref l0), some (.int l1), some (.int l2)] [] hp kc ks
noncomputable def b_82_0 (R : mjR) (l0 : Nat) (l1 : Int32) (l2 : Int32) (hp : mjH) : mjU := pI hp l0 5 8 (3 : Int32) (fun hp1 => pI hp1 l0 5 10 l1 (fun hp2 => pI hp2 l0 5 11 l2 (fun hp3 => gR hp3 l0 5 1 (fun v4 => rV hp3 v4 2 (bN (R 36 [.ref v4] hp3) (fun  hp5 => some (none, hp5)))))))
theorem t_82_0 {X : mjX} {d C S kc ks : Nat} {R : mjR} (hR : mjC R d) (h1 : kc ≤ C) (h2 : ks ≤ S) : P_82_0 X (d + 1) C S kc ks (b_82_0 R) := by
  intro l0 l1 l2 hp q h
  unfold b_82_0 at h
  refine mjr_aload_n (x := l0) D_82_0 rfl ?_
  refine mjq_ic (v := (3 : Int32)) D_82_1 rfl ?_
  refine mjq_pI D_82_2 fr_5_44 rfl rfl h (fun hp1 h => ?_)
  refine mjr_aload_n (x := l0) D_82_5 rfl ?_
  refine mjr_iload_n (x := l1) D_82_6 rfl ?_
  refine mjq_pI D_82_7 fr_5_50 rfl rfl h (fun hp2 h => ?_)
  refine mjr_aload_n (x := l0) D_82_10 rfl ?_
  refine mjr_iload_n (x := l2) D_82_11 rfl ?_
  refine mjq_pI D_82_12 fr_5_40 rfl rfl h (fun hp3 h => ?_)
  refine mjr_aload_n (x := l0) D_82_15 rfl ?_
  refine mjq_gR D_82_16 fr_5_29 h (fun v4 h => ?_)
  refine mjq_vN (As := []) (rest := []) D_82_19 mr_5_62 V_36 rfl rfl rfl hR (Nat.le_refl _) h1 h2 h (fun  hp5 h => ?_)
  exact mjq_nret D_82_22 rfl h1 h2 h
noncomputable def f_82 (R : mjR) (a0 : Nat) (a1 : Int32) (a2 : Int32) (hp : mjH) : mjU := b_82_0 R a0 a1 a2 hp
theorem c_82 {R : mjR} {d : Nat} (hR : mjC R d) {a0 : Nat} {a1 : Int32} {a2 : Int32} {hp : mjH} {q : Option Value × mjH} (h : f_82 R a0 a1 a2 hp = some q) : mjM (d + 1) 0 0 82 [.ref a0, .int a1, .int a2] hp (mjEq q) :=
  mjM_of Ja_82 (Nat.le_of_ble_eq_true rfl) (mjG.fg (lo' := [some (.ref a0), some (.int a1), some (.int a2)]) (And.intro rfl (And.intro rfl (And.intro rfl True.intro))) ((t_82_0 hR (Nat.le_refl 0) (Nat.le_refl 0)) a0 a1 a2 hp q h))
def J_83 : mjI := (⟨"OwnerHeap$Machine", "sayNumber", "(I)V"⟩, 5, prog_7_method_15_code, 2, none, 1, false)
theorem Ja_83 : mjMt 83 = some J_83 := by rfl
theorem D_83_0 : decode J_83.2.2.1 0 = .ok (.aload_n 0, 1) := dzq_42 (by decide +kernel)
theorem D_83_1 : decode J_83.2.2.1 1 = .ok (.getfield 56, 3) := dzq_180 (by decide +kernel)
theorem D_83_4 : decode J_83.2.2.1 4 = .ok (.sipush 200, 3) := dzq_17 (by decide +kernel)
theorem D_83_7 : decode J_83.2.2.1 7 = .ok (.if_icmp .ge 13, 3) := dzq_162 (by decide +kernel)
theorem D_83_10 : decode J_83.2.2.1 10 = .ok (.aload_n 0, 1) := dzq_42 (by decide +kernel)
theorem D_83_11 : decode J_83.2.2.1 11 = .ok (.getfield 37, 3) := dzq_180 (by decide +kernel)
theorem D_83_14 : decode J_83.2.2.1 14 = .ok (.aload_n 0, 1) := dzq_42 (by decide +kernel)
theorem D_83_15 : decode J_83.2.2.1 15 = .ok (.getfield 56, 3) := dzq_180 (by decide +kernel)
theorem D_83_18 : decode J_83.2.2.1 18 = .ok (.iload_n 1, 1) := dzq_27 (by decide +kernel)
theorem D_83_19 : decode J_83.2.2.1 19 = .ok (.iastore, 1) := dzq_79 (by decide +kernel)
theorem D_83_20 : decode J_83.2.2.1 20 = .ok (.aload_n 0, 1) := dzq_42 (by decide +kernel)
theorem D_83_21 : decode J_83.2.2.1 21 = .ok (.dup, 1) := dzq_89 (by decide +kernel)
theorem D_83_22 : decode J_83.2.2.1 22 = .ok (.getfield 56, 3) := dzq_180 (by decide +kernel)
theorem D_83_25 : decode J_83.2.2.1 25 = .ok (.iconst 1, 1) := dzq_4 (by decide +kernel)
theorem D_83_26 : decode J_83.2.2.1 26 = .ok (.iadd, 1) := dzq_96 (by decide +kernel)
theorem D_83_27 : decode J_83.2.2.1 27 = .ok (.putfield 56, 3) := dzq_181 (by decide +kernel)
theorem D_83_30 : decode J_83.2.2.1 30 = .ok (.return_, 1) := dzq_177 (by decide +kernel)
def P_83_20 (X : mjX) (d C S kc ks : Nat) (k : Nat → mjH → mjU) : Prop := ∀ (l0 : Nat) (hp : mjH) (q : Option Value × mjH), k l0 hp = some q → mjG X d C S J_83 (mjEq q) 20 [some (.ref l0), none] [] hp kc ks
def P_83_0 (X : mjX) (d C S kc ks : Nat) (k : Nat → Int32 → mjH → mjU) : Prop := ∀ (l0 : Nat) (l1 : Int32) (hp : mjH) (q : Option Value × mjH), k l0 l1 hp = some q → mjG X d C S J_83 (mjEq q) 0 [some (.ref l0), some (.int l1)] [] hp kc ks
noncomputable def b_83_20 (R : mjR) (l0 : Nat) (hp : mjH) : mjU := gI hp l0 5 13 (fun v1 => pI hp l0 5 13 (v1 + (1 : Int32)) (fun hp2 => some (none, hp2)))
theorem t_83_20 {X : mjX} {d C S kc ks : Nat} {R : mjR} (hR : mjC R d) (h1 : kc ≤ C) (h2 : ks ≤ S) : P_83_20 X (d + 1) C S kc ks (b_83_20 R) := by
  intro l0 hp q h
  unfold b_83_20 at h
  refine mjr_aload_n (x := l0) D_83_20 rfl ?_
  refine mjr_dup D_83_21 rfl ?_
  refine mjq_gI D_83_22 fr_5_56 h (fun v1 h => ?_)
  refine mjq_ic (v := (1 : Int32)) D_83_25 rfl ?_
  refine mjr_iadd D_83_26 ?_
  refine mjq_pI D_83_27 fr_5_56 rfl rfl h (fun hp2 h => ?_)
  exact mjq_nret D_83_30 rfl h1 h2 h
noncomputable def b_83_0 (R : mjR) (l0 : Nat) (l1 : Int32) (hp : mjH) : mjU := gI hp l0 5 13 (fun v1 => (if (200 : Int32) ≤ v1 then b_83_20 R l0 hp else gR hp l0 5 14 (fun v2 => gI hp l0 5 13 (fun v3 => sI hp v2 v3 l1 (fun hp4 => b_83_20 R l0 hp4)))))
theorem t_83_0 {X : mjX} {d C S kc ks : Nat} {R : mjR} (hR : mjC R d) (h1 : kc ≤ C) (h2 : ks ≤ S) : P_83_0 X (d + 1) C S kc ks (b_83_0 R) := by
  intro l0 l1 hp q h
  unfold b_83_0 at h
  refine mjr_aload_n (x := l0) D_83_0 rfl ?_
  refine mjq_gI D_83_1 fr_5_56 h (fun v1 h => ?_)
  refine mjq_si (v := (200 : Int32)) D_83_4 rfl ?_
  refine mjq_icmp_ge (tgt := 20) D_83_7 rfl h (fun h => ?_) (fun h => ?_)
  · exact mjG.fg (lo' := [some (.ref l0), none]) (And.intro rfl True.intro) ((t_83_20 hR h1 h2) _ _ _ h)
  · refine mjr_aload_n (x := l0) D_83_10 rfl ?_
    refine mjq_gR D_83_11 fr_5_37 h (fun v2 h => ?_)
    refine mjr_aload_n (x := l0) D_83_14 rfl ?_
    refine mjq_gI D_83_15 fr_5_56 h (fun v3 h => ?_)
    refine mjr_iload_n (x := l1) D_83_18 rfl ?_
    refine mjq_sI D_83_19 h (fun hp4 h => ?_)
    exact mjG.fg (lo' := [some (.ref l0), none]) (And.intro rfl True.intro) ((t_83_20 hR h1 h2) _ _ _ h)
noncomputable def f_83 (R : mjR) (a0 : Nat) (a1 : Int32) (hp : mjH) : mjU := b_83_0 R a0 a1 hp
theorem c_83 {R : mjR} {d : Nat} (hR : mjC R d) {a0 : Nat} {a1 : Int32} {hp : mjH} {q : Option Value × mjH} (h : f_83 R a0 a1 hp = some q) : mjM (d + 1) 0 0 83 [.ref a0, .int a1] hp (mjEq q) :=
  mjM_of Ja_83 (Nat.le_of_ble_eq_true rfl) (mjG.fg (lo' := [some (.ref a0), some (.int a1)]) (And.intro rfl (And.intro rfl True.intro)) ((t_83_0 hR (Nat.le_refl 0) (Nat.le_refl 0)) a0 a1 hp q h))
def J_84 : mjI := (⟨"OwnerHeap$Machine", "giveBack", "(I)V"⟩, 5, prog_7_method_16_code, 3, none, 1, false)
theorem Ja_84 : mjMt 84 = some J_84 := by rfl
theorem D_84_0 : decode J_84.2.2.1 0 = .ok (.aload_n 0, 1) := dzq_42 (by decide +kernel)
theorem D_84_1 : decode J_84.2.2.1 1 = .ok (.getfield 29, 3) := dzq_180 (by decide +kernel)
theorem D_84_4 : decode J_84.2.2.1 4 = .ok (.invokevirtual 131, 3) := dzq_182 (by decide +kernel)
theorem D_84_7 : decode J_84.2.2.1 7 = .ok (.istore_n 2, 1) := dzq_61 (by decide +kernel)
theorem D_84_8 : decode J_84.2.2.1 8 = .ok (.aload_n 0, 1) := dzq_42 (by decide +kernel)
theorem D_84_9 : decode J_84.2.2.1 9 = .ok (.getfield 29, 3) := dzq_180 (by decide +kernel)
theorem D_84_12 : decode J_84.2.2.1 12 = .ok (.iload_n 2, 1) := dzq_28 (by decide +kernel)
theorem D_84_13 : decode J_84.2.2.1 13 = .ok (.putfield 184, 3) := dzq_181 (by decide +kernel)
theorem D_84_16 : decode J_84.2.2.1 16 = .ok (.iload_n 2, 1) := dzq_28 (by decide +kernel)
theorem D_84_17 : decode J_84.2.2.1 17 = .ok (.ifCond .ne 16, 3) := dzq_154 (by decide +kernel)
theorem D_84_20 : decode J_84.2.2.1 20 = .ok (.aload_n 0, 1) := dzq_42 (by decide +kernel)
theorem D_84_21 : decode J_84.2.2.1 21 = .ok (.iconst 2, 1) := dzq_5 (by decide +kernel)
theorem D_84_22 : decode J_84.2.2.1 22 = .ok (.putfield 44, 3) := dzq_181 (by decide +kernel)
theorem D_84_25 : decode J_84.2.2.1 25 = .ok (.aload_n 0, 1) := dzq_42 (by decide +kernel)
theorem D_84_26 : decode J_84.2.2.1 26 = .ok (.iload_n 1, 1) := dzq_27 (by decide +kernel)
theorem D_84_27 : decode J_84.2.2.1 27 = .ok (.putfield 47, 3) := dzq_181 (by decide +kernel)
theorem D_84_30 : decode J_84.2.2.1 30 = .ok (.goto 21, 3) := dzq_167 (by decide +kernel)
theorem D_84_33 : decode J_84.2.2.1 33 = .ok (.aload_n 0, 1) := dzq_42 (by decide +kernel)
theorem D_84_34 : decode J_84.2.2.1 34 = .ok (.aload_n 0, 1) := dzq_42 (by decide +kernel)
theorem D_84_35 : decode J_84.2.2.1 35 = .ok (.getfield 29, 3) := dzq_180 (by decide +kernel)
theorem D_84_38 : decode J_84.2.2.1 38 = .ok (.getfield 187, 3) := dzq_180 (by decide +kernel)
theorem D_84_41 : decode J_84.2.2.1 41 = .ok (.iload_n 2, 1) := dzq_28 (by decide +kernel)
theorem D_84_42 : decode J_84.2.2.1 42 = .ok (.iaload, 1) := dzq_46 (by decide +kernel)
theorem D_84_43 : decode J_84.2.2.1 43 = .ok (.putfield 93, 3) := dzq_181 (by decide +kernel)
theorem D_84_46 : decode J_84.2.2.1 46 = .ok (.aload_n 0, 1) := dzq_42 (by decide +kernel)
theorem D_84_47 : decode J_84.2.2.1 47 = .ok (.iload_n 1, 1) := dzq_27 (by decide +kernel)
theorem D_84_48 : decode J_84.2.2.1 48 = .ok (.invokevirtual 128, 3) := dzq_182 (by decide +kernel)
theorem D_84_51 : decode J_84.2.2.1 51 = .ok (.return_, 1) := dzq_177 (by decide +kernel)
def P_84_0 (X : mjX) (d C S kc ks : Nat) (k : Nat → Int32 → mjH → mjU) : Prop := ∀ (l0 : Nat) (l1 : Int32) (hp : mjH) (q : Option Value × mjH), k l0 l1 hp = some q → mjG X d C S J_84 (mjEq q) 0 [some (.ref l0), some (.int l1), none] [] hp kc ks
noncomputable def b_84_0 (R : mjR) (l0 : Nat) (l1 : Int32) (hp : mjH) : mjU := gR hp l0 5 1 (fun v1 => rV hp v1 2 (bI (R 38 [.ref v1] hp) (fun v2 hp3 => gR hp3 l0 5 1 (fun v4 => pI hp3 v4 2 0 v2 (fun hp5 => (if v2 = 0 then pI hp5 l0 5 8 (2 : Int32) (fun hp11 => pI hp11 l0 5 9 l1 (fun hp12 => some (none, hp12))) else gR hp5 l0 5 1 (fun v6 => gR hp5 v6 2 4 (fun v7 => aI hp5 v7 v2 (fun v8 => pI hp5 l0 5 4 v8 (fun hp9 => rV hp9 l0 5 (bN (R 79 [.ref l0, .int l1] hp9) (fun  hp10 => some (none, hp10)))))))))))))
theorem t_84_0 {X : mjX} {d C S kc ks : Nat} {R : mjR} (hR : mjC R d) (h1 : kc ≤ C) (h2 : ks ≤ S) : P_84_0 X (d + 1) C S kc ks (b_84_0 R) := by
  intro l0 l1 hp q h
  unfold b_84_0 at h
  refine mjr_aload_n (x := l0) D_84_0 rfl ?_
  refine mjq_gR D_84_1 fr_5_29 h (fun v1 h => ?_)
  refine mjq_vI (As := []) (rest := []) D_84_4 mr_5_131 V_38 rfl rfl rfl hR (Nat.le_refl _) h1 h2 h (fun v2 hp3 h => ?_)
  refine mjq_istore_n (lo' := [some (.ref l0), some (.int l1), some (.int v2)]) D_84_7 (Nat.le_of_ble_eq_true rfl) rfl ?_
  refine mjr_aload_n (x := l0) D_84_8 rfl ?_
  refine mjq_gR D_84_9 fr_5_29 h (fun v4 h => ?_)
  refine mjr_iload_n (x := v2) D_84_12 rfl ?_
  refine mjq_pI D_84_13 fr_5_184 rfl rfl h (fun hp5 h => ?_)
  refine mjr_iload_n (x := v2) D_84_16 rfl ?_
  refine mjq_if_ne (tgt := 33) D_84_17 rfl h (fun h => ?_) (fun h => ?_)
  · refine mjr_aload_n (x := l0) D_84_33 rfl ?_
    refine mjr_aload_n (x := l0) D_84_34 rfl ?_
    refine mjq_gR D_84_35 fr_5_29 h (fun v6 h => ?_)
    refine mjq_gR D_84_38 fr_5_187 h (fun v7 h => ?_)
    refine mjr_iload_n (x := v2) D_84_41 rfl ?_
    refine mjq_aI D_84_42 h (fun v8 h => ?_)
    refine mjq_pI D_84_43 fr_5_93 rfl rfl h (fun hp9 h => ?_)
    refine mjr_aload_n (x := l0) D_84_46 rfl ?_
    refine mjr_iload_n (x := l1) D_84_47 rfl ?_
    refine mjq_vN (As := [.int l1]) (rest := []) D_84_48 mr_5_128 V_79 rfl rfl rfl hR (Nat.le_refl _) h1 h2 h (fun  hp10 h => ?_)
    exact mjq_nret D_84_51 rfl h1 h2 h
  · refine mjr_aload_n (x := l0) D_84_20 rfl ?_
    refine mjq_ic (v := (2 : Int32)) D_84_21 rfl ?_
    refine mjq_pI D_84_22 fr_5_44 rfl rfl h (fun hp11 h => ?_)
    refine mjr_aload_n (x := l0) D_84_25 rfl ?_
    refine mjr_iload_n (x := l1) D_84_26 rfl ?_
    refine mjq_pI D_84_27 fr_5_47 rfl rfl h (fun hp12 h => ?_)
    refine mjr_goto (tgt := 51) D_84_30 rfl ?_
    exact mjq_nret D_84_51 rfl h1 h2 h
noncomputable def f_84 (R : mjR) (a0 : Nat) (a1 : Int32) (hp : mjH) : mjU := b_84_0 R a0 a1 hp
theorem c_84 {R : mjR} {d : Nat} (hR : mjC R d) {a0 : Nat} {a1 : Int32} {hp : mjH} {q : Option Value × mjH} (h : f_84 R a0 a1 hp = some q) : mjM (d + 1) 0 0 84 [.ref a0, .int a1] hp (mjEq q) :=
  mjM_of Ja_84 (Nat.le_of_ble_eq_true rfl) (mjG.fg (lo' := [some (.ref a0), some (.int a1), none]) (And.intro rfl (And.intro rfl True.intro)) ((t_84_0 hR (Nat.le_refl 0) (Nat.le_refl 0)) a0 a1 hp q h))
def J_85 : mjI := (⟨"OwnerHeap$Machine", "workOperator", "(II)V"⟩, 5, prog_7_method_9_code, 5, none, 2, false)
theorem Ja_85 : mjMt 85 = some J_85 := by rfl
theorem D_85_0 : decode J_85.2.2.1 0 = .ok (.aload_n 0, 1) := dzq_42 (by decide +kernel)
theorem D_85_1 : decode J_85.2.2.1 1 = .ok (.invokevirtual 139, 3) := dzq_182 (by decide +kernel)
theorem D_85_4 : decode J_85.2.2.1 4 = .ok (.istore_n 3, 1) := dzq_62 (by decide +kernel)
theorem D_85_5 : decode J_85.2.2.1 5 = .ok (.aload_n 0, 1) := dzq_42 (by decide +kernel)
theorem D_85_6 : decode J_85.2.2.1 6 = .ok (.invokevirtual 139, 3) := dzq_182 (by decide +kernel)
theorem D_85_9 : decode J_85.2.2.1 9 = .ok (.istore 4, 2) := dzq_54 (by decide +kernel)
theorem D_85_11 : decode J_85.2.2.1 11 = .ok (.iload_n 1, 1) := dzq_27 (by decide +kernel)
theorem D_85_12 : decode J_85.2.2.1 12 = .ok (.tableswitch 125 17 23 #[44, 55, 66, 77, 77, 89, 107], 44) := by decide +kernel
theorem D_85_56 : decode J_85.2.2.1 56 = .ok (.aload_n 0, 1) := dzq_42 (by decide +kernel)
theorem D_85_57 : decode J_85.2.2.1 57 = .ok (.iload 4, 2) := dzq_21 (by decide +kernel)
theorem D_85_59 : decode J_85.2.2.1 59 = .ok (.iload_n 3, 1) := dzq_29 (by decide +kernel)
theorem D_85_60 : decode J_85.2.2.1 60 = .ok (.iadd, 1) := dzq_96 (by decide +kernel)
theorem D_85_61 : decode J_85.2.2.1 61 = .ok (.invokevirtual 128, 3) := dzq_182 (by decide +kernel)
theorem D_85_64 : decode J_85.2.2.1 64 = .ok (.goto 88, 3) := dzq_167 (by decide +kernel)
theorem D_85_67 : decode J_85.2.2.1 67 = .ok (.aload_n 0, 1) := dzq_42 (by decide +kernel)
theorem D_85_68 : decode J_85.2.2.1 68 = .ok (.iload 4, 2) := dzq_21 (by decide +kernel)
theorem D_85_70 : decode J_85.2.2.1 70 = .ok (.iload_n 3, 1) := dzq_29 (by decide +kernel)
theorem D_85_71 : decode J_85.2.2.1 71 = .ok (.isub, 1) := dzq_100 (by decide +kernel)
theorem D_85_72 : decode J_85.2.2.1 72 = .ok (.invokevirtual 128, 3) := dzq_182 (by decide +kernel)
theorem D_85_75 : decode J_85.2.2.1 75 = .ok (.goto 77, 3) := dzq_167 (by decide +kernel)
theorem D_85_78 : decode J_85.2.2.1 78 = .ok (.aload_n 0, 1) := dzq_42 (by decide +kernel)
theorem D_85_79 : decode J_85.2.2.1 79 = .ok (.iload 4, 2) := dzq_21 (by decide +kernel)
theorem D_85_81 : decode J_85.2.2.1 81 = .ok (.iload_n 3, 1) := dzq_29 (by decide +kernel)
theorem D_85_82 : decode J_85.2.2.1 82 = .ok (.imul, 1) := dzq_104 (by decide +kernel)
theorem D_85_83 : decode J_85.2.2.1 83 = .ok (.invokevirtual 128, 3) := dzq_182 (by decide +kernel)
theorem D_85_86 : decode J_85.2.2.1 86 = .ok (.goto 66, 3) := dzq_167 (by decide +kernel)
theorem D_85_89 : decode J_85.2.2.1 89 = .ok (.aload_n 0, 1) := dzq_42 (by decide +kernel)
theorem D_85_90 : decode J_85.2.2.1 90 = .ok (.iload_n 1, 1) := dzq_27 (by decide +kernel)
theorem D_85_91 : decode J_85.2.2.1 91 = .ok (.iload 4, 2) := dzq_21 (by decide +kernel)
theorem D_85_93 : decode J_85.2.2.1 93 = .ok (.iload_n 3, 1) := dzq_29 (by decide +kernel)
theorem D_85_94 : decode J_85.2.2.1 94 = .ok (.iload_n 2, 1) := dzq_28 (by decide +kernel)
theorem D_85_95 : decode J_85.2.2.1 95 = .ok (.invokevirtual 180, 3) := dzq_182 (by decide +kernel)
theorem D_85_98 : decode J_85.2.2.1 98 = .ok (.goto 54, 3) := dzq_167 (by decide +kernel)
theorem D_85_101 : decode J_85.2.2.1 101 = .ok (.aload_n 0, 1) := dzq_42 (by decide +kernel)
theorem D_85_102 : decode J_85.2.2.1 102 = .ok (.iload 4, 2) := dzq_21 (by decide +kernel)
theorem D_85_104 : decode J_85.2.2.1 104 = .ok (.iload_n 3, 1) := dzq_29 (by decide +kernel)
theorem D_85_105 : decode J_85.2.2.1 105 = .ok (.if_icmp .ge 7, 3) := dzq_162 (by decide +kernel)
theorem D_85_108 : decode J_85.2.2.1 108 = .ok (.iconst 1, 1) := dzq_4 (by decide +kernel)
theorem D_85_109 : decode J_85.2.2.1 109 = .ok (.goto 4, 3) := dzq_167 (by decide +kernel)
theorem D_85_112 : decode J_85.2.2.1 112 = .ok (.iconst 0, 1) := dzq_3 (by decide +kernel)
theorem D_85_113 : decode J_85.2.2.1 113 = .ok (.invokevirtual 128, 3) := dzq_182 (by decide +kernel)
theorem D_85_116 : decode J_85.2.2.1 116 = .ok (.goto 36, 3) := dzq_167 (by decide +kernel)
theorem D_85_119 : decode J_85.2.2.1 119 = .ok (.aload_n 0, 1) := dzq_42 (by decide +kernel)
theorem D_85_120 : decode J_85.2.2.1 120 = .ok (.iload 4, 2) := dzq_21 (by decide +kernel)
theorem D_85_122 : decode J_85.2.2.1 122 = .ok (.iload_n 3, 1) := dzq_29 (by decide +kernel)
theorem D_85_123 : decode J_85.2.2.1 123 = .ok (.if_icmp .ne 7, 3) := dzq_160 (by decide +kernel)
theorem D_85_126 : decode J_85.2.2.1 126 = .ok (.iconst 1, 1) := dzq_4 (by decide +kernel)
theorem D_85_127 : decode J_85.2.2.1 127 = .ok (.goto 4, 3) := dzq_167 (by decide +kernel)
theorem D_85_130 : decode J_85.2.2.1 130 = .ok (.iconst 0, 1) := dzq_3 (by decide +kernel)
theorem D_85_131 : decode J_85.2.2.1 131 = .ok (.invokevirtual 128, 3) := dzq_182 (by decide +kernel)
theorem D_85_134 : decode J_85.2.2.1 134 = .ok (.goto 18, 3) := dzq_167 (by decide +kernel)
theorem D_85_137 : decode J_85.2.2.1 137 = .ok (.aload_n 0, 1) := dzq_42 (by decide +kernel)
theorem D_85_138 : decode J_85.2.2.1 138 = .ok (.iload 4, 2) := dzq_21 (by decide +kernel)
theorem D_85_140 : decode J_85.2.2.1 140 = .ok (.iload_n 3, 1) := dzq_29 (by decide +kernel)
theorem D_85_141 : decode J_85.2.2.1 141 = .ok (.if_icmp .eq 7, 3) := dzq_159 (by decide +kernel)
theorem D_85_144 : decode J_85.2.2.1 144 = .ok (.iconst 1, 1) := dzq_4 (by decide +kernel)
theorem D_85_145 : decode J_85.2.2.1 145 = .ok (.goto 4, 3) := dzq_167 (by decide +kernel)
theorem D_85_148 : decode J_85.2.2.1 148 = .ok (.iconst 0, 1) := dzq_3 (by decide +kernel)
theorem D_85_149 : decode J_85.2.2.1 149 = .ok (.invokevirtual 128, 3) := dzq_182 (by decide +kernel)
theorem D_85_152 : decode J_85.2.2.1 152 = .ok (.return_, 1) := dzq_177 (by decide +kernel)
def P_85_89 (X : mjX) (d C S kc ks : Nat) (k : Nat → Int32 → Int32 → Int32 → Int32 → mjH → mjU) : Prop := ∀ (l0 : Nat) (l1 : Int32) (l2 : Int32) (l3 : Int32) (l4 : Int32) (hp : mjH) (q : Option Value × mjH), k l0 l1 l2 l3 l4 hp = some q → mjG X d C S J_85 (mjEq q) 89 [some (.ref l0), some (.int l1), some (.int l2), some (.int l3), some (.int l4)] [] hp kc ks
def P_85_113 (X : mjX) (d C S kc ks : Nat) (k : Nat → Int32 → mjH → mjU) : Prop := ∀ (s0 : Nat) (s1 : Int32) (hp : mjH) (q : Option Value × mjH), k s0 s1 hp = some q → mjG X d C S J_85 (mjEq q) 113 [none, none, none, none, none] [.int s1, .ref s0] hp kc ks
def P_85_131 (X : mjX) (d C S kc ks : Nat) (k : Nat → Int32 → mjH → mjU) : Prop := ∀ (s0 : Nat) (s1 : Int32) (hp : mjH) (q : Option Value × mjH), k s0 s1 hp = some q → mjG X d C S J_85 (mjEq q) 131 [none, none, none, none, none] [.int s1, .ref s0] hp kc ks
def P_85_149 (X : mjX) (d C S kc ks : Nat) (k : Nat → Int32 → mjH → mjU) : Prop := ∀ (s0 : Nat) (s1 : Int32) (hp : mjH) (q : Option Value × mjH), k s0 s1 hp = some q → mjG X d C S J_85 (mjEq q) 149 [none, none, none, none, none] [.int s1, .ref s0] hp kc ks
def P_85_0 (X : mjX) (d C S kc ks : Nat) (k : Nat → Int32 → Int32 → mjH → mjU) : Prop := ∀ (l0 : Nat) (l1 : Int32) (l2 : Int32) (hp : mjH) (q : Option Value × mjH), k l0 l1 l2 hp = some q → mjG X d C S J_85 (mjEq q) 0 [some (.ref l0), some (.int l1), some (.int l2), none, none] [] hp kc ks
noncomputable def b_85_89 (R : mjR) (l0 : Nat) (l1 : Int32) (l2 : Int32) (l3 : Int32) (l4 : Int32) (hp : mjH) : mjU := rV hp l0 5 (bN (R 86 [.ref l0, .int l1, .int l4, .int l3, .int l2] hp) (fun  hp1 => some (none, hp1)))
theorem t_85_89 {X : mjX} {d C S kc ks : Nat} {R : mjR} (hR : mjC R d) (h1 : kc ≤ C) (h2 : ks ≤ S) : P_85_89 X (d + 1) C S kc ks (b_85_89 R) := by
  intro l0 l1 l2 l3 l4 hp q h
  unfold b_85_89 at h
  refine mjr_aload_n (x := l0) D_85_89 rfl ?_
  refine mjr_iload_n (x := l1) D_85_90 rfl ?_
  refine mjr_iload (x := l4) D_85_91 rfl ?_
  refine mjr_iload_n (x := l3) D_85_93 rfl ?_
  refine mjr_iload_n (x := l2) D_85_94 rfl ?_
  refine mjq_vN (As := [.int l1, .int l4, .int l3, .int l2]) (rest := []) D_85_95 mr_5_180 V_86 rfl rfl rfl hR (Nat.le_refl _) h1 h2 h (fun  hp1 h => ?_)
  refine mjr_goto (tgt := 152) D_85_98 rfl ?_
  exact mjq_nret D_85_152 rfl h1 h2 h
noncomputable def b_85_113 (R : mjR) (s0 : Nat) (s1 : Int32) (hp : mjH) : mjU := rV hp s0 5 (bN (R 79 [.ref s0, .int s1] hp) (fun  hp1 => some (none, hp1)))
theorem t_85_113 {X : mjX} {d C S kc ks : Nat} {R : mjR} (hR : mjC R d) (h1 : kc ≤ C) (h2 : ks ≤ S) : P_85_113 X (d + 1) C S kc ks (b_85_113 R) := by
  intro s0 s1 hp q h
  unfold b_85_113 at h
  refine mjq_vN (As := [.int s1]) (rest := []) D_85_113 mr_5_128 V_79 rfl rfl rfl hR (Nat.le_refl _) h1 h2 h (fun  hp1 h => ?_)
  refine mjr_goto (tgt := 152) D_85_116 rfl ?_
  exact mjq_nret D_85_152 rfl h1 h2 h
noncomputable def b_85_131 (R : mjR) (s0 : Nat) (s1 : Int32) (hp : mjH) : mjU := rV hp s0 5 (bN (R 79 [.ref s0, .int s1] hp) (fun  hp1 => some (none, hp1)))
theorem t_85_131 {X : mjX} {d C S kc ks : Nat} {R : mjR} (hR : mjC R d) (h1 : kc ≤ C) (h2 : ks ≤ S) : P_85_131 X (d + 1) C S kc ks (b_85_131 R) := by
  intro s0 s1 hp q h
  unfold b_85_131 at h
  refine mjq_vN (As := [.int s1]) (rest := []) D_85_131 mr_5_128 V_79 rfl rfl rfl hR (Nat.le_refl _) h1 h2 h (fun  hp1 h => ?_)
  refine mjr_goto (tgt := 152) D_85_134 rfl ?_
  exact mjq_nret D_85_152 rfl h1 h2 h
noncomputable def b_85_149 (R : mjR) (s0 : Nat) (s1 : Int32) (hp : mjH) : mjU := rV hp s0 5 (bN (R 79 [.ref s0, .int s1] hp) (fun  hp1 => some (none, hp1)))
theorem t_85_149 {X : mjX} {d C S kc ks : Nat} {R : mjR} (hR : mjC R d) (h1 : kc ≤ C) (h2 : ks ≤ S) : P_85_149 X (d + 1) C S kc ks (b_85_149 R) := by
  intro s0 s1 hp q h
  unfold b_85_149 at h
  refine mjq_vN (As := [.int s1]) (rest := []) D_85_149 mr_5_128 V_79 rfl rfl rfl hR (Nat.le_refl _) h1 h2 h (fun  hp1 h => ?_)
  exact mjq_nret D_85_152 rfl h1 h2 h
noncomputable def b_85_0 (R : mjR) (l0 : Nat) (l1 : Int32) (l2 : Int32) (hp : mjH) : mjU := rV hp l0 5 (bI (R 80 [.ref l0] hp) (fun v1 hp2 => rV hp2 l0 5 (bI (R 80 [.ref l0] hp2) (fun v3 hp4 => (if l1 = (17 : Int32) then rV hp4 l0 5 (bN (R 79 [.ref l0, .int (v3 + v1)] hp4) (fun  hp6 => some (none, hp6))) else if l1 = (18 : Int32) then rV hp4 l0 5 (bN (R 79 [.ref l0, .int (v3 - v1)] hp4) (fun  hp8 => some (none, hp8))) else if l1 = (19 : Int32) then rV hp4 l0 5 (bN (R 79 [.ref l0, .int (v3 * v1)] hp4) (fun  hp10 => some (none, hp10))) else if l1 = (20 : Int32) then b_85_89 R l0 l1 l2 v1 v3 hp4 else if l1 = (21 : Int32) then b_85_89 R l0 l1 l2 v1 v3 hp4 else if l1 = (22 : Int32) then (if v1 ≤ v3 then b_85_113 R l0 (0 : Int32) hp4 else b_85_113 R l0 (1 : Int32) hp4) else if l1 = (23 : Int32) then (if v3 = v1 then b_85_131 R l0 (1 : Int32) hp4 else b_85_131 R l0 (0 : Int32) hp4) else (if v3 = v1 then b_85_149 R l0 (0 : Int32) hp4 else b_85_149 R l0 (1 : Int32) hp4))))))
theorem t_85_0 {X : mjX} {d C S kc ks : Nat} {R : mjR} (hR : mjC R d) (h1 : kc ≤ C) (h2 : ks ≤ S) : P_85_0 X (d + 1) C S kc ks (b_85_0 R) := by
  intro l0 l1 l2 hp q h
  unfold b_85_0 at h
  refine mjr_aload_n (x := l0) D_85_0 rfl ?_
  refine mjq_vI (As := []) (rest := []) D_85_1 mr_5_139 V_80 rfl rfl rfl hR (Nat.le_refl _) h1 h2 h (fun v1 hp2 h => ?_)
  refine mjq_istore_n (lo' := [some (.ref l0), some (.int l1), some (.int l2), some (.int v1), none]) D_85_4 (Nat.le_of_ble_eq_true rfl) rfl ?_
  refine mjr_aload_n (x := l0) D_85_5 rfl ?_
  refine mjq_vI (As := []) (rest := []) D_85_6 mr_5_139 V_80 rfl rfl rfl hR (Nat.le_refl _) h1 h2 h (fun v3 hp4 h => ?_)
  refine mjq_istore (lo' := [some (.ref l0), some (.int l1), some (.int l2), some (.int v1), some (.int v3)]) D_85_9 (Nat.le_of_ble_eq_true rfl) rfl ?_
  refine mjr_iload_n (x := l1) D_85_11 rfl ?_
  refine mjq_tsw (c := (17 : Int32)) (tgt := 56) D_85_12 (by decide) (by decide) rfl rfl h (fun h => ?_) (fun n5 h => ?_)
  · refine mjr_aload_n (x := l0) D_85_56 rfl ?_
    refine mjr_iload (x := v3) D_85_57 rfl ?_
    refine mjr_iload_n (x := v1) D_85_59 rfl ?_
    refine mjr_iadd D_85_60 ?_
    refine mjq_vN (As := [.int (v3 + v1)]) (rest := []) D_85_61 mr_5_128 V_79 rfl rfl rfl hR (Nat.le_refl _) h1 h2 h (fun  hp6 h => ?_)
    refine mjr_goto (tgt := 152) D_85_64 rfl ?_
    exact mjq_nret D_85_152 rfl h1 h2 h
  refine mjq_tsw (c := (18 : Int32)) (tgt := 67) D_85_12 (by decide) (by decide) rfl rfl h (fun h => ?_) (fun n7 h => ?_)
  · refine mjr_aload_n (x := l0) D_85_67 rfl ?_
    refine mjr_iload (x := v3) D_85_68 rfl ?_
    refine mjr_iload_n (x := v1) D_85_70 rfl ?_
    refine mjr_isub D_85_71 ?_
    refine mjq_vN (As := [.int (v3 - v1)]) (rest := []) D_85_72 mr_5_128 V_79 rfl rfl rfl hR (Nat.le_refl _) h1 h2 h (fun  hp8 h => ?_)
    refine mjr_goto (tgt := 152) D_85_75 rfl ?_
    exact mjq_nret D_85_152 rfl h1 h2 h
  refine mjq_tsw (c := (19 : Int32)) (tgt := 78) D_85_12 (by decide) (by decide) rfl rfl h (fun h => ?_) (fun n9 h => ?_)
  · refine mjr_aload_n (x := l0) D_85_78 rfl ?_
    refine mjr_iload (x := v3) D_85_79 rfl ?_
    refine mjr_iload_n (x := v1) D_85_81 rfl ?_
    refine mjr_imul D_85_82 ?_
    refine mjq_vN (As := [.int (v3 * v1)]) (rest := []) D_85_83 mr_5_128 V_79 rfl rfl rfl hR (Nat.le_refl _) h1 h2 h (fun  hp10 h => ?_)
    refine mjr_goto (tgt := 152) D_85_86 rfl ?_
    exact mjq_nret D_85_152 rfl h1 h2 h
  refine mjq_tsw (c := (20 : Int32)) (tgt := 89) D_85_12 (by decide) (by decide) rfl rfl h (fun h => ?_) (fun n11 h => ?_)
  · exact (t_85_89 hR h1 h2) _ _ _ _ _ _ _ h
  refine mjq_tsw (c := (21 : Int32)) (tgt := 89) D_85_12 (by decide) (by decide) rfl rfl h (fun h => ?_) (fun n12 h => ?_)
  · exact (t_85_89 hR h1 h2) _ _ _ _ _ _ _ h
  refine mjq_tsw (c := (22 : Int32)) (tgt := 101) D_85_12 (by decide) (by decide) rfl rfl h (fun h => ?_) (fun n13 h => ?_)
  · refine mjr_aload_n (x := l0) D_85_101 rfl ?_
    refine mjr_iload (x := v3) D_85_102 rfl ?_
    refine mjr_iload_n (x := v1) D_85_104 rfl ?_
    refine mjq_icmp_ge (tgt := 112) D_85_105 rfl h (fun h => ?_) (fun h => ?_)
    · refine mjq_ic (v := (0 : Int32)) D_85_112 rfl ?_
      exact mjG.fg (lo' := [none, none, none, none, none]) True.intro ((t_85_113 hR h1 h2) _ _ _ _ h)
    · refine mjq_ic (v := (1 : Int32)) D_85_108 rfl ?_
      refine mjr_goto (tgt := 113) D_85_109 rfl ?_
      exact mjG.fg (lo' := [none, none, none, none, none]) True.intro ((t_85_113 hR h1 h2) _ _ _ _ h)
  refine mjq_tsw (c := (23 : Int32)) (tgt := 119) D_85_12 (by decide) (by decide) rfl rfl h (fun h => ?_) (fun n14 h => ?_)
  · refine mjr_aload_n (x := l0) D_85_119 rfl ?_
    refine mjr_iload (x := v3) D_85_120 rfl ?_
    refine mjr_iload_n (x := v1) D_85_122 rfl ?_
    refine mjq_icmp_ne (tgt := 130) D_85_123 rfl h (fun h => ?_) (fun h => ?_)
    · refine mjq_ic (v := (0 : Int32)) D_85_130 rfl ?_
      exact mjG.fg (lo' := [none, none, none, none, none]) True.intro ((t_85_131 hR h1 h2) _ _ _ _ h)
    · refine mjq_ic (v := (1 : Int32)) D_85_126 rfl ?_
      refine mjr_goto (tgt := 131) D_85_127 rfl ?_
      exact mjG.fg (lo' := [none, none, none, none, none]) True.intro ((t_85_131 hR h1 h2) _ _ _ _ h)
  refine mjr_tableOut (tgt := 137) D_85_12 (mj_swout [(17 : Int32), (18 : Int32), (19 : Int32), (20 : Int32), (21 : Int32), (22 : Int32), (23 : Int32)] (by decide) (mj_all1 n5 (mj_all1 n7 (mj_all1 n9 (mj_all1 n11 (mj_all1 n12 (mj_all1 n13 (mj_all1 n14 mj_all0)))))))) rfl ?_
  refine mjr_aload_n (x := l0) D_85_137 rfl ?_
  refine mjr_iload (x := v3) D_85_138 rfl ?_
  refine mjr_iload_n (x := v1) D_85_140 rfl ?_
  refine mjq_icmp_eq (tgt := 148) D_85_141 rfl h (fun h => ?_) (fun h => ?_)
  · refine mjq_ic (v := (0 : Int32)) D_85_148 rfl ?_
    exact mjG.fg (lo' := [none, none, none, none, none]) True.intro ((t_85_149 hR h1 h2) _ _ _ _ h)
  · refine mjq_ic (v := (1 : Int32)) D_85_144 rfl ?_
    refine mjr_goto (tgt := 149) D_85_145 rfl ?_
    exact mjG.fg (lo' := [none, none, none, none, none]) True.intro ((t_85_149 hR h1 h2) _ _ _ _ h)
noncomputable def f_85 (R : mjR) (a0 : Nat) (a1 : Int32) (a2 : Int32) (hp : mjH) : mjU := b_85_0 R a0 a1 a2 hp
theorem c_85 {R : mjR} {d : Nat} (hR : mjC R d) {a0 : Nat} {a1 : Int32} {a2 : Int32} {hp : mjH} {q : Option Value × mjH} (h : f_85 R a0 a1 a2 hp = some q) : mjM (d + 1) 0 0 85 [.ref a0, .int a1, .int a2] hp (mjEq q) :=
  mjM_of Ja_85 (Nat.le_of_ble_eq_true rfl) (mjG.fg (lo' := [some (.ref a0), some (.int a1), some (.int a2), none, none]) (And.intro rfl (And.intro rfl (And.intro rfl True.intro))) ((t_85_0 hR (Nat.le_refl 0) (Nat.le_refl 0)) a0 a1 a2 hp q h))
def J_86 : mjI := (⟨"OwnerHeap$Machine", "divide", "(IIII)V"⟩, 5, prog_7_method_10_code, 5, none, 4, false)
theorem Ja_86 : mjMt 86 = some J_86 := by rfl
theorem D_86_0 : decode J_86.2.2.1 0 = .ok (.iload_n 3, 1) := dzq_29 (by decide +kernel)
theorem D_86_1 : decode J_86.2.2.1 1 = .ok (.ifCond .ne 13, 3) := dzq_154 (by decide +kernel)
theorem D_86_4 : decode J_86.2.2.1 4 = .ok (.aload_n 0, 1) := dzq_42 (by decide +kernel)
theorem D_86_5 : decode J_86.2.2.1 5 = .ok (.iconst 2, 1) := dzq_5 (by decide +kernel)
theorem D_86_6 : decode J_86.2.2.1 6 = .ok (.iload 4, 2) := dzq_21 (by decide +kernel)
theorem D_86_8 : decode J_86.2.2.1 8 = .ok (.invokevirtual 177, 3) := dzq_182 (by decide +kernel)
theorem D_86_11 : decode J_86.2.2.1 11 = .ok (.goto 22, 3) := dzq_167 (by decide +kernel)
theorem D_86_14 : decode J_86.2.2.1 14 = .ok (.aload_n 0, 1) := dzq_42 (by decide +kernel)
theorem D_86_15 : decode J_86.2.2.1 15 = .ok (.iload_n 1, 1) := dzq_27 (by decide +kernel)
theorem D_86_16 : decode J_86.2.2.1 16 = .ok (.bipush 20, 2) := dzq_16 (by decide +kernel)
theorem D_86_18 : decode J_86.2.2.1 18 = .ok (.if_icmp .ne 9, 3) := dzq_160 (by decide +kernel)
theorem D_86_21 : decode J_86.2.2.1 21 = .ok (.iload_n 2, 1) := dzq_28 (by decide +kernel)
theorem D_86_22 : decode J_86.2.2.1 22 = .ok (.iload_n 3, 1) := dzq_29 (by decide +kernel)
theorem D_86_23 : decode J_86.2.2.1 23 = .ok (.idiv, 1) := by decide +kernel
theorem D_86_24 : decode J_86.2.2.1 24 = .ok (.goto 6, 3) := dzq_167 (by decide +kernel)
theorem D_86_27 : decode J_86.2.2.1 27 = .ok (.iload_n 2, 1) := dzq_28 (by decide +kernel)
theorem D_86_28 : decode J_86.2.2.1 28 = .ok (.iload_n 3, 1) := dzq_29 (by decide +kernel)
theorem D_86_29 : decode J_86.2.2.1 29 = .ok (.irem, 1) := by decide +kernel
theorem D_86_30 : decode J_86.2.2.1 30 = .ok (.invokevirtual 128, 3) := dzq_182 (by decide +kernel)
theorem D_86_33 : decode J_86.2.2.1 33 = .ok (.return_, 1) := dzq_177 (by decide +kernel)
def P_86_30 (X : mjX) (d C S kc ks : Nat) (k : Nat → Int32 → mjH → mjU) : Prop := ∀ (s0 : Nat) (s1 : Int32) (hp : mjH) (q : Option Value × mjH), k s0 s1 hp = some q → mjG X d C S J_86 (mjEq q) 30 [none, none, none, none, none] [.int s1, .ref s0] hp kc ks
def P_86_0 (X : mjX) (d C S kc ks : Nat) (k : Nat → Int32 → Int32 → Int32 → Int32 → mjH → mjU) : Prop := ∀ (l0 : Nat) (l1 : Int32) (l2 : Int32) (l3 : Int32) (l4 : Int32) (hp : mjH) (q : Option Value × mjH), k l0 l1 l2 l3 l4 hp = some q → mjG X d C S J_86 (mjEq q) 0 [some (.ref l0), some (.int l1), some (.int l2), some (.int l3), some (.int l4)] [] hp kc ks
noncomputable def b_86_30 (R : mjR) (s0 : Nat) (s1 : Int32) (hp : mjH) : mjU := rV hp s0 5 (bN (R 79 [.ref s0, .int s1] hp) (fun  hp1 => some (none, hp1)))
theorem t_86_30 {X : mjX} {d C S kc ks : Nat} {R : mjR} (hR : mjC R d) (h1 : kc ≤ C) (h2 : ks ≤ S) : P_86_30 X (d + 1) C S kc ks (b_86_30 R) := by
  intro s0 s1 hp q h
  unfold b_86_30 at h
  refine mjq_vN (As := [.int s1]) (rest := []) D_86_30 mr_5_128 V_79 rfl rfl rfl hR (Nat.le_refl _) h1 h2 h (fun  hp1 h => ?_)
  exact mjq_nret D_86_33 rfl h1 h2 h
noncomputable def b_86_0 (R : mjR) (l0 : Nat) (l1 : Int32) (l2 : Int32) (l3 : Int32) (l4 : Int32) (hp : mjH) : mjU := (if l3 = 0 then rV hp l0 5 (bN (R 82 [.ref l0, .int (2 : Int32), .int l4] hp) (fun  hp1 => some (none, hp1))) else (if l1 = (20 : Int32) then (if l3 = 0 then none else b_86_30 R l0 (l2 / l3) hp) else (if l3 = 0 then none else b_86_30 R l0 (l2 - l2 / l3 * l3) hp)))
theorem t_86_0 {X : mjX} {d C S kc ks : Nat} {R : mjR} (hR : mjC R d) (h1 : kc ≤ C) (h2 : ks ≤ S) : P_86_0 X (d + 1) C S kc ks (b_86_0 R) := by
  intro l0 l1 l2 l3 l4 hp q h
  unfold b_86_0 at h
  refine mjr_iload_n (x := l3) D_86_0 rfl ?_
  refine mjq_if_ne (tgt := 14) D_86_1 rfl h (fun h => ?_) (fun h => ?_)
  · refine mjr_aload_n (x := l0) D_86_14 rfl ?_
    refine mjr_iload_n (x := l1) D_86_15 rfl ?_
    refine mjq_bi (v := (20 : Int32)) D_86_16 rfl ?_
    refine mjq_icmp_ne (tgt := 27) D_86_18 rfl h (fun h => ?_) (fun h => ?_)
    · refine mjr_iload_n (x := l2) D_86_27 rfl ?_
      refine mjr_iload_n (x := l3) D_86_28 rfl ?_
      refine mjq_irem D_86_29 h (fun h => ?_)
      exact mjG.fg (lo' := [none, none, none, none, none]) True.intro ((t_86_30 hR h1 h2) _ _ _ _ h)
    · refine mjr_iload_n (x := l2) D_86_21 rfl ?_
      refine mjr_iload_n (x := l3) D_86_22 rfl ?_
      refine mjq_idiv D_86_23 h (fun h => ?_)
      refine mjr_goto (tgt := 30) D_86_24 rfl ?_
      exact mjG.fg (lo' := [none, none, none, none, none]) True.intro ((t_86_30 hR h1 h2) _ _ _ _ h)
  · refine mjr_aload_n (x := l0) D_86_4 rfl ?_
    refine mjq_ic (v := (2 : Int32)) D_86_5 rfl ?_
    refine mjr_iload (x := l4) D_86_6 rfl ?_
    refine mjq_vN (As := [.int (2 : Int32), .int l4]) (rest := []) D_86_8 mr_5_177 V_82 rfl rfl rfl hR (Nat.le_refl _) h1 h2 h (fun  hp1 h => ?_)
    refine mjr_goto (tgt := 33) D_86_11 rfl ?_
    exact mjq_nret D_86_33 rfl h1 h2 h
noncomputable def f_86 (R : mjR) (a0 : Nat) (a1 : Int32) (a2 : Int32) (a3 : Int32) (a4 : Int32) (hp : mjH) : mjU := b_86_0 R a0 a1 a2 a3 a4 hp
theorem c_86 {R : mjR} {d : Nat} (hR : mjC R d) {a0 : Nat} {a1 : Int32} {a2 : Int32} {a3 : Int32} {a4 : Int32} {hp : mjH} {q : Option Value × mjH} (h : f_86 R a0 a1 a2 a3 a4 hp = some q) : mjM (d + 1) 0 0 86 [.ref a0, .int a1, .int a2, .int a3, .int a4] hp (mjEq q) :=
  mjM_of Ja_86 (Nat.le_of_ble_eq_true rfl) (mjG.fg (lo' := [some (.ref a0), some (.int a1), some (.int a2), some (.int a3), some (.int a4)]) (And.intro rfl (And.intro rfl (And.intro rfl (And.intro rfl (And.intro rfl True.intro))))) ((t_86_0 hR (Nat.le_refl 0) (Nat.le_refl 0)) a0 a1 a2 a3 a4 hp q h))
def J_87 : mjI := (⟨"OwnerHeap$Machine", "workStep", "(III)V"⟩, 5, prog_7_method_8_code, 4, none, 3, false)
theorem Ja_87 : mjMt 87 = some J_87 := by rfl
theorem D_87_0 : decode J_87.2.2.1 0 = .ok (.iload_n 1, 1) := dzq_27 (by decide +kernel)
theorem D_87_1 : decode J_87.2.2.1 1 = .ok (.tableswitch 123 10 16 #[43, 123, 62, 71, 80, 89, 111], 43) := by decide +kernel
theorem D_87_44 : decode J_87.2.2.1 44 = .ok (.aload_n 0, 1) := dzq_42 (by decide +kernel)
theorem D_87_45 : decode J_87.2.2.1 45 = .ok (.getfield 29, 3) := dzq_180 (by decide +kernel)
theorem D_87_48 : decode J_87.2.2.1 48 = .ok (.getfield 157, 3) := dzq_180 (by decide +kernel)
theorem D_87_51 : decode J_87.2.2.1 51 = .ok (.aload_n 0, 1) := dzq_42 (by decide +kernel)
theorem D_87_52 : decode J_87.2.2.1 52 = .ok (.getfield 29, 3) := dzq_180 (by decide +kernel)
theorem D_87_55 : decode J_87.2.2.1 55 = .ok (.invokevirtual 131, 3) := dzq_182 (by decide +kernel)
theorem D_87_58 : decode J_87.2.2.1 58 = .ok (.iload_n 3, 1) := dzq_29 (by decide +kernel)
theorem D_87_59 : decode J_87.2.2.1 59 = .ok (.iastore, 1) := dzq_79 (by decide +kernel)
theorem D_87_60 : decode J_87.2.2.1 60 = .ok (.goto 64, 3) := dzq_167 (by decide +kernel)
theorem D_87_63 : decode J_87.2.2.1 63 = .ok (.aload_n 0, 1) := dzq_42 (by decide +kernel)
theorem D_87_64 : decode J_87.2.2.1 64 = .ok (.iload_n 2, 1) := dzq_28 (by decide +kernel)
theorem D_87_65 : decode J_87.2.2.1 65 = .ok (.iload_n 3, 1) := dzq_29 (by decide +kernel)
theorem D_87_66 : decode J_87.2.2.1 66 = .ok (.invokevirtual 160, 3) := dzq_182 (by decide +kernel)
theorem D_87_69 : decode J_87.2.2.1 69 = .ok (.goto 55, 3) := dzq_167 (by decide +kernel)
theorem D_87_72 : decode J_87.2.2.1 72 = .ok (.aload_n 0, 1) := dzq_42 (by decide +kernel)
theorem D_87_73 : decode J_87.2.2.1 73 = .ok (.iload_n 2, 1) := dzq_28 (by decide +kernel)
theorem D_87_74 : decode J_87.2.2.1 74 = .ok (.iload_n 3, 1) := dzq_29 (by decide +kernel)
theorem D_87_75 : decode J_87.2.2.1 75 = .ok (.invokevirtual 163, 3) := dzq_182 (by decide +kernel)
theorem D_87_78 : decode J_87.2.2.1 78 = .ok (.goto 46, 3) := dzq_167 (by decide +kernel)
theorem D_87_81 : decode J_87.2.2.1 81 = .ok (.aload_n 0, 1) := dzq_42 (by decide +kernel)
theorem D_87_82 : decode J_87.2.2.1 82 = .ok (.iload_n 2, 1) := dzq_28 (by decide +kernel)
theorem D_87_83 : decode J_87.2.2.1 83 = .ok (.iload_n 3, 1) := dzq_29 (by decide +kernel)
theorem D_87_84 : decode J_87.2.2.1 84 = .ok (.invokevirtual 166, 3) := dzq_182 (by decide +kernel)
theorem D_87_87 : decode J_87.2.2.1 87 = .ok (.goto 37, 3) := dzq_167 (by decide +kernel)
theorem D_87_90 : decode J_87.2.2.1 90 = .ok (.aload_n 0, 1) := dzq_42 (by decide +kernel)
theorem D_87_91 : decode J_87.2.2.1 91 = .ok (.aload_n 0, 1) := dzq_42 (by decide +kernel)
theorem D_87_92 : decode J_87.2.2.1 92 = .ok (.iconst 0, 1) := dzq_3 (by decide +kernel)
theorem D_87_93 : decode J_87.2.2.1 93 = .ok (.invokevirtual 169, 3) := dzq_182 (by decide +kernel)
theorem D_87_96 : decode J_87.2.2.1 96 = .ok (.iload_n 2, 1) := dzq_28 (by decide +kernel)
theorem D_87_97 : decode J_87.2.2.1 97 = .ok (.invokevirtual 173, 3) := dzq_182 (by decide +kernel)
theorem D_87_100 : decode J_87.2.2.1 100 = .ok (.ifCond .ne 24, 3) := dzq_154 (by decide +kernel)
theorem D_87_103 : decode J_87.2.2.1 103 = .ok (.aload_n 0, 1) := dzq_42 (by decide +kernel)
theorem D_87_104 : decode J_87.2.2.1 104 = .ok (.iconst 3, 1) := dzq_6 (by decide +kernel)
theorem D_87_105 : decode J_87.2.2.1 105 = .ok (.iload_n 3, 1) := dzq_29 (by decide +kernel)
theorem D_87_106 : decode J_87.2.2.1 106 = .ok (.invokevirtual 177, 3) := dzq_182 (by decide +kernel)
theorem D_87_109 : decode J_87.2.2.1 109 = .ok (.goto 15, 3) := dzq_167 (by decide +kernel)
theorem D_87_112 : decode J_87.2.2.1 112 = .ok (.aload_n 0, 1) := dzq_42 (by decide +kernel)
theorem D_87_113 : decode J_87.2.2.1 113 = .ok (.aload_n 0, 1) := dzq_42 (by decide +kernel)
theorem D_87_114 : decode J_87.2.2.1 114 = .ok (.invokevirtual 139, 3) := dzq_182 (by decide +kernel)
theorem D_87_117 : decode J_87.2.2.1 117 = .ok (.ineg, 1) := by decide +kernel
theorem D_87_118 : decode J_87.2.2.1 118 = .ok (.invokevirtual 128, 3) := dzq_182 (by decide +kernel)
theorem D_87_121 : decode J_87.2.2.1 121 = .ok (.goto 3, 3) := dzq_167 (by decide +kernel)
theorem D_87_124 : decode J_87.2.2.1 124 = .ok (.return_, 1) := dzq_177 (by decide +kernel)
def P_87_0 (X : mjX) (d C S kc ks : Nat) (k : Nat → Int32 → Int32 → Int32 → mjH → mjU) : Prop := ∀ (l0 : Nat) (l1 : Int32) (l2 : Int32) (l3 : Int32) (hp : mjH) (q : Option Value × mjH), k l0 l1 l2 l3 hp = some q → mjG X d C S J_87 (mjEq q) 0 [some (.ref l0), some (.int l1), some (.int l2), some (.int l3)] [] hp kc ks
noncomputable def b_87_0 (R : mjR) (l0 : Nat) (l1 : Int32) (l2 : Int32) (l3 : Int32) (hp : mjH) : mjU := (if l1 = (10 : Int32) then gR hp l0 5 1 (fun v2 => gR hp v2 2 5 (fun v3 => gR hp l0 5 1 (fun v4 => rV hp v4 2 (bI (R 38 [.ref v4] hp) (fun v5 hp6 => sI hp6 v3 v5 l3 (fun hp7 => some (none, hp7))))))) else if l1 = (11 : Int32) then some (none, hp) else if l1 = (12 : Int32) then rV hp l0 5 (bN (R 88 [.ref l0, .int l2, .int l3] hp) (fun  hp10 => some (none, hp10))) else if l1 = (13 : Int32) then rV hp l0 5 (bN (R 89 [.ref l0, .int l2, .int l3] hp) (fun  hp12 => some (none, hp12))) else if l1 = (14 : Int32) then rV hp l0 5 (bN (R 91 [.ref l0, .int l2, .int l3] hp) (fun  hp14 => some (none, hp14))) else if l1 = (15 : Int32) then rV hp l0 5 (bI (R 90 [.ref l0, .int (0 : Int32)] hp) (fun v16 hp17 => rV hp17 l0 5 (bI (R 94 [.ref l0, .int v16, .int l2] hp17) (fun v18 hp19 => (if v18 = 0 then rV hp19 l0 5 (bN (R 82 [.ref l0, .int (3 : Int32), .int l3] hp19) (fun  hp20 => some (none, hp20))) else some (none, hp19)))))) else if l1 = (16 : Int32) then rV hp l0 5 (bI (R 80 [.ref l0] hp) (fun v22 hp23 => rV hp23 l0 5 (bN (R 79 [.ref l0, .int (-v22)] hp23) (fun  hp24 => some (none, hp24))))) else some (none, hp))
theorem t_87_0 {X : mjX} {d C S kc ks : Nat} {R : mjR} (hR : mjC R d) (h1 : kc ≤ C) (h2 : ks ≤ S) : P_87_0 X (d + 1) C S kc ks (b_87_0 R) := by
  intro l0 l1 l2 l3 hp q h
  unfold b_87_0 at h
  refine mjr_iload_n (x := l1) D_87_0 rfl ?_
  refine mjq_tsw (c := (10 : Int32)) (tgt := 44) D_87_1 (by decide) (by decide) rfl rfl h (fun h => ?_) (fun n1 h => ?_)
  · refine mjr_aload_n (x := l0) D_87_44 rfl ?_
    refine mjq_gR D_87_45 fr_5_29 h (fun v2 h => ?_)
    refine mjq_gR D_87_48 fr_5_157 h (fun v3 h => ?_)
    refine mjr_aload_n (x := l0) D_87_51 rfl ?_
    refine mjq_gR D_87_52 fr_5_29 h (fun v4 h => ?_)
    refine mjq_vI (As := []) (rest := [.ref v3]) D_87_55 mr_5_131 V_38 rfl rfl rfl hR (Nat.le_refl _) h1 h2 h (fun v5 hp6 h => ?_)
    refine mjr_iload_n (x := l3) D_87_58 rfl ?_
    refine mjq_sI D_87_59 h (fun hp7 h => ?_)
    refine mjr_goto (tgt := 124) D_87_60 rfl ?_
    exact mjq_nret D_87_124 rfl h1 h2 h
  refine mjq_tsw (c := (11 : Int32)) (tgt := 124) D_87_1 (by decide) (by decide) rfl rfl h (fun h => ?_) (fun n8 h => ?_)
  · exact mjq_nret D_87_124 rfl h1 h2 h
  refine mjq_tsw (c := (12 : Int32)) (tgt := 63) D_87_1 (by decide) (by decide) rfl rfl h (fun h => ?_) (fun n9 h => ?_)
  · refine mjr_aload_n (x := l0) D_87_63 rfl ?_
    refine mjr_iload_n (x := l2) D_87_64 rfl ?_
    refine mjr_iload_n (x := l3) D_87_65 rfl ?_
    refine mjq_vN (As := [.int l2, .int l3]) (rest := []) D_87_66 mr_5_160 V_88 rfl rfl rfl hR (Nat.le_refl _) h1 h2 h (fun  hp10 h => ?_)
    refine mjr_goto (tgt := 124) D_87_69 rfl ?_
    exact mjq_nret D_87_124 rfl h1 h2 h
  refine mjq_tsw (c := (13 : Int32)) (tgt := 72) D_87_1 (by decide) (by decide) rfl rfl h (fun h => ?_) (fun n11 h => ?_)
  · refine mjr_aload_n (x := l0) D_87_72 rfl ?_
    refine mjr_iload_n (x := l2) D_87_73 rfl ?_
    refine mjr_iload_n (x := l3) D_87_74 rfl ?_
    refine mjq_vN (As := [.int l2, .int l3]) (rest := []) D_87_75 mr_5_163 V_89 rfl rfl rfl hR (Nat.le_refl _) h1 h2 h (fun  hp12 h => ?_)
    refine mjr_goto (tgt := 124) D_87_78 rfl ?_
    exact mjq_nret D_87_124 rfl h1 h2 h
  refine mjq_tsw (c := (14 : Int32)) (tgt := 81) D_87_1 (by decide) (by decide) rfl rfl h (fun h => ?_) (fun n13 h => ?_)
  · refine mjr_aload_n (x := l0) D_87_81 rfl ?_
    refine mjr_iload_n (x := l2) D_87_82 rfl ?_
    refine mjr_iload_n (x := l3) D_87_83 rfl ?_
    refine mjq_vN (As := [.int l2, .int l3]) (rest := []) D_87_84 mr_5_166 V_91 rfl rfl rfl hR (Nat.le_refl _) h1 h2 h (fun  hp14 h => ?_)
    refine mjr_goto (tgt := 124) D_87_87 rfl ?_
    exact mjq_nret D_87_124 rfl h1 h2 h
  refine mjq_tsw (c := (15 : Int32)) (tgt := 90) D_87_1 (by decide) (by decide) rfl rfl h (fun h => ?_) (fun n15 h => ?_)
  · refine mjr_aload_n (x := l0) D_87_90 rfl ?_
    refine mjr_aload_n (x := l0) D_87_91 rfl ?_
    refine mjq_ic (v := (0 : Int32)) D_87_92 rfl ?_
    refine mjq_vI (As := [.int (0 : Int32)]) (rest := [.ref l0]) D_87_93 mr_5_169 V_90 rfl rfl rfl hR (Nat.le_refl _) h1 h2 h (fun v16 hp17 h => ?_)
    refine mjr_iload_n (x := l2) D_87_96 rfl ?_
    refine mjq_vI (As := [.int v16, .int l2]) (rest := []) D_87_97 mr_5_173 V_94 rfl rfl rfl hR (Nat.le_refl _) h1 h2 h (fun v18 hp19 h => ?_)
    refine mjq_if_ne (tgt := 124) D_87_100 rfl h (fun h => ?_) (fun h => ?_)
    · exact mjq_nret D_87_124 rfl h1 h2 h
    · refine mjr_aload_n (x := l0) D_87_103 rfl ?_
      refine mjq_ic (v := (3 : Int32)) D_87_104 rfl ?_
      refine mjr_iload_n (x := l3) D_87_105 rfl ?_
      refine mjq_vN (As := [.int (3 : Int32), .int l3]) (rest := []) D_87_106 mr_5_177 V_82 rfl rfl rfl hR (Nat.le_refl _) h1 h2 h (fun  hp20 h => ?_)
      refine mjr_goto (tgt := 124) D_87_109 rfl ?_
      exact mjq_nret D_87_124 rfl h1 h2 h
  refine mjq_tsw (c := (16 : Int32)) (tgt := 112) D_87_1 (by decide) (by decide) rfl rfl h (fun h => ?_) (fun n21 h => ?_)
  · refine mjr_aload_n (x := l0) D_87_112 rfl ?_
    refine mjr_aload_n (x := l0) D_87_113 rfl ?_
    refine mjq_vI (As := []) (rest := [.ref l0]) D_87_114 mr_5_139 V_80 rfl rfl rfl hR (Nat.le_refl _) h1 h2 h (fun v22 hp23 h => ?_)
    refine mjr_ineg D_87_117 ?_
    refine mjq_vN (As := [.int (-v22)]) (rest := []) D_87_118 mr_5_128 V_79 rfl rfl rfl hR (Nat.le_refl _) h1 h2 h (fun  hp24 h => ?_)
    refine mjr_goto (tgt := 124) D_87_121 rfl ?_
    exact mjq_nret D_87_124 rfl h1 h2 h
  refine mjr_tableOut (tgt := 124) D_87_1 (mj_swout [(10 : Int32), (11 : Int32), (12 : Int32), (13 : Int32), (14 : Int32), (15 : Int32), (16 : Int32)] (by decide) (mj_all1 n1 (mj_all1 n8 (mj_all1 n9 (mj_all1 n11 (mj_all1 n13 (mj_all1 n15 (mj_all1 n21 mj_all0)))))))) rfl ?_
  exact mjq_nret D_87_124 rfl h1 h2 h
noncomputable def f_87 (R : mjR) (a0 : Nat) (a1 : Int32) (a2 : Int32) (a3 : Int32) (hp : mjH) : mjU := b_87_0 R a0 a1 a2 a3 hp
theorem c_87 {R : mjR} {d : Nat} (hR : mjC R d) {a0 : Nat} {a1 : Int32} {a2 : Int32} {a3 : Int32} {hp : mjH} {q : Option Value × mjH} (h : f_87 R a0 a1 a2 a3 hp = some q) : mjM (d + 1) 0 0 87 [.ref a0, .int a1, .int a2, .int a3] hp (mjEq q) :=
  mjM_of Ja_87 (Nat.le_of_ble_eq_true rfl) (mjG.fg (lo' := [some (.ref a0), some (.int a1), some (.int a2), some (.int a3)]) (And.intro rfl (And.intro rfl (And.intro rfl (And.intro rfl True.intro)))) ((t_87_0 hR (Nat.le_refl 0) (Nat.le_refl 0)) a0 a1 a2 a3 hp q h))
def J_88 : mjI := (⟨"OwnerHeap$Machine", "getField", "(II)V"⟩, 5, prog_7_method_17_code, 4, none, 2, false)
theorem Ja_88 : mjMt 88 = some J_88 := by rfl
theorem D_88_0 : decode J_88.2.2.1 0 = .ok (.aload_n 0, 1) := dzq_42 (by decide +kernel)
theorem D_88_1 : decode J_88.2.2.1 1 = .ok (.invokevirtual 139, 3) := dzq_182 (by decide +kernel)
theorem D_88_4 : decode J_88.2.2.1 4 = .ok (.istore_n 3, 1) := dzq_62 (by decide +kernel)
theorem D_88_5 : decode J_88.2.2.1 5 = .ok (.aload_n 0, 1) := dzq_42 (by decide +kernel)
theorem D_88_6 : decode J_88.2.2.1 6 = .ok (.getfield 9, 3) := dzq_180 (by decide +kernel)
theorem D_88_9 : decode J_88.2.2.1 9 = .ok (.iload_n 3, 1) := dzq_29 (by decide +kernel)
theorem D_88_10 : decode J_88.2.2.1 10 = .ok (.invokevirtual 190, 3) := dzq_182 (by decide +kernel)
theorem D_88_13 : decode J_88.2.2.1 13 = .ok (.ifCond .eq 19, 3) := dzq_153 (by decide +kernel)
theorem D_88_16 : decode J_88.2.2.1 16 = .ok (.aload_n 0, 1) := dzq_42 (by decide +kernel)
theorem D_88_17 : decode J_88.2.2.1 17 = .ok (.aload_n 0, 1) := dzq_42 (by decide +kernel)
theorem D_88_18 : decode J_88.2.2.1 18 = .ok (.getfield 9, 3) := dzq_180 (by decide +kernel)
theorem D_88_21 : decode J_88.2.2.1 21 = .ok (.iload_n 3, 1) := dzq_29 (by decide +kernel)
theorem D_88_22 : decode J_88.2.2.1 22 = .ok (.iload_n 1, 1) := dzq_27 (by decide +kernel)
theorem D_88_23 : decode J_88.2.2.1 23 = .ok (.invokevirtual 194, 3) := dzq_182 (by decide +kernel)
theorem D_88_26 : decode J_88.2.2.1 26 = .ok (.invokevirtual 128, 3) := dzq_182 (by decide +kernel)
theorem D_88_29 : decode J_88.2.2.1 29 = .ok (.goto 9, 3) := dzq_167 (by decide +kernel)
theorem D_88_32 : decode J_88.2.2.1 32 = .ok (.aload_n 0, 1) := dzq_42 (by decide +kernel)
theorem D_88_33 : decode J_88.2.2.1 33 = .ok (.iconst 1, 1) := dzq_4 (by decide +kernel)
theorem D_88_34 : decode J_88.2.2.1 34 = .ok (.iload_n 2, 1) := dzq_28 (by decide +kernel)
theorem D_88_35 : decode J_88.2.2.1 35 = .ok (.invokevirtual 177, 3) := dzq_182 (by decide +kernel)
theorem D_88_38 : decode J_88.2.2.1 38 = .ok (.return_, 1) := dzq_177 (by decide +kernel)
def P_88_0 (X : mjX) (d C S kc ks : Nat) (k : Nat → Int32 → Int32 → mjH → mjU) : Prop := ∀ (l0 : Nat) (l1 : Int32) (l2 : Int32) (hp : mjH) (q : Option Value × mjH), k l0 l1 l2 hp = some q → mjG X d C S J_88 (mjEq q) 0 [some (.ref l0), some (.int l1), some (.int l2), none] [] hp kc ks
noncomputable def b_88_0 (R : mjR) (l0 : Nat) (l1 : Int32) (l2 : Int32) (hp : mjH) : mjU := rV hp l0 5 (bI (R 80 [.ref l0] hp) (fun v1 hp2 => gR hp2 l0 5 0 (fun v3 => rV hp2 v3 3 (bI (R 43 [.ref v3, .int v1] hp2) (fun v4 hp5 => (if v4 = 0 then rV hp5 l0 5 (bN (R 82 [.ref l0, .int (1 : Int32), .int l2] hp5) (fun  hp6 => some (none, hp6))) else gR hp5 l0 5 0 (fun v7 => rV hp5 v7 3 (bI (R 45 [.ref v7, .int v1, .int l1] hp5) (fun v8 hp9 => rV hp9 l0 5 (bN (R 79 [.ref l0, .int v8] hp9) (fun  hp10 => some (none, hp10))))))))))))
theorem t_88_0 {X : mjX} {d C S kc ks : Nat} {R : mjR} (hR : mjC R d) (h1 : kc ≤ C) (h2 : ks ≤ S) : P_88_0 X (d + 1) C S kc ks (b_88_0 R) := by
  intro l0 l1 l2 hp q h
  unfold b_88_0 at h
  refine mjr_aload_n (x := l0) D_88_0 rfl ?_
  refine mjq_vI (As := []) (rest := []) D_88_1 mr_5_139 V_80 rfl rfl rfl hR (Nat.le_refl _) h1 h2 h (fun v1 hp2 h => ?_)
  refine mjq_istore_n (lo' := [some (.ref l0), some (.int l1), some (.int l2), some (.int v1)]) D_88_4 (Nat.le_of_ble_eq_true rfl) rfl ?_
  refine mjr_aload_n (x := l0) D_88_5 rfl ?_
  refine mjq_gR D_88_6 fr_5_9 h (fun v3 h => ?_)
  refine mjr_iload_n (x := v1) D_88_9 rfl ?_
  refine mjq_vI (As := [.int v1]) (rest := []) D_88_10 mr_5_190 V_43 rfl rfl rfl hR (Nat.le_refl _) h1 h2 h (fun v4 hp5 h => ?_)
  refine mjq_if_eq (tgt := 32) D_88_13 rfl h (fun h => ?_) (fun h => ?_)
  · refine mjr_aload_n (x := l0) D_88_32 rfl ?_
    refine mjq_ic (v := (1 : Int32)) D_88_33 rfl ?_
    refine mjr_iload_n (x := l2) D_88_34 rfl ?_
    refine mjq_vN (As := [.int (1 : Int32), .int l2]) (rest := []) D_88_35 mr_5_177 V_82 rfl rfl rfl hR (Nat.le_refl _) h1 h2 h (fun  hp6 h => ?_)
    exact mjq_nret D_88_38 rfl h1 h2 h
  · refine mjr_aload_n (x := l0) D_88_16 rfl ?_
    refine mjr_aload_n (x := l0) D_88_17 rfl ?_
    refine mjq_gR D_88_18 fr_5_9 h (fun v7 h => ?_)
    refine mjr_iload_n (x := v1) D_88_21 rfl ?_
    refine mjr_iload_n (x := l1) D_88_22 rfl ?_
    refine mjq_vI (As := [.int v1, .int l1]) (rest := [.ref l0]) D_88_23 mr_5_194 V_45 rfl rfl rfl hR (Nat.le_refl _) h1 h2 h (fun v8 hp9 h => ?_)
    refine mjq_vN (As := [.int v8]) (rest := []) D_88_26 mr_5_128 V_79 rfl rfl rfl hR (Nat.le_refl _) h1 h2 h (fun  hp10 h => ?_)
    refine mjr_goto (tgt := 38) D_88_29 rfl ?_
    exact mjq_nret D_88_38 rfl h1 h2 h
noncomputable def f_88 (R : mjR) (a0 : Nat) (a1 : Int32) (a2 : Int32) (hp : mjH) : mjU := b_88_0 R a0 a1 a2 hp
theorem c_88 {R : mjR} {d : Nat} (hR : mjC R d) {a0 : Nat} {a1 : Int32} {a2 : Int32} {hp : mjH} {q : Option Value × mjH} (h : f_88 R a0 a1 a2 hp = some q) : mjM (d + 1) 0 0 88 [.ref a0, .int a1, .int a2] hp (mjEq q) :=
  mjM_of Ja_88 (Nat.le_of_ble_eq_true rfl) (mjG.fg (lo' := [some (.ref a0), some (.int a1), some (.int a2), none]) (And.intro rfl (And.intro rfl (And.intro rfl True.intro))) ((t_88_0 hR (Nat.le_refl 0) (Nat.le_refl 0)) a0 a1 a2 hp q h))
def J_89 : mjI := (⟨"OwnerHeap$Machine", "callMethod", "(II)V"⟩, 5, prog_7_method_19_code, 7, none, 2, false)
theorem Ja_89 : mjMt 89 = some J_89 := by rfl
theorem D_89_0 : decode J_89.2.2.1 0 = .ok (.aload_n 0, 1) := dzq_42 (by decide +kernel)
theorem D_89_1 : decode J_89.2.2.1 1 = .ok (.getfield 15, 3) := dzq_180 (by decide +kernel)
theorem D_89_4 : decode J_89.2.2.1 4 = .ok (.getfield 86, 3) := dzq_180 (by decide +kernel)
theorem D_89_7 : decode J_89.2.2.1 7 = .ok (.getfield 200, 3) := dzq_180 (by decide +kernel)
theorem D_89_10 : decode J_89.2.2.1 10 = .ok (.iload_n 1, 1) := dzq_27 (by decide +kernel)
theorem D_89_11 : decode J_89.2.2.1 11 = .ok (.iaload, 1) := dzq_46 (by decide +kernel)
theorem D_89_12 : decode J_89.2.2.1 12 = .ok (.istore_n 3, 1) := dzq_62 (by decide +kernel)
theorem D_89_13 : decode J_89.2.2.1 13 = .ok (.aload_n 0, 1) := dzq_42 (by decide +kernel)
theorem D_89_14 : decode J_89.2.2.1 14 = .ok (.iload_n 3, 1) := dzq_29 (by decide +kernel)
theorem D_89_15 : decode J_89.2.2.1 15 = .ok (.invokevirtual 169, 3) := dzq_182 (by decide +kernel)
theorem D_89_18 : decode J_89.2.2.1 18 = .ok (.istore 4, 2) := dzq_54 (by decide +kernel)
theorem D_89_20 : decode J_89.2.2.1 20 = .ok (.aload_n 0, 1) := dzq_42 (by decide +kernel)
theorem D_89_21 : decode J_89.2.2.1 21 = .ok (.getfield 9, 3) := dzq_180 (by decide +kernel)
theorem D_89_24 : decode J_89.2.2.1 24 = .ok (.iload 4, 2) := dzq_21 (by decide +kernel)
theorem D_89_26 : decode J_89.2.2.1 26 = .ok (.invokevirtual 190, 3) := dzq_182 (by decide +kernel)
theorem D_89_29 : decode J_89.2.2.1 29 = .ok (.ifCond .ne 10, 3) := dzq_154 (by decide +kernel)
theorem D_89_32 : decode J_89.2.2.1 32 = .ok (.aload_n 0, 1) := dzq_42 (by decide +kernel)
theorem D_89_33 : decode J_89.2.2.1 33 = .ok (.iconst 1, 1) := dzq_4 (by decide +kernel)
theorem D_89_34 : decode J_89.2.2.1 34 = .ok (.iload_n 2, 1) := dzq_28 (by decide +kernel)
theorem D_89_35 : decode J_89.2.2.1 35 = .ok (.invokevirtual 177, 3) := dzq_182 (by decide +kernel)
theorem D_89_38 : decode J_89.2.2.1 38 = .ok (.return_, 1) := dzq_177 (by decide +kernel)
theorem D_89_39 : decode J_89.2.2.1 39 = .ok (.aload_n 0, 1) := dzq_42 (by decide +kernel)
theorem D_89_40 : decode J_89.2.2.1 40 = .ok (.getfield 29, 3) := dzq_180 (by decide +kernel)
theorem D_89_43 : decode J_89.2.2.1 43 = .ok (.getfield 184, 3) := dzq_180 (by decide +kernel)
theorem D_89_46 : decode J_89.2.2.1 46 = .ok (.aload_n 0, 1) := dzq_42 (by decide +kernel)
theorem D_89_47 : decode J_89.2.2.1 47 = .ok (.getfield 77, 3) := dzq_180 (by decide +kernel)
theorem D_89_50 : decode J_89.2.2.1 50 = .ok (.if_icmp .lt 10, 3) := dzq_161 (by decide +kernel)
theorem D_89_53 : decode J_89.2.2.1 53 = .ok (.aload_n 0, 1) := dzq_42 (by decide +kernel)
theorem D_89_54 : decode J_89.2.2.1 54 = .ok (.iconst 5, 1) := dzq_8 (by decide +kernel)
theorem D_89_55 : decode J_89.2.2.1 55 = .ok (.iload_n 2, 1) := dzq_28 (by decide +kernel)
theorem D_89_56 : decode J_89.2.2.1 56 = .ok (.invokevirtual 177, 3) := dzq_182 (by decide +kernel)
theorem D_89_59 : decode J_89.2.2.1 59 = .ok (.return_, 1) := dzq_177 (by decide +kernel)
theorem D_89_60 : decode J_89.2.2.1 60 = .ok (.aload_n 0, 1) := dzq_42 (by decide +kernel)
theorem D_89_61 : decode J_89.2.2.1 61 = .ok (.getfield 15, 3) := dzq_180 (by decide +kernel)
theorem D_89_64 : decode J_89.2.2.1 64 = .ok (.aload_n 0, 1) := dzq_42 (by decide +kernel)
theorem D_89_65 : decode J_89.2.2.1 65 = .ok (.getfield 9, 3) := dzq_180 (by decide +kernel)
theorem D_89_68 : decode J_89.2.2.1 68 = .ok (.iload 4, 2) := dzq_21 (by decide +kernel)
theorem D_89_70 : decode J_89.2.2.1 70 = .ok (.invokevirtual 203, 3) := dzq_182 (by decide +kernel)
theorem D_89_73 : decode J_89.2.2.1 73 = .ok (.aload_n 0, 1) := dzq_42 (by decide +kernel)
theorem D_89_74 : decode J_89.2.2.1 74 = .ok (.getfield 15, 3) := dzq_180 (by decide +kernel)
theorem D_89_77 : decode J_89.2.2.1 77 = .ok (.getfield 86, 3) := dzq_180 (by decide +kernel)
theorem D_89_80 : decode J_89.2.2.1 80 = .ok (.getfield 206, 3) := dzq_180 (by decide +kernel)
theorem D_89_83 : decode J_89.2.2.1 83 = .ok (.iload_n 1, 1) := dzq_27 (by decide +kernel)
theorem D_89_84 : decode J_89.2.2.1 84 = .ok (.laload, 1) := dzq_47 (by decide +kernel)
theorem D_89_85 : decode J_89.2.2.1 85 = .ok (.iconst 1, 1) := dzq_4 (by decide +kernel)
theorem D_89_86 : decode J_89.2.2.1 86 = .ok (.invokevirtual 210, 3) := dzq_182 (by decide +kernel)
theorem D_89_89 : decode J_89.2.2.1 89 = .ok (.istore 5, 2) := dzq_54 (by decide +kernel)
theorem D_89_91 : decode J_89.2.2.1 91 = .ok (.iload 5, 2) := dzq_21 (by decide +kernel)
theorem D_89_93 : decode J_89.2.2.1 93 = .ok (.iconst (-1), 1) := dzq_2 (by decide +kernel)
theorem D_89_94 : decode J_89.2.2.1 94 = .ok (.if_icmp .ne 4, 3) := dzq_160 (by decide +kernel)
theorem D_89_97 : decode J_89.2.2.1 97 = .ok (.return_, 1) := dzq_177 (by decide +kernel)
theorem D_89_98 : decode J_89.2.2.1 98 = .ok (.aload_n 0, 1) := dzq_42 (by decide +kernel)
theorem D_89_99 : decode J_89.2.2.1 99 = .ok (.getfield 29, 3) := dzq_180 (by decide +kernel)
theorem D_89_102 : decode J_89.2.2.1 102 = .ok (.iload 5, 2) := dzq_21 (by decide +kernel)
theorem D_89_104 : decode J_89.2.2.1 104 = .ok (.iload 4, 2) := dzq_21 (by decide +kernel)
theorem D_89_106 : decode J_89.2.2.1 106 = .ok (.aload_n 0, 1) := dzq_42 (by decide +kernel)
theorem D_89_107 : decode J_89.2.2.1 107 = .ok (.getfield 93, 3) := dzq_180 (by decide +kernel)
theorem D_89_110 : decode J_89.2.2.1 110 = .ok (.invokevirtual 82, 3) := dzq_182 (by decide +kernel)
theorem D_89_113 : decode J_89.2.2.1 113 = .ok (.iload_n 3, 1) := dzq_29 (by decide +kernel)
theorem D_89_114 : decode J_89.2.2.1 114 = .ok (.iconst 1, 1) := dzq_4 (by decide +kernel)
theorem D_89_115 : decode J_89.2.2.1 115 = .ok (.isub, 1) := dzq_100 (by decide +kernel)
theorem D_89_116 : decode J_89.2.2.1 116 = .ok (.istore 6, 2) := dzq_54 (by decide +kernel)
theorem D_89_118 : decode J_89.2.2.1 118 = .ok (.iload 6, 2) := dzq_21 (by decide +kernel)
theorem D_89_120 : decode J_89.2.2.1 120 = .ok (.ifCond .lt 22, 3) := dzq_155 (by decide +kernel)
theorem D_89_123 : decode J_89.2.2.1 123 = .ok (.aload_n 0, 1) := dzq_42 (by decide +kernel)
theorem D_89_124 : decode J_89.2.2.1 124 = .ok (.getfield 29, 3) := dzq_180 (by decide +kernel)
theorem D_89_127 : decode J_89.2.2.1 127 = .ok (.iload 6, 2) := dzq_21 (by decide +kernel)
theorem D_89_129 : decode J_89.2.2.1 129 = .ok (.aload_n 0, 1) := dzq_42 (by decide +kernel)
theorem D_89_130 : decode J_89.2.2.1 130 = .ok (.invokevirtual 139, 3) := dzq_182 (by decide +kernel)
theorem D_89_133 : decode J_89.2.2.1 133 = .ok (.invokevirtual 142, 3) := dzq_182 (by decide +kernel)
theorem D_89_136 : decode J_89.2.2.1 136 = .ok (.iinc 6 (-1), 3) := dzq_132 (by decide +kernel)
theorem D_89_139 : decode J_89.2.2.1 139 = .ok (.goto (-21), 3) := dzq_167 (by decide +kernel)
theorem D_89_142 : decode J_89.2.2.1 142 = .ok (.aload_n 0, 1) := dzq_42 (by decide +kernel)
theorem D_89_143 : decode J_89.2.2.1 143 = .ok (.invokevirtual 139, 3) := dzq_182 (by decide +kernel)
theorem D_89_146 : decode J_89.2.2.1 146 = .ok (.pop, 1) := dzq_87 (by decide +kernel)
theorem D_89_147 : decode J_89.2.2.1 147 = .ok (.aload_n 0, 1) := dzq_42 (by decide +kernel)
theorem D_89_148 : decode J_89.2.2.1 148 = .ok (.aload_n 0, 1) := dzq_42 (by decide +kernel)
theorem D_89_149 : decode J_89.2.2.1 149 = .ok (.getfield 15, 3) := dzq_180 (by decide +kernel)
theorem D_89_152 : decode J_89.2.2.1 152 = .ok (.getfield 86, 3) := dzq_180 (by decide +kernel)
theorem D_89_155 : decode J_89.2.2.1 155 = .ok (.getfield 90, 3) := dzq_180 (by decide +kernel)
theorem D_89_158 : decode J_89.2.2.1 158 = .ok (.iload 5, 2) := dzq_21 (by decide +kernel)
theorem D_89_160 : decode J_89.2.2.1 160 = .ok (.iaload, 1) := dzq_46 (by decide +kernel)
theorem D_89_161 : decode J_89.2.2.1 161 = .ok (.putfield 93, 3) := dzq_181 (by decide +kernel)
theorem D_89_164 : decode J_89.2.2.1 164 = .ok (.return_, 1) := dzq_177 (by decide +kernel)
def P_89_118 (X : mjX) (d C S kc ks : Nat) (k : Nat → Int32 → Int32 → mjH → mjU) : Prop := ∀ (l0 : Nat) (l5 : Int32) (l6 : Int32) (hp : mjH) (q : Option Value × mjH), k l0 l5 l6 hp = some q → mjG X d C S J_89 (mjEq q) 118 [some (.ref l0), none, none, none, none, some (.int l5), some (.int l6)] [] hp kc ks
def P_89_0 (X : mjX) (d C S kc ks : Nat) (k : Nat → Int32 → Int32 → mjH → mjU) : Prop := ∀ (l0 : Nat) (l1 : Int32) (l2 : Int32) (hp : mjH) (q : Option Value × mjH), k l0 l1 l2 hp = some q → mjG X d C S J_89 (mjEq q) 0 [some (.ref l0), some (.int l1), some (.int l2), none, none, none, none] [] hp kc ks
noncomputable def b_89_118 (R : mjR) (k118 : Nat → Int32 → Int32 → mjH → mjU) (l0 : Nat) (l5 : Int32) (l6 : Int32) (hp : mjH) : mjU := (if l6 < 0 then rV hp l0 5 (bI (R 80 [.ref l0] hp) (fun v1 hp2 => gR hp2 l0 5 2 (fun v3 => gR hp2 v3 7 14 (fun v4 => gR hp2 v4 6 9 (fun v5 => aI hp2 v5 l5 (fun v6 => pI hp2 l0 5 4 v6 (fun hp7 => some (none, hp7)))))))) else gR hp l0 5 1 (fun v8 => rV hp l0 5 (bI (R 80 [.ref l0] hp) (fun v9 hp10 => rV hp10 v8 2 (bN (R 40 [.ref v8, .int l6, .int v9] hp10) (fun  hp11 => k118 l0 l5 (l6 + (-1 : Int32)) hp11))))))
theorem t_89_118 {X : mjX} {d C S kc ks : Nat} {R : mjR} (hR : mjC R d) (h1 : kc ≤ C) (h2 : ks ≤ S) {k118 : Nat → Int32 → Int32 → mjH → mjU} (hk118 : P_89_118 X (d + 1) C S kc ks k118) : P_89_118 X (d + 1) C S kc ks (b_89_118 R k118) := by
  intro l0 l5 l6 hp q h
  unfold b_89_118 at h
  refine mjr_iload (x := l6) D_89_118 rfl ?_
  refine mjq_if_lt (tgt := 142) D_89_120 rfl h (fun h => ?_) (fun h => ?_)
  · refine mjr_aload_n (x := l0) D_89_142 rfl ?_
    refine mjq_vI (As := []) (rest := []) D_89_143 mr_5_139 V_80 rfl rfl rfl hR (Nat.le_refl _) h1 h2 h (fun v1 hp2 h => ?_)
    refine mjr_pop D_89_146 rfl ?_
    refine mjr_aload_n (x := l0) D_89_147 rfl ?_
    refine mjr_aload_n (x := l0) D_89_148 rfl ?_
    refine mjq_gR D_89_149 fr_5_15 h (fun v3 h => ?_)
    refine mjq_gR D_89_152 fr_5_86 h (fun v4 h => ?_)
    refine mjq_gR D_89_155 fr_5_90 h (fun v5 h => ?_)
    refine mjr_iload (x := l5) D_89_158 rfl ?_
    refine mjq_aI D_89_160 h (fun v6 h => ?_)
    refine mjq_pI D_89_161 fr_5_93 rfl rfl h (fun hp7 h => ?_)
    exact mjq_nret D_89_164 rfl h1 h2 h
  · refine mjr_aload_n (x := l0) D_89_123 rfl ?_
    refine mjq_gR D_89_124 fr_5_29 h (fun v8 h => ?_)
    refine mjr_iload (x := l6) D_89_127 rfl ?_
    refine mjr_aload_n (x := l0) D_89_129 rfl ?_
    refine mjq_vI (As := []) (rest := [.int l6, .ref v8]) D_89_130 mr_5_139 V_80 rfl rfl rfl hR (Nat.le_refl _) h1 h2 h (fun v9 hp10 h => ?_)
    refine mjq_vN (As := [.int l6, .int v9]) (rest := []) D_89_133 mr_5_142 V_40 rfl rfl rfl hR (Nat.le_refl _) h1 h2 h (fun  hp11 h => ?_)
    refine mjq_iinc (x := l6) (c := (-1 : Int32)) (lo' := [some (.ref l0), none, none, none, none, some (.int l5), some (.int (l6 + (-1 : Int32)))]) D_89_136 rfl (Nat.le_of_ble_eq_true rfl) rfl rfl ?_
    refine mjr_goto (tgt := 118) D_89_139 rfl ?_
    exact hk118 _ _ _ _ _ h
noncomputable def L_89_118 (R : mjR) (n : Nat) : Nat → Int32 → Int32 → mjH → mjU := Nat.rec (motive := fun _ => Nat → Int32 → Int32 → mjH → mjU) (fun _ _ _ _ => none) (fun _ self => b_89_118 R self) n
theorem T_89_118 {X : mjX} {d C S kc ks : Nat} {R : mjR} (hR : mjC R d) (h1 : kc ≤ C) (h2 : ks ≤ S) (n : Nat) : P_89_118 X (d + 1) C S kc ks (L_89_118 R n) := by
  induction n with
  | zero => intro _ _ _ _ _ h; exact mj_no h
  | succ n ih => exact t_89_118 hR h1 h2 ih
noncomputable def b_89_0 (R : mjR) (l0 : Nat) (l1 : Int32) (l2 : Int32) (hp : mjH) : mjU := gR hp l0 5 2 (fun v1 => gR hp v1 7 14 (fun v2 => gR hp v2 6 6 (fun v3 => aI hp v3 l1 (fun v4 => rV hp l0 5 (bI (R 90 [.ref l0, .int v4] hp) (fun v5 hp6 => gR hp6 l0 5 0 (fun v7 => rV hp6 v7 3 (bI (R 43 [.ref v7, .int v5] hp6) (fun v8 hp9 => (if v8 = 0 then rV hp9 l0 5 (bN (R 82 [.ref l0, .int (1 : Int32), .int l2] hp9) (fun  hp27 => some (none, hp27))) else gR hp9 l0 5 1 (fun v10 => gI hp9 v10 2 0 (fun v11 => gI hp9 l0 5 7 (fun v12 => (if v11 < v12 then gR hp9 l0 5 2 (fun v13 => gR hp9 l0 5 0 (fun v14 => rV hp9 v14 3 (bI (R 46 [.ref v14, .int v5] hp9) (fun v15 hp16 => gR hp16 l0 5 2 (fun v17 => gR hp16 v17 7 14 (fun v18 => gR hp16 v18 6 1 (fun v19 => aL hp16 v19 l1 (fun v20 => rV hp16 v13 7 (bI (R 121 [.ref v13, .int v15, .long v20, .int (1 : Int32)] hp16) (fun v21 hp22 => (if v21 = (-1 : Int32) then some (none, hp22) else gR hp22 l0 5 1 (fun v23 => gI hp22 l0 5 4 (fun v24 => rV hp22 v23 2 (bN (R 37 [.ref v23, .int v21, .int v5, .int v24] hp22) (fun  hp25 => L_89_118 R mjN l0 v21 (v4 - (1 : Int32)) hp25))))))))))))))) else rV hp9 l0 5 (bN (R 82 [.ref l0, .int (5 : Int32), .int l2] hp9) (fun  hp26 => some (none, hp26)))))))))))))))))
theorem t_89_0 {X : mjX} {d C S kc ks : Nat} {R : mjR} (hR : mjC R d) (h1 : kc ≤ C) (h2 : ks ≤ S) : P_89_0 X (d + 1) C S kc ks (b_89_0 R) := by
  intro l0 l1 l2 hp q h
  unfold b_89_0 at h
  refine mjr_aload_n (x := l0) D_89_0 rfl ?_
  refine mjq_gR D_89_1 fr_5_15 h (fun v1 h => ?_)
  refine mjq_gR D_89_4 fr_5_86 h (fun v2 h => ?_)
  refine mjq_gR D_89_7 fr_5_200 h (fun v3 h => ?_)
  refine mjr_iload_n (x := l1) D_89_10 rfl ?_
  refine mjq_aI D_89_11 h (fun v4 h => ?_)
  refine mjq_istore_n (lo' := [some (.ref l0), some (.int l1), some (.int l2), some (.int v4), none, none, none]) D_89_12 (Nat.le_of_ble_eq_true rfl) rfl ?_
  refine mjr_aload_n (x := l0) D_89_13 rfl ?_
  refine mjr_iload_n (x := v4) D_89_14 rfl ?_
  refine mjq_vI (As := [.int v4]) (rest := []) D_89_15 mr_5_169 V_90 rfl rfl rfl hR (Nat.le_refl _) h1 h2 h (fun v5 hp6 h => ?_)
  refine mjq_istore (lo' := [some (.ref l0), some (.int l1), some (.int l2), some (.int v4), some (.int v5), none, none]) D_89_18 (Nat.le_of_ble_eq_true rfl) rfl ?_
  refine mjr_aload_n (x := l0) D_89_20 rfl ?_
  refine mjq_gR D_89_21 fr_5_9 h (fun v7 h => ?_)
  refine mjr_iload (x := v5) D_89_24 rfl ?_
  refine mjq_vI (As := [.int v5]) (rest := []) D_89_26 mr_5_190 V_43 rfl rfl rfl hR (Nat.le_refl _) h1 h2 h (fun v8 hp9 h => ?_)
  refine mjq_if_ne (tgt := 39) D_89_29 rfl h (fun h => ?_) (fun h => ?_)
  · refine mjr_aload_n (x := l0) D_89_39 rfl ?_
    refine mjq_gR D_89_40 fr_5_29 h (fun v10 h => ?_)
    refine mjq_gI D_89_43 fr_5_184 h (fun v11 h => ?_)
    refine mjr_aload_n (x := l0) D_89_46 rfl ?_
    refine mjq_gI D_89_47 fr_5_77 h (fun v12 h => ?_)
    refine mjq_icmp_lt (tgt := 60) D_89_50 rfl h (fun h => ?_) (fun h => ?_)
    · refine mjr_aload_n (x := l0) D_89_60 rfl ?_
      refine mjq_gR D_89_61 fr_5_15 h (fun v13 h => ?_)
      refine mjr_aload_n (x := l0) D_89_64 rfl ?_
      refine mjq_gR D_89_65 fr_5_9 h (fun v14 h => ?_)
      refine mjr_iload (x := v5) D_89_68 rfl ?_
      refine mjq_vI (As := [.int v5]) (rest := [.ref v13]) D_89_70 mr_5_203 V_46 rfl rfl rfl hR (Nat.le_refl _) h1 h2 h (fun v15 hp16 h => ?_)
      refine mjr_aload_n (x := l0) D_89_73 rfl ?_
      refine mjq_gR D_89_74 fr_5_15 h (fun v17 h => ?_)
      refine mjq_gR D_89_77 fr_5_86 h (fun v18 h => ?_)
      refine mjq_gR D_89_80 fr_5_206 h (fun v19 h => ?_)
      refine mjr_iload_n (x := l1) D_89_83 rfl ?_
      refine mjq_aL D_89_84 h (fun v20 h => ?_)
      refine mjq_ic (v := (1 : Int32)) D_89_85 rfl ?_
      refine mjq_vI (As := [.int v15, .long v20, .int (1 : Int32)]) (rest := []) D_89_86 mr_5_210 V_121 rfl rfl rfl hR (Nat.le_refl _) h1 h2 h (fun v21 hp22 h => ?_)
      refine mjq_istore (lo' := [some (.ref l0), some (.int l1), some (.int l2), some (.int v4), some (.int v5), some (.int v21), none]) D_89_89 (Nat.le_of_ble_eq_true rfl) rfl ?_
      refine mjr_iload (x := v21) D_89_91 rfl ?_
      refine mjq_ic (v := (-1 : Int32)) D_89_93 rfl ?_
      refine mjq_icmp_ne (tgt := 98) D_89_94 rfl h (fun h => ?_) (fun h => ?_)
      · refine mjr_aload_n (x := l0) D_89_98 rfl ?_
        refine mjq_gR D_89_99 fr_5_29 h (fun v23 h => ?_)
        refine mjr_iload (x := v21) D_89_102 rfl ?_
        refine mjr_iload (x := v5) D_89_104 rfl ?_
        refine mjr_aload_n (x := l0) D_89_106 rfl ?_
        refine mjq_gI D_89_107 fr_5_93 h (fun v24 h => ?_)
        refine mjq_vN (As := [.int v21, .int v5, .int v24]) (rest := []) D_89_110 mr_5_82 V_37 rfl rfl rfl hR (Nat.le_refl _) h1 h2 h (fun  hp25 h => ?_)
        refine mjr_iload_n (x := v4) D_89_113 rfl ?_
        refine mjq_ic (v := (1 : Int32)) D_89_114 rfl ?_
        refine mjr_isub D_89_115 ?_
        refine mjq_istore (lo' := [some (.ref l0), some (.int l1), some (.int l2), some (.int v4), some (.int v5), some (.int v21), some (.int (v4 - (1 : Int32)))]) D_89_116 (Nat.le_of_ble_eq_true rfl) rfl ?_
        exact mjG.fg (lo' := [some (.ref l0), none, none, none, none, some (.int v21), some (.int (v4 - (1 : Int32)))]) (And.intro rfl (And.intro rfl (And.intro rfl True.intro))) ((T_89_118 hR h1 h2 mjN) _ _ _ _ _ h)
      · exact mjq_nret D_89_97 rfl h1 h2 h
    · refine mjr_aload_n (x := l0) D_89_53 rfl ?_
      refine mjq_ic (v := (5 : Int32)) D_89_54 rfl ?_
      refine mjr_iload_n (x := l2) D_89_55 rfl ?_
      refine mjq_vN (As := [.int (5 : Int32), .int l2]) (rest := []) D_89_56 mr_5_177 V_82 rfl rfl rfl hR (Nat.le_refl _) h1 h2 h (fun  hp26 h => ?_)
      exact mjq_nret D_89_59 rfl h1 h2 h
  · refine mjr_aload_n (x := l0) D_89_32 rfl ?_
    refine mjq_ic (v := (1 : Int32)) D_89_33 rfl ?_
    refine mjr_iload_n (x := l2) D_89_34 rfl ?_
    refine mjq_vN (As := [.int (1 : Int32), .int l2]) (rest := []) D_89_35 mr_5_177 V_82 rfl rfl rfl hR (Nat.le_refl _) h1 h2 h (fun  hp27 h => ?_)
    exact mjq_nret D_89_38 rfl h1 h2 h
noncomputable def f_89 (R : mjR) (a0 : Nat) (a1 : Int32) (a2 : Int32) (hp : mjH) : mjU := b_89_0 R a0 a1 a2 hp
theorem c_89 {R : mjR} {d : Nat} (hR : mjC R d) {a0 : Nat} {a1 : Int32} {a2 : Int32} {hp : mjH} {q : Option Value × mjH} (h : f_89 R a0 a1 a2 hp = some q) : mjM (d + 1) 0 0 89 [.ref a0, .int a1, .int a2] hp (mjEq q) :=
  mjM_of Ja_89 (Nat.le_of_ble_eq_true rfl) (mjG.fg (lo' := [some (.ref a0), some (.int a1), some (.int a2), none, none, none, none]) (And.intro rfl (And.intro rfl (And.intro rfl True.intro))) ((t_89_0 hR (Nat.le_refl 0) (Nat.le_refl 0)) a0 a1 a2 hp q h))
def J_90 : mjI := (⟨"OwnerHeap$Machine", "peek", "(I)I"⟩, 5, prog_7_method_13_code, 3, (some .int), 1, false)
theorem Ja_90 : mjMt 90 = some J_90 := by rfl
theorem D_90_0 : decode J_90.2.2.1 0 = .ok (.aload_n 0, 1) := dzq_42 (by decide +kernel)
theorem D_90_1 : decode J_90.2.2.1 1 = .ok (.getfield 59, 3) := dzq_180 (by decide +kernel)
theorem D_90_4 : decode J_90.2.2.1 4 = .ok (.iconst 1, 1) := dzq_4 (by decide +kernel)
theorem D_90_5 : decode J_90.2.2.1 5 = .ok (.isub, 1) := dzq_100 (by decide +kernel)
theorem D_90_6 : decode J_90.2.2.1 6 = .ok (.iload_n 1, 1) := dzq_27 (by decide +kernel)
theorem D_90_7 : decode J_90.2.2.1 7 = .ok (.isub, 1) := dzq_100 (by decide +kernel)
theorem D_90_8 : decode J_90.2.2.1 8 = .ok (.istore_n 2, 1) := dzq_61 (by decide +kernel)
theorem D_90_9 : decode J_90.2.2.1 9 = .ok (.iload_n 2, 1) := dzq_28 (by decide +kernel)
theorem D_90_10 : decode J_90.2.2.1 10 = .ok (.ifCond .lt 12, 3) := dzq_155 (by decide +kernel)
theorem D_90_13 : decode J_90.2.2.1 13 = .ok (.aload_n 0, 1) := dzq_42 (by decide +kernel)
theorem D_90_14 : decode J_90.2.2.1 14 = .ok (.getfield 33, 3) := dzq_180 (by decide +kernel)
theorem D_90_17 : decode J_90.2.2.1 17 = .ok (.iload_n 2, 1) := dzq_28 (by decide +kernel)
theorem D_90_18 : decode J_90.2.2.1 18 = .ok (.iaload, 1) := dzq_46 (by decide +kernel)
theorem D_90_19 : decode J_90.2.2.1 19 = .ok (.goto 4, 3) := dzq_167 (by decide +kernel)
theorem D_90_22 : decode J_90.2.2.1 22 = .ok (.iconst 0, 1) := dzq_3 (by decide +kernel)
theorem D_90_23 : decode J_90.2.2.1 23 = .ok (.ireturn, 1) := dzq_172 (by decide +kernel)
def P_90_0 (X : mjX) (d C S kc ks : Nat) (k : Nat → Int32 → mjH → mjU) : Prop := ∀ (l0 : Nat) (l1 : Int32) (hp : mjH) (q : Option Value × mjH), k l0 l1 hp = some q → mjG X d C S J_90 (mjEq q) 0 [some (.ref l0), some (.int l1), none] [] hp kc ks
noncomputable def b_90_0 (R : mjR) (l0 : Nat) (l1 : Int32) (hp : mjH) : mjU := gI hp l0 5 6 (fun v1 => (if ((v1 - (1 : Int32)) - l1) < 0 then some (some (.int (0 : Int32)), hp) else gR hp l0 5 5 (fun v2 => aI hp v2 ((v1 - (1 : Int32)) - l1) (fun v3 => some (some (.int v3), hp)))))
theorem t_90_0 {X : mjX} {d C S kc ks : Nat} {R : mjR} (hR : mjC R d) (h1 : kc ≤ C) (h2 : ks ≤ S) : P_90_0 X (d + 1) C S kc ks (b_90_0 R) := by
  intro l0 l1 hp q h
  unfold b_90_0 at h
  refine mjr_aload_n (x := l0) D_90_0 rfl ?_
  refine mjq_gI D_90_1 fr_5_59 h (fun v1 h => ?_)
  refine mjq_ic (v := (1 : Int32)) D_90_4 rfl ?_
  refine mjr_isub D_90_5 ?_
  refine mjr_iload_n (x := l1) D_90_6 rfl ?_
  refine mjr_isub D_90_7 ?_
  refine mjq_istore_n (lo' := [some (.ref l0), some (.int l1), some (.int ((v1 - (1 : Int32)) - l1))]) D_90_8 (Nat.le_of_ble_eq_true rfl) rfl ?_
  refine mjr_iload_n (x := ((v1 - (1 : Int32)) - l1)) D_90_9 rfl ?_
  refine mjq_if_lt (tgt := 22) D_90_10 rfl h (fun h => ?_) (fun h => ?_)
  · refine mjq_ic (v := (0 : Int32)) D_90_22 rfl ?_
    exact mjq_ret D_90_23 rfl h1 h2 h
  · refine mjr_aload_n (x := l0) D_90_13 rfl ?_
    refine mjq_gR D_90_14 fr_5_33 h (fun v2 h => ?_)
    refine mjr_iload_n (x := ((v1 - (1 : Int32)) - l1)) D_90_17 rfl ?_
    refine mjq_aI D_90_18 h (fun v3 h => ?_)
    refine mjr_goto (tgt := 23) D_90_19 rfl ?_
    exact mjq_ret D_90_23 rfl h1 h2 h
noncomputable def f_90 (R : mjR) (a0 : Nat) (a1 : Int32) (hp : mjH) : mjU := b_90_0 R a0 a1 hp
theorem c_90 {R : mjR} {d : Nat} (hR : mjC R d) {a0 : Nat} {a1 : Int32} {hp : mjH} {q : Option Value × mjH} (h : f_90 R a0 a1 hp = some q) : mjM (d + 1) 0 0 90 [.ref a0, .int a1] hp (mjEq q) :=
  mjM_of Ja_90 (Nat.le_of_ble_eq_true rfl) (mjG.fg (lo' := [some (.ref a0), some (.int a1), none]) (And.intro rfl (And.intro rfl True.intro)) ((t_90_0 hR (Nat.le_refl 0) (Nat.le_refl 0)) a0 a1 hp q h))
def J_91 : mjI := (⟨"OwnerHeap$Machine", "makeObject", "(II)V"⟩, 5, prog_7_method_20_code, 7, none, 2, false)
theorem Ja_91 : mjMt 91 = some J_91 := by rfl
theorem D_91_0 : decode J_91.2.2.1 0 = .ok (.iload_n 1, 1) := dzq_27 (by decide +kernel)
theorem D_91_1 : decode J_91.2.2.1 1 = .ok (.invokestatic 214, 3) := dzq_184 (by decide +kernel)
theorem D_91_4 : decode J_91.2.2.1 4 = .ok (.istore_n 3, 1) := dzq_62 (by decide +kernel)
theorem D_91_5 : decode J_91.2.2.1 5 = .ok (.aload_n 0, 1) := dzq_42 (by decide +kernel)
theorem D_91_6 : decode J_91.2.2.1 6 = .ok (.getfield 15, 3) := dzq_180 (by decide +kernel)
theorem D_91_9 : decode J_91.2.2.1 9 = .ok (.getfield 215, 3) := dzq_180 (by decide +kernel)
theorem D_91_12 : decode J_91.2.2.1 12 = .ok (.iload_n 3, 1) := dzq_29 (by decide +kernel)
theorem D_91_13 : decode J_91.2.2.1 13 = .ok (.iaload, 1) := dzq_46 (by decide +kernel)
theorem D_91_14 : decode J_91.2.2.1 14 = .ok (.istore 4, 2) := dzq_54 (by decide +kernel)
theorem D_91_16 : decode J_91.2.2.1 16 = .ok (.aload_n 0, 1) := dzq_42 (by decide +kernel)
theorem D_91_17 : decode J_91.2.2.1 17 = .ok (.getfield 9, 3) := dzq_180 (by decide +kernel)
theorem D_91_20 : decode J_91.2.2.1 20 = .ok (.iload_n 3, 1) := dzq_29 (by decide +kernel)
theorem D_91_21 : decode J_91.2.2.1 21 = .ok (.iload 4, 2) := dzq_21 (by decide +kernel)
theorem D_91_23 : decode J_91.2.2.1 23 = .ok (.aload_n 0, 1) := dzq_42 (by decide +kernel)
theorem D_91_24 : decode J_91.2.2.1 24 = .ok (.getfield 15, 3) := dzq_180 (by decide +kernel)
theorem D_91_27 : decode J_91.2.2.1 27 = .ok (.getfield 218, 3) := dzq_180 (by decide +kernel)
theorem D_91_30 : decode J_91.2.2.1 30 = .ok (.iload_n 3, 1) := dzq_29 (by decide +kernel)
theorem D_91_31 : decode J_91.2.2.1 31 = .ok (.iaload, 1) := dzq_46 (by decide +kernel)
theorem D_91_32 : decode J_91.2.2.1 32 = .ok (.invokevirtual 221, 3) := dzq_182 (by decide +kernel)
theorem D_91_35 : decode J_91.2.2.1 35 = .ok (.istore 5, 2) := dzq_54 (by decide +kernel)
theorem D_91_37 : decode J_91.2.2.1 37 = .ok (.iload 5, 2) := dzq_21 (by decide +kernel)
theorem D_91_39 : decode J_91.2.2.1 39 = .ok (.ifCond .ne 10, 3) := dzq_154 (by decide +kernel)
theorem D_91_42 : decode J_91.2.2.1 42 = .ok (.aload_n 0, 1) := dzq_42 (by decide +kernel)
theorem D_91_43 : decode J_91.2.2.1 43 = .ok (.iconst 4, 1) := dzq_7 (by decide +kernel)
theorem D_91_44 : decode J_91.2.2.1 44 = .ok (.iload_n 2, 1) := dzq_28 (by decide +kernel)
theorem D_91_45 : decode J_91.2.2.1 45 = .ok (.invokevirtual 177, 3) := dzq_182 (by decide +kernel)
theorem D_91_48 : decode J_91.2.2.1 48 = .ok (.return_, 1) := dzq_177 (by decide +kernel)
theorem D_91_49 : decode J_91.2.2.1 49 = .ok (.iconst 0, 1) := dzq_3 (by decide +kernel)
theorem D_91_50 : decode J_91.2.2.1 50 = .ok (.istore 6, 2) := dzq_54 (by decide +kernel)
theorem D_91_52 : decode J_91.2.2.1 52 = .ok (.iload 6, 2) := dzq_21 (by decide +kernel)
theorem D_91_54 : decode J_91.2.2.1 54 = .ok (.iload 4, 2) := dzq_21 (by decide +kernel)
theorem D_91_56 : decode J_91.2.2.1 56 = .ok (.if_icmp .ge 30, 3) := dzq_162 (by decide +kernel)
theorem D_91_59 : decode J_91.2.2.1 59 = .ok (.aload_n 0, 1) := dzq_42 (by decide +kernel)
theorem D_91_60 : decode J_91.2.2.1 60 = .ok (.getfield 9, 3) := dzq_180 (by decide +kernel)
theorem D_91_63 : decode J_91.2.2.1 63 = .ok (.iload 5, 2) := dzq_21 (by decide +kernel)
theorem D_91_65 : decode J_91.2.2.1 65 = .ok (.iload 6, 2) := dzq_21 (by decide +kernel)
theorem D_91_67 : decode J_91.2.2.1 67 = .ok (.aload_n 0, 1) := dzq_42 (by decide +kernel)
theorem D_91_68 : decode J_91.2.2.1 68 = .ok (.iload_n 1, 1) := dzq_27 (by decide +kernel)
theorem D_91_69 : decode J_91.2.2.1 69 = .ok (.iload 6, 2) := dzq_21 (by decide +kernel)
theorem D_91_71 : decode J_91.2.2.1 71 = .ok (.invokestatic 225, 3) := dzq_184 (by decide +kernel)
theorem D_91_74 : decode J_91.2.2.1 74 = .ok (.invokevirtual 228, 3) := dzq_182 (by decide +kernel)
theorem D_91_77 : decode J_91.2.2.1 77 = .ok (.invokevirtual 231, 3) := dzq_182 (by decide +kernel)
theorem D_91_80 : decode J_91.2.2.1 80 = .ok (.iinc 6 1, 3) := dzq_132 (by decide +kernel)
theorem D_91_83 : decode J_91.2.2.1 83 = .ok (.goto (-31), 3) := dzq_167 (by decide +kernel)
theorem D_91_86 : decode J_91.2.2.1 86 = .ok (.aload_n 0, 1) := dzq_42 (by decide +kernel)
theorem D_91_87 : decode J_91.2.2.1 87 = .ok (.iload 5, 2) := dzq_21 (by decide +kernel)
theorem D_91_89 : decode J_91.2.2.1 89 = .ok (.invokevirtual 128, 3) := dzq_182 (by decide +kernel)
theorem D_91_92 : decode J_91.2.2.1 92 = .ok (.return_, 1) := dzq_177 (by decide +kernel)
def P_91_52 (X : mjX) (d C S kc ks : Nat) (k : Nat → Int32 → Int32 → Int32 → Int32 → mjH → mjU) : Prop := ∀ (l0 : Nat) (l1 : Int32) (l4 : Int32) (l5 : Int32) (l6 : Int32) (hp : mjH) (q : Option Value × mjH), k l0 l1 l4 l5 l6 hp = some q → mjG X d C S J_91 (mjEq q) 52 [some (.ref l0), some (.int l1), none, none, some (.int l4), some (.int l5), some (.int l6)] [] hp kc ks
def P_91_0 (X : mjX) (d C S kc ks : Nat) (k : Nat → Int32 → Int32 → mjH → mjU) : Prop := ∀ (l0 : Nat) (l1 : Int32) (l2 : Int32) (hp : mjH) (q : Option Value × mjH), k l0 l1 l2 hp = some q → mjG X d C S J_91 (mjEq q) 0 [some (.ref l0), some (.int l1), some (.int l2), none, none, none, none] [] hp kc ks
noncomputable def b_91_52 (R : mjR) (k52 : Nat → Int32 → Int32 → Int32 → Int32 → mjH → mjU) (l0 : Nat) (l1 : Int32) (l4 : Int32) (l5 : Int32) (l6 : Int32) (hp : mjH) : mjU := (if l4 ≤ l6 then rV hp l0 5 (bN (R 79 [.ref l0, .int l5] hp) (fun  hp1 => some (none, hp1))) else gR hp l0 5 0 (fun v2 => bI (R 106 [.int l1, .int l6] hp) (fun v3 hp4 => rV hp4 l0 5 (bI (R 92 [.ref l0, .int v3] hp4) (fun v5 hp6 => rV hp6 v2 3 (bN (R 50 [.ref v2, .int l5, .int l6, .int v5] hp6) (fun  hp7 => k52 l0 l1 l4 l5 (l6 + (1 : Int32)) hp7)))))))
theorem t_91_52 {X : mjX} {d C S kc ks : Nat} {R : mjR} (hR : mjC R d) (h1 : kc ≤ C) (h2 : ks ≤ S) {k52 : Nat → Int32 → Int32 → Int32 → Int32 → mjH → mjU} (hk52 : P_91_52 X (d + 1) C S kc ks k52) : P_91_52 X (d + 1) C S kc ks (b_91_52 R k52) := by
  intro l0 l1 l4 l5 l6 hp q h
  unfold b_91_52 at h
  refine mjr_iload (x := l6) D_91_52 rfl ?_
  refine mjr_iload (x := l4) D_91_54 rfl ?_
  refine mjq_icmp_ge (tgt := 86) D_91_56 rfl h (fun h => ?_) (fun h => ?_)
  · refine mjr_aload_n (x := l0) D_91_86 rfl ?_
    refine mjr_iload (x := l5) D_91_87 rfl ?_
    refine mjq_vN (As := [.int l5]) (rest := []) D_91_89 mr_5_128 V_79 rfl rfl rfl hR (Nat.le_refl _) h1 h2 h (fun  hp1 h => ?_)
    exact mjq_nret D_91_92 rfl h1 h2 h
  · refine mjr_aload_n (x := l0) D_91_59 rfl ?_
    refine mjq_gR D_91_60 fr_5_9 h (fun v2 h => ?_)
    refine mjr_iload (x := l5) D_91_63 rfl ?_
    refine mjr_iload (x := l6) D_91_65 rfl ?_
    refine mjr_aload_n (x := l0) D_91_67 rfl ?_
    refine mjr_iload_n (x := l1) D_91_68 rfl ?_
    refine mjr_iload (x := l6) D_91_69 rfl ?_
    refine mjq_scI (As := [.int l1, .int l6]) (rest := [.ref l0, .int l6, .int l5, .ref v2]) D_91_71 mr_5_225 V_106 rfl rfl rfl hR (Nat.le_refl _) h1 h2 h (fun v3 hp4 h => ?_)
    refine mjq_vI (As := [.int v3]) (rest := [.int l6, .int l5, .ref v2]) D_91_74 mr_5_228 V_92 rfl rfl rfl hR (Nat.le_refl _) h1 h2 h (fun v5 hp6 h => ?_)
    refine mjq_vN (As := [.int l5, .int l6, .int v5]) (rest := []) D_91_77 mr_5_231 V_50 rfl rfl rfl hR (Nat.le_refl _) h1 h2 h (fun  hp7 h => ?_)
    refine mjq_iinc (x := l6) (c := (1 : Int32)) (lo' := [some (.ref l0), some (.int l1), none, none, some (.int l4), some (.int l5), some (.int (l6 + (1 : Int32)))]) D_91_80 rfl (Nat.le_of_ble_eq_true rfl) rfl rfl ?_
    refine mjr_goto (tgt := 52) D_91_83 rfl ?_
    exact hk52 _ _ _ _ _ _ _ h
noncomputable def L_91_52 (R : mjR) (n : Nat) : Nat → Int32 → Int32 → Int32 → Int32 → mjH → mjU := Nat.rec (motive := fun _ => Nat → Int32 → Int32 → Int32 → Int32 → mjH → mjU) (fun _ _ _ _ _ _ => none) (fun _ self => b_91_52 R self) n
theorem T_91_52 {X : mjX} {d C S kc ks : Nat} {R : mjR} (hR : mjC R d) (h1 : kc ≤ C) (h2 : ks ≤ S) (n : Nat) : P_91_52 X (d + 1) C S kc ks (L_91_52 R n) := by
  induction n with
  | zero => intro _ _ _ _ _ _ _ h; exact mj_no h
  | succ n ih => exact t_91_52 hR h1 h2 ih
noncomputable def b_91_0 (R : mjR) (l0 : Nat) (l1 : Int32) (l2 : Int32) (hp : mjH) : mjU := bI (R 105 [.int l1] hp) (fun v1 hp2 => gR hp2 l0 5 2 (fun v3 => gR hp2 v3 7 1 (fun v4 => aI hp2 v4 v1 (fun v5 => gR hp2 l0 5 0 (fun v6 => gR hp2 l0 5 2 (fun v7 => gR hp2 v7 7 8 (fun v8 => aI hp2 v8 v1 (fun v9 => rV hp2 v6 3 (bI (R 47 [.ref v6, .int v1, .int v5, .int v9] hp2) (fun v10 hp11 => (if v10 = 0 then rV hp11 l0 5 (bN (R 82 [.ref l0, .int (4 : Int32), .int l2] hp11) (fun  hp12 => some (none, hp12))) else L_91_52 R mjN l0 l1 v5 v10 (0 : Int32) hp11)))))))))))
theorem t_91_0 {X : mjX} {d C S kc ks : Nat} {R : mjR} (hR : mjC R d) (h1 : kc ≤ C) (h2 : ks ≤ S) : P_91_0 X (d + 1) C S kc ks (b_91_0 R) := by
  intro l0 l1 l2 hp q h
  unfold b_91_0 at h
  refine mjr_iload_n (x := l1) D_91_0 rfl ?_
  refine mjq_scI (As := [.int l1]) (rest := []) D_91_1 mr_5_214 V_105 rfl rfl rfl hR (Nat.le_refl _) h1 h2 h (fun v1 hp2 h => ?_)
  refine mjq_istore_n (lo' := [some (.ref l0), some (.int l1), some (.int l2), some (.int v1), none, none, none]) D_91_4 (Nat.le_of_ble_eq_true rfl) rfl ?_
  refine mjr_aload_n (x := l0) D_91_5 rfl ?_
  refine mjq_gR D_91_6 fr_5_15 h (fun v3 h => ?_)
  refine mjq_gR D_91_9 fr_5_215 h (fun v4 h => ?_)
  refine mjr_iload_n (x := v1) D_91_12 rfl ?_
  refine mjq_aI D_91_13 h (fun v5 h => ?_)
  refine mjq_istore (lo' := [some (.ref l0), some (.int l1), some (.int l2), some (.int v1), some (.int v5), none, none]) D_91_14 (Nat.le_of_ble_eq_true rfl) rfl ?_
  refine mjr_aload_n (x := l0) D_91_16 rfl ?_
  refine mjq_gR D_91_17 fr_5_9 h (fun v6 h => ?_)
  refine mjr_iload_n (x := v1) D_91_20 rfl ?_
  refine mjr_iload (x := v5) D_91_21 rfl ?_
  refine mjr_aload_n (x := l0) D_91_23 rfl ?_
  refine mjq_gR D_91_24 fr_5_15 h (fun v7 h => ?_)
  refine mjq_gR D_91_27 fr_5_218 h (fun v8 h => ?_)
  refine mjr_iload_n (x := v1) D_91_30 rfl ?_
  refine mjq_aI D_91_31 h (fun v9 h => ?_)
  refine mjq_vI (As := [.int v1, .int v5, .int v9]) (rest := []) D_91_32 mr_5_221 V_47 rfl rfl rfl hR (Nat.le_refl _) h1 h2 h (fun v10 hp11 h => ?_)
  refine mjq_istore (lo' := [some (.ref l0), some (.int l1), some (.int l2), some (.int v1), some (.int v5), some (.int v10), none]) D_91_35 (Nat.le_of_ble_eq_true rfl) rfl ?_
  refine mjr_iload (x := v10) D_91_37 rfl ?_
  refine mjq_if_ne (tgt := 49) D_91_39 rfl h (fun h => ?_) (fun h => ?_)
  · refine mjq_ic (v := (0 : Int32)) D_91_49 rfl ?_
    refine mjq_istore (lo' := [some (.ref l0), some (.int l1), some (.int l2), some (.int v1), some (.int v5), some (.int v10), some (.int (0 : Int32))]) D_91_50 (Nat.le_of_ble_eq_true rfl) rfl ?_
    exact mjG.fg (lo' := [some (.ref l0), some (.int l1), none, none, some (.int v5), some (.int v10), some (.int (0 : Int32))]) (And.intro rfl (And.intro rfl (And.intro rfl (And.intro rfl (And.intro rfl True.intro))))) ((T_91_52 hR h1 h2 mjN) _ _ _ _ _ _ _ h)
  · refine mjr_aload_n (x := l0) D_91_42 rfl ?_
    refine mjq_ic (v := (4 : Int32)) D_91_43 rfl ?_
    refine mjr_iload_n (x := l2) D_91_44 rfl ?_
    refine mjq_vN (As := [.int (4 : Int32), .int l2]) (rest := []) D_91_45 mr_5_177 V_82 rfl rfl rfl hR (Nat.le_refl _) h1 h2 h (fun  hp12 h => ?_)
    exact mjq_nret D_91_48 rfl h1 h2 h
noncomputable def f_91 (R : mjR) (a0 : Nat) (a1 : Int32) (a2 : Int32) (hp : mjH) : mjU := b_91_0 R a0 a1 a2 hp
theorem c_91 {R : mjR} {d : Nat} (hR : mjC R d) {a0 : Nat} {a1 : Int32} {a2 : Int32} {hp : mjH} {q : Option Value × mjH} (h : f_91 R a0 a1 a2 hp = some q) : mjM (d + 1) 0 0 91 [.ref a0, .int a1, .int a2] hp (mjEq q) :=
  mjM_of Ja_91 (Nat.le_of_ble_eq_true rfl) (mjG.fg (lo' := [some (.ref a0), some (.int a1), some (.int a2), none, none, none, none]) (And.intro rfl (And.intro rfl (And.intro rfl True.intro))) ((t_91_0 hR (Nat.le_refl 0) (Nat.le_refl 0)) a0 a1 a2 hp q h))
def J_92 : mjI := (⟨"OwnerHeap$Machine", "ownerHere", "(I)I"⟩, 5, prog_7_method_21_code, 5, (some .int), 1, false)
theorem Ja_92 : mjMt 92 = some J_92 := by rfl
theorem D_92_0 : decode J_92.2.2.1 0 = .ok (.aload_n 0, 1) := dzq_42 (by decide +kernel)
theorem D_92_1 : decode J_92.2.2.1 1 = .ok (.getfield 29, 3) := dzq_180 (by decide +kernel)
theorem D_92_4 : decode J_92.2.2.1 4 = .ok (.invokevirtual 131, 3) := dzq_182 (by decide +kernel)
theorem D_92_7 : decode J_92.2.2.1 7 = .ok (.istore_n 2, 1) := dzq_61 (by decide +kernel)
theorem D_92_8 : decode J_92.2.2.1 8 = .ok (.aload_n 0, 1) := dzq_42 (by decide +kernel)
theorem D_92_9 : decode J_92.2.2.1 9 = .ok (.getfield 29, 3) := dzq_180 (by decide +kernel)
theorem D_92_12 : decode J_92.2.2.1 12 = .ok (.getfield 145, 3) := dzq_180 (by decide +kernel)
theorem D_92_15 : decode J_92.2.2.1 15 = .ok (.iload_n 2, 1) := dzq_28 (by decide +kernel)
theorem D_92_16 : decode J_92.2.2.1 16 = .ok (.iaload, 1) := dzq_46 (by decide +kernel)
theorem D_92_17 : decode J_92.2.2.1 17 = .ok (.istore_n 3, 1) := dzq_62 (by decide +kernel)
theorem D_92_18 : decode J_92.2.2.1 18 = .ok (.iload_n 1, 1) := dzq_27 (by decide +kernel)
theorem D_92_19 : decode J_92.2.2.1 19 = .ok (.iconst 5, 1) := dzq_8 (by decide +kernel)
theorem D_92_20 : decode J_92.2.2.1 20 = .ok (.if_icmp .eq 14, 3) := dzq_159 (by decide +kernel)
theorem D_92_23 : decode J_92.2.2.1 23 = .ok (.aload_n 0, 1) := dzq_42 (by decide +kernel)
theorem D_92_24 : decode J_92.2.2.1 24 = .ok (.getfield 9, 3) := dzq_180 (by decide +kernel)
theorem D_92_27 : decode J_92.2.2.1 27 = .ok (.iload_n 3, 1) := dzq_29 (by decide +kernel)
theorem D_92_28 : decode J_92.2.2.1 28 = .ok (.invokevirtual 190, 3) := dzq_182 (by decide +kernel)
theorem D_92_31 : decode J_92.2.2.1 31 = .ok (.ifCond .ne 5, 3) := dzq_154 (by decide +kernel)
theorem D_92_34 : decode J_92.2.2.1 34 = .ok (.iconst 0, 1) := dzq_3 (by decide +kernel)
theorem D_92_35 : decode J_92.2.2.1 35 = .ok (.ireturn, 1) := dzq_172 (by decide +kernel)
theorem D_92_36 : decode J_92.2.2.1 36 = .ok (.iload_n 1, 1) := dzq_27 (by decide +kernel)
theorem D_92_37 : decode J_92.2.2.1 37 = .ok (.bipush 6, 2) := dzq_16 (by decide +kernel)
theorem D_92_39 : decode J_92.2.2.1 39 = .ok (.if_icmp .ne 5, 3) := dzq_160 (by decide +kernel)
theorem D_92_42 : decode J_92.2.2.1 42 = .ok (.iload_n 3, 1) := dzq_29 (by decide +kernel)
theorem D_92_43 : decode J_92.2.2.1 43 = .ok (.ireturn, 1) := dzq_172 (by decide +kernel)
theorem D_92_44 : decode J_92.2.2.1 44 = .ok (.aload_n 0, 1) := dzq_42 (by decide +kernel)
theorem D_92_45 : decode J_92.2.2.1 45 = .ok (.getfield 15, 3) := dzq_180 (by decide +kernel)
theorem D_92_48 : decode J_92.2.2.1 48 = .ok (.aload_n 0, 1) := dzq_42 (by decide +kernel)
theorem D_92_49 : decode J_92.2.2.1 49 = .ok (.getfield 9, 3) := dzq_180 (by decide +kernel)
theorem D_92_52 : decode J_92.2.2.1 52 = .ok (.iload_n 3, 1) := dzq_29 (by decide +kernel)
theorem D_92_53 : decode J_92.2.2.1 53 = .ok (.invokevirtual 203, 3) := dzq_182 (by decide +kernel)
theorem D_92_56 : decode J_92.2.2.1 56 = .ok (.aload_n 0, 1) := dzq_42 (by decide +kernel)
theorem D_92_57 : decode J_92.2.2.1 57 = .ok (.getfield 15, 3) := dzq_180 (by decide +kernel)
theorem D_92_60 : decode J_92.2.2.1 60 = .ok (.getfield 86, 3) := dzq_180 (by decide +kernel)
theorem D_92_63 : decode J_92.2.2.1 63 = .ok (.getfield 234, 3) := dzq_180 (by decide +kernel)
theorem D_92_66 : decode J_92.2.2.1 66 = .ok (.aload_n 0, 1) := dzq_42 (by decide +kernel)
theorem D_92_67 : decode J_92.2.2.1 67 = .ok (.getfield 29, 3) := dzq_180 (by decide +kernel)
theorem D_92_70 : decode J_92.2.2.1 70 = .ok (.getfield 237, 3) := dzq_180 (by decide +kernel)
theorem D_92_73 : decode J_92.2.2.1 73 = .ok (.iload_n 2, 1) := dzq_28 (by decide +kernel)
theorem D_92_74 : decode J_92.2.2.1 74 = .ok (.iaload, 1) := dzq_46 (by decide +kernel)
theorem D_92_75 : decode J_92.2.2.1 75 = .ok (.iaload, 1) := dzq_46 (by decide +kernel)
theorem D_92_76 : decode J_92.2.2.1 76 = .ok (.invokevirtual 240, 3) := dzq_182 (by decide +kernel)
theorem D_92_79 : decode J_92.2.2.1 79 = .ok (.istore 4, 2) := dzq_54 (by decide +kernel)
theorem D_92_81 : decode J_92.2.2.1 81 = .ok (.aload_n 0, 1) := dzq_42 (by decide +kernel)
theorem D_92_82 : decode J_92.2.2.1 82 = .ok (.iload_n 3, 1) := dzq_29 (by decide +kernel)
theorem D_92_83 : decode J_92.2.2.1 83 = .ok (.iload 4, 2) := dzq_21 (by decide +kernel)
theorem D_92_85 : decode J_92.2.2.1 85 = .ok (.iload_n 1, 1) := dzq_27 (by decide +kernel)
theorem D_92_86 : decode J_92.2.2.1 86 = .ok (.invokevirtual 243, 3) := dzq_182 (by decide +kernel)
theorem D_92_89 : decode J_92.2.2.1 89 = .ok (.ireturn, 1) := dzq_172 (by decide +kernel)
def P_92_34 (X : mjX) (d C S kc ks : Nat) (k : mjH → mjU) : Prop := ∀  (hp : mjH) (q : Option Value × mjH), k  hp = some q → mjG X d C S J_92 (mjEq q) 34 [none, none, none, none, none] [] hp kc ks
def P_92_0 (X : mjX) (d C S kc ks : Nat) (k : Nat → Int32 → mjH → mjU) : Prop := ∀ (l0 : Nat) (l1 : Int32) (hp : mjH) (q : Option Value × mjH), k l0 l1 hp = some q → mjG X d C S J_92 (mjEq q) 0 [some (.ref l0), some (.int l1), none, none, none] [] hp kc ks
noncomputable def b_92_34 (R : mjR)  (hp : mjH) : mjU := some (some (.int (0 : Int32)), hp)
theorem t_92_34 {X : mjX} {d C S kc ks : Nat} {R : mjR} (hR : mjC R d) (h1 : kc ≤ C) (h2 : ks ≤ S) : P_92_34 X (d + 1) C S kc ks (b_92_34 R) := by
  intro  hp q h
  unfold b_92_34 at h
  refine mjq_ic (v := (0 : Int32)) D_92_34 rfl ?_
  exact mjq_ret D_92_35 rfl h1 h2 h
noncomputable def b_92_0 (R : mjR) (l0 : Nat) (l1 : Int32) (hp : mjH) : mjU := gR hp l0 5 1 (fun v1 => rV hp v1 2 (bI (R 38 [.ref v1] hp) (fun v2 hp3 => gR hp3 l0 5 1 (fun v4 => gR hp3 v4 2 3 (fun v5 => aI hp3 v5 v2 (fun v6 => (if l1 = (5 : Int32) then b_92_34 R hp3 else gR hp3 l0 5 0 (fun v7 => rV hp3 v7 3 (bI (R 43 [.ref v7, .int v6] hp3) (fun v8 hp9 => (if v8 = 0 then b_92_34 R hp9 else (if l1 = (6 : Int32) then some (some (.int v6), hp9) else gR hp9 l0 5 2 (fun v10 => gR hp9 l0 5 0 (fun v11 => rV hp9 v11 3 (bI (R 46 [.ref v11, .int v6] hp9) (fun v12 hp13 => gR hp13 l0 5 2 (fun v14 => gR hp13 v14 7 14 (fun v15 => gR hp13 v15 6 2 (fun v16 => gR hp13 l0 5 1 (fun v17 => gR hp13 v17 2 2 (fun v18 => aI hp13 v18 v2 (fun v19 => aI hp13 v16 v19 (fun v20 => rV hp13 v10 7 (bI (R 114 [.ref v10, .int v12, .int v20] hp13) (fun v21 hp22 => rV hp22 l0 5 (bI (R 93 [.ref l0, .int v6, .int v21, .int l1] hp22) (fun v23 hp24 => some (some (.int v23), hp24))))))))))))))))))))))))))))
theorem t_92_0 {X : mjX} {d C S kc ks : Nat} {R : mjR} (hR : mjC R d) (h1 : kc ≤ C) (h2 : ks ≤ S) : P_92_0 X (d + 1) C S kc ks (b_92_0 R) := by
  intro l0 l1 hp q h
  unfold b_92_0 at h
  refine mjr_aload_n (x := l0) D_92_0 rfl ?_
  refine mjq_gR D_92_1 fr_5_29 h (fun v1 h => ?_)
  refine mjq_vI (As := []) (rest := []) D_92_4 mr_5_131 V_38 rfl rfl rfl hR (Nat.le_refl _) h1 h2 h (fun v2 hp3 h => ?_)
  refine mjq_istore_n (lo' := [some (.ref l0), some (.int l1), some (.int v2), none, none]) D_92_7 (Nat.le_of_ble_eq_true rfl) rfl ?_
  refine mjr_aload_n (x := l0) D_92_8 rfl ?_
  refine mjq_gR D_92_9 fr_5_29 h (fun v4 h => ?_)
  refine mjq_gR D_92_12 fr_5_145 h (fun v5 h => ?_)
  refine mjr_iload_n (x := v2) D_92_15 rfl ?_
  refine mjq_aI D_92_16 h (fun v6 h => ?_)
  refine mjq_istore_n (lo' := [some (.ref l0), some (.int l1), some (.int v2), some (.int v6), none]) D_92_17 (Nat.le_of_ble_eq_true rfl) rfl ?_
  refine mjr_iload_n (x := l1) D_92_18 rfl ?_
  refine mjq_ic (v := (5 : Int32)) D_92_19 rfl ?_
  refine mjq_icmp_eq (tgt := 34) D_92_20 rfl h (fun h => ?_) (fun h => ?_)
  · exact mjG.fg (lo' := [none, none, none, none, none]) True.intro ((t_92_34 hR h1 h2) _ _ h)
  · refine mjr_aload_n (x := l0) D_92_23 rfl ?_
    refine mjq_gR D_92_24 fr_5_9 h (fun v7 h => ?_)
    refine mjr_iload_n (x := v6) D_92_27 rfl ?_
    refine mjq_vI (As := [.int v6]) (rest := []) D_92_28 mr_5_190 V_43 rfl rfl rfl hR (Nat.le_refl _) h1 h2 h (fun v8 hp9 h => ?_)
    refine mjq_if_ne (tgt := 36) D_92_31 rfl h (fun h => ?_) (fun h => ?_)
    · refine mjr_iload_n (x := l1) D_92_36 rfl ?_
      refine mjq_bi (v := (6 : Int32)) D_92_37 rfl ?_
      refine mjq_icmp_ne (tgt := 44) D_92_39 rfl h (fun h => ?_) (fun h => ?_)
      · refine mjr_aload_n (x := l0) D_92_44 rfl ?_
        refine mjq_gR D_92_45 fr_5_15 h (fun v10 h => ?_)
        refine mjr_aload_n (x := l0) D_92_48 rfl ?_
        refine mjq_gR D_92_49 fr_5_9 h (fun v11 h => ?_)
        refine mjr_iload_n (x := v6) D_92_52 rfl ?_
        refine mjq_vI (As := [.int v6]) (rest := [.ref v10]) D_92_53 mr_5_203 V_46 rfl rfl rfl hR (Nat.le_refl _) h1 h2 h (fun v12 hp13 h => ?_)
        refine mjr_aload_n (x := l0) D_92_56 rfl ?_
        refine mjq_gR D_92_57 fr_5_15 h (fun v14 h => ?_)
        refine mjq_gR D_92_60 fr_5_86 h (fun v15 h => ?_)
        refine mjq_gR D_92_63 fr_5_234 h (fun v16 h => ?_)
        refine mjr_aload_n (x := l0) D_92_66 rfl ?_
        refine mjq_gR D_92_67 fr_5_29 h (fun v17 h => ?_)
        refine mjq_gR D_92_70 fr_5_237 h (fun v18 h => ?_)
        refine mjr_iload_n (x := v2) D_92_73 rfl ?_
        refine mjq_aI D_92_74 h (fun v19 h => ?_)
        refine mjq_aI D_92_75 h (fun v20 h => ?_)
        refine mjq_vI (As := [.int v12, .int v20]) (rest := []) D_92_76 mr_5_240 V_114 rfl rfl rfl hR (Nat.le_refl _) h1 h2 h (fun v21 hp22 h => ?_)
        refine mjq_istore (lo' := [some (.ref l0), some (.int l1), some (.int v2), some (.int v6), some (.int v21)]) D_92_79 (Nat.le_of_ble_eq_true rfl) rfl ?_
        refine mjr_aload_n (x := l0) D_92_81 rfl ?_
        refine mjr_iload_n (x := v6) D_92_82 rfl ?_
        refine mjr_iload (x := v21) D_92_83 rfl ?_
        refine mjr_iload_n (x := l1) D_92_85 rfl ?_
        refine mjq_vI (As := [.int v6, .int v21, .int l1]) (rest := []) D_92_86 mr_5_243 V_93 rfl rfl rfl hR (Nat.le_refl _) h1 h2 h (fun v23 hp24 h => ?_)
        exact mjq_ret D_92_89 rfl h1 h2 h
      · refine mjr_iload_n (x := v6) D_92_42 rfl ?_
        exact mjq_ret D_92_43 rfl h1 h2 h
    · exact mjG.fg (lo' := [none, none, none, none, none]) True.intro ((t_92_34 hR h1 h2) _ _ h)
noncomputable def f_92 (R : mjR) (a0 : Nat) (a1 : Int32) (hp : mjH) : mjU := b_92_0 R a0 a1 hp
theorem c_92 {R : mjR} {d : Nat} (hR : mjC R d) {a0 : Nat} {a1 : Int32} {hp : mjH} {q : Option Value × mjH} (h : f_92 R a0 a1 hp = some q) : mjM (d + 1) 0 0 92 [.ref a0, .int a1] hp (mjEq q) :=
  mjM_of Ja_92 (Nat.le_of_ble_eq_true rfl) (mjG.fg (lo' := [some (.ref a0), some (.int a1), none, none, none]) (And.intro rfl (And.intro rfl True.intro)) ((t_92_0 hR (Nat.le_refl 0) (Nat.le_refl 0)) a0 a1 hp q h))
def J_93 : mjI := (⟨"OwnerHeap$Machine", "ownerSeen", "(III)I"⟩, 5, prog_7_method_22_code, 5, (some .int), 3, false)
theorem Ja_93 : mjMt 93 = some J_93 := by rfl
theorem D_93_0 : decode J_93.2.2.1 0 = .ok (.iload_n 2, 1) := dzq_28 (by decide +kernel)
theorem D_93_1 : decode J_93.2.2.1 1 = .ok (.iload_n 3, 1) := dzq_29 (by decide +kernel)
theorem D_93_2 : decode J_93.2.2.1 2 = .ok (.invokestatic 225, 3) := dzq_184 (by decide +kernel)
theorem D_93_5 : decode J_93.2.2.1 5 = .ok (.istore 4, 2) := dzq_54 (by decide +kernel)
theorem D_93_7 : decode J_93.2.2.1 7 = .ok (.iload 4, 2) := dzq_21 (by decide +kernel)
theorem D_93_9 : decode J_93.2.2.1 9 = .ok (.aload_n 0, 1) := dzq_42 (by decide +kernel)
theorem D_93_10 : decode J_93.2.2.1 10 = .ok (.getfield 9, 3) := dzq_180 (by decide +kernel)
theorem D_93_13 : decode J_93.2.2.1 13 = .ok (.iload_n 1, 1) := dzq_27 (by decide +kernel)
theorem D_93_14 : decode J_93.2.2.1 14 = .ok (.invokevirtual 246, 3) := dzq_182 (by decide +kernel)
theorem D_93_17 : decode J_93.2.2.1 17 = .ok (.if_icmp .ge 16, 3) := dzq_162 (by decide +kernel)
theorem D_93_20 : decode J_93.2.2.1 20 = .ok (.aload_n 0, 1) := dzq_42 (by decide +kernel)
theorem D_93_21 : decode J_93.2.2.1 21 = .ok (.getfield 9, 3) := dzq_180 (by decide +kernel)
theorem D_93_24 : decode J_93.2.2.1 24 = .ok (.iload_n 1, 1) := dzq_27 (by decide +kernel)
theorem D_93_25 : decode J_93.2.2.1 25 = .ok (.iload 4, 2) := dzq_21 (by decide +kernel)
theorem D_93_27 : decode J_93.2.2.1 27 = .ok (.invokevirtual 249, 3) := dzq_182 (by decide +kernel)
theorem D_93_30 : decode J_93.2.2.1 30 = .ok (.goto 4, 3) := dzq_167 (by decide +kernel)
theorem D_93_33 : decode J_93.2.2.1 33 = .ok (.iconst 0, 1) := dzq_3 (by decide +kernel)
theorem D_93_34 : decode J_93.2.2.1 34 = .ok (.ireturn, 1) := dzq_172 (by decide +kernel)
def P_93_0 (X : mjX) (d C S kc ks : Nat) (k : Nat → Int32 → Int32 → Int32 → mjH → mjU) : Prop := ∀ (l0 : Nat) (l1 : Int32) (l2 : Int32) (l3 : Int32) (hp : mjH) (q : Option Value × mjH), k l0 l1 l2 l3 hp = some q → mjG X d C S J_93 (mjEq q) 0 [some (.ref l0), some (.int l1), some (.int l2), some (.int l3), none] [] hp kc ks
noncomputable def b_93_0 (R : mjR) (l0 : Nat) (l1 : Int32) (l2 : Int32) (l3 : Int32) (hp : mjH) : mjU := bI (R 106 [.int l2, .int l3] hp) (fun v1 hp2 => gR hp2 l0 5 0 (fun v3 => rV hp2 v3 3 (bI (R 48 [.ref v3, .int l1] hp2) (fun v4 hp5 => (if v4 ≤ v1 then some (some (.int (0 : Int32)), hp5) else gR hp5 l0 5 0 (fun v6 => rV hp5 v6 3 (bI (R 49 [.ref v6, .int l1, .int v1] hp5) (fun v7 hp8 => some (some (.int v7), hp8)))))))))
theorem t_93_0 {X : mjX} {d C S kc ks : Nat} {R : mjR} (hR : mjC R d) (h1 : kc ≤ C) (h2 : ks ≤ S) : P_93_0 X (d + 1) C S kc ks (b_93_0 R) := by
  intro l0 l1 l2 l3 hp q h
  unfold b_93_0 at h
  refine mjr_iload_n (x := l2) D_93_0 rfl ?_
  refine mjr_iload_n (x := l3) D_93_1 rfl ?_
  refine mjq_scI (As := [.int l2, .int l3]) (rest := []) D_93_2 mr_5_225 V_106 rfl rfl rfl hR (Nat.le_refl _) h1 h2 h (fun v1 hp2 h => ?_)
  refine mjq_istore (lo' := [some (.ref l0), some (.int l1), some (.int l2), some (.int l3), some (.int v1)]) D_93_5 (Nat.le_of_ble_eq_true rfl) rfl ?_
  refine mjr_iload (x := v1) D_93_7 rfl ?_
  refine mjr_aload_n (x := l0) D_93_9 rfl ?_
  refine mjq_gR D_93_10 fr_5_9 h (fun v3 h => ?_)
  refine mjr_iload_n (x := l1) D_93_13 rfl ?_
  refine mjq_vI (As := [.int l1]) (rest := [.int v1]) D_93_14 mr_5_246 V_48 rfl rfl rfl hR (Nat.le_refl _) h1 h2 h (fun v4 hp5 h => ?_)
  refine mjq_icmp_ge (tgt := 33) D_93_17 rfl h (fun h => ?_) (fun h => ?_)
  · refine mjq_ic (v := (0 : Int32)) D_93_33 rfl ?_
    exact mjq_ret D_93_34 rfl h1 h2 h
  · refine mjr_aload_n (x := l0) D_93_20 rfl ?_
    refine mjq_gR D_93_21 fr_5_9 h (fun v6 h => ?_)
    refine mjr_iload_n (x := l1) D_93_24 rfl ?_
    refine mjr_iload (x := v1) D_93_25 rfl ?_
    refine mjq_vI (As := [.int l1, .int v1]) (rest := []) D_93_27 mr_5_249 V_49 rfl rfl rfl hR (Nat.le_refl _) h1 h2 h (fun v7 hp8 h => ?_)
    refine mjr_goto (tgt := 34) D_93_30 rfl ?_
    exact mjq_ret D_93_34 rfl h1 h2 h
noncomputable def f_93 (R : mjR) (a0 : Nat) (a1 : Int32) (a2 : Int32) (a3 : Int32) (hp : mjH) : mjU := b_93_0 R a0 a1 a2 a3 hp
theorem c_93 {R : mjR} {d : Nat} (hR : mjC R d) {a0 : Nat} {a1 : Int32} {a2 : Int32} {a3 : Int32} {hp : mjH} {q : Option Value × mjH} (h : f_93 R a0 a1 a2 a3 hp = some q) : mjM (d + 1) 0 0 93 [.ref a0, .int a1, .int a2, .int a3] hp (mjEq q) :=
  mjM_of Ja_93 (Nat.le_of_ble_eq_true rfl) (mjG.fg (lo' := [some (.ref a0), some (.int a1), some (.int a2), some (.int a3), none]) (And.intro rfl (And.intro rfl (And.intro rfl (And.intro rfl True.intro)))) ((t_93_0 hR (Nat.le_refl 0) (Nat.le_refl 0)) a0 a1 a2 a3 hp q h))
def J_94 : mjI := (⟨"OwnerHeap$Machine", "isAs", "(II)Z"⟩, 5, prog_7_method_23_code, 7, (some .boolean), 2, false)
theorem Ja_94 : mjMt 94 = some J_94 := by rfl
theorem D_94_0 : decode J_94.2.2.1 0 = .ok (.aload_n 0, 1) := dzq_42 (by decide +kernel)
theorem D_94_1 : decode J_94.2.2.1 1 = .ok (.getfield 9, 3) := dzq_180 (by decide +kernel)
theorem D_94_4 : decode J_94.2.2.1 4 = .ok (.iload_n 1, 1) := dzq_27 (by decide +kernel)
theorem D_94_5 : decode J_94.2.2.1 5 = .ok (.invokevirtual 190, 3) := dzq_182 (by decide +kernel)
theorem D_94_8 : decode J_94.2.2.1 8 = .ok (.ifCond .ne 5, 3) := dzq_154 (by decide +kernel)
theorem D_94_11 : decode J_94.2.2.1 11 = .ok (.iconst 1, 1) := dzq_4 (by decide +kernel)
theorem D_94_12 : decode J_94.2.2.1 12 = .ok (.ireturn, 1) := dzq_172 (by decide +kernel)
theorem D_94_13 : decode J_94.2.2.1 13 = .ok (.iload_n 2, 1) := dzq_28 (by decide +kernel)
theorem D_94_14 : decode J_94.2.2.1 14 = .ok (.invokestatic 214, 3) := dzq_184 (by decide +kernel)
theorem D_94_17 : decode J_94.2.2.1 17 = .ok (.istore_n 3, 1) := dzq_62 (by decide +kernel)
theorem D_94_18 : decode J_94.2.2.1 18 = .ok (.aload_n 0, 1) := dzq_42 (by decide +kernel)
theorem D_94_19 : decode J_94.2.2.1 19 = .ok (.getfield 15, 3) := dzq_180 (by decide +kernel)
theorem D_94_22 : decode J_94.2.2.1 22 = .ok (.aload_n 0, 1) := dzq_42 (by decide +kernel)
theorem D_94_23 : decode J_94.2.2.1 23 = .ok (.getfield 9, 3) := dzq_180 (by decide +kernel)
theorem D_94_26 : decode J_94.2.2.1 26 = .ok (.iload_n 1, 1) := dzq_27 (by decide +kernel)
theorem D_94_27 : decode J_94.2.2.1 27 = .ok (.invokevirtual 203, 3) := dzq_182 (by decide +kernel)
theorem D_94_30 : decode J_94.2.2.1 30 = .ok (.iload_n 3, 1) := dzq_29 (by decide +kernel)
theorem D_94_31 : decode J_94.2.2.1 31 = .ok (.invokevirtual 240, 3) := dzq_182 (by decide +kernel)
theorem D_94_34 : decode J_94.2.2.1 34 = .ok (.istore 4, 2) := dzq_54 (by decide +kernel)
theorem D_94_36 : decode J_94.2.2.1 36 = .ok (.iload 4, 2) := dzq_21 (by decide +kernel)
theorem D_94_38 : decode J_94.2.2.1 38 = .ok (.ifCond .lt 7, 3) := dzq_155 (by decide +kernel)
theorem D_94_41 : decode J_94.2.2.1 41 = .ok (.iconst 1, 1) := dzq_4 (by decide +kernel)
theorem D_94_42 : decode J_94.2.2.1 42 = .ok (.goto 4, 3) := dzq_167 (by decide +kernel)
theorem D_94_45 : decode J_94.2.2.1 45 = .ok (.iconst 0, 1) := dzq_3 (by decide +kernel)
theorem D_94_46 : decode J_94.2.2.1 46 = .ok (.istore 5, 2) := dzq_54 (by decide +kernel)
theorem D_94_48 : decode J_94.2.2.1 48 = .ok (.iconst 0, 1) := dzq_3 (by decide +kernel)
theorem D_94_49 : decode J_94.2.2.1 49 = .ok (.istore 6, 2) := dzq_54 (by decide +kernel)
theorem D_94_51 : decode J_94.2.2.1 51 = .ok (.iload 5, 2) := dzq_21 (by decide +kernel)
theorem D_94_53 : decode J_94.2.2.1 53 = .ok (.ifCond .eq 52, 3) := dzq_153 (by decide +kernel)
theorem D_94_56 : decode J_94.2.2.1 56 = .ok (.iload 6, 2) := dzq_21 (by decide +kernel)
theorem D_94_58 : decode J_94.2.2.1 58 = .ok (.aload_n 0, 1) := dzq_42 (by decide +kernel)
theorem D_94_59 : decode J_94.2.2.1 59 = .ok (.getfield 15, 3) := dzq_180 (by decide +kernel)
theorem D_94_62 : decode J_94.2.2.1 62 = .ok (.getfield 215, 3) := dzq_180 (by decide +kernel)
theorem D_94_65 : decode J_94.2.2.1 65 = .ok (.iload_n 3, 1) := dzq_29 (by decide +kernel)
theorem D_94_66 : decode J_94.2.2.1 66 = .ok (.iaload, 1) := dzq_46 (by decide +kernel)
theorem D_94_67 : decode J_94.2.2.1 67 = .ok (.if_icmp .ge 38, 3) := dzq_162 (by decide +kernel)
theorem D_94_70 : decode J_94.2.2.1 70 = .ok (.aload_n 0, 1) := dzq_42 (by decide +kernel)
theorem D_94_71 : decode J_94.2.2.1 71 = .ok (.iload_n 1, 1) := dzq_27 (by decide +kernel)
theorem D_94_72 : decode J_94.2.2.1 72 = .ok (.iload 4, 2) := dzq_21 (by decide +kernel)
theorem D_94_74 : decode J_94.2.2.1 74 = .ok (.iload 6, 2) := dzq_21 (by decide +kernel)
theorem D_94_76 : decode J_94.2.2.1 76 = .ok (.invokevirtual 243, 3) := dzq_182 (by decide +kernel)
theorem D_94_79 : decode J_94.2.2.1 79 = .ok (.aload_n 0, 1) := dzq_42 (by decide +kernel)
theorem D_94_80 : decode J_94.2.2.1 80 = .ok (.iload_n 2, 1) := dzq_28 (by decide +kernel)
theorem D_94_81 : decode J_94.2.2.1 81 = .ok (.iload 6, 2) := dzq_21 (by decide +kernel)
theorem D_94_83 : decode J_94.2.2.1 83 = .ok (.invokestatic 225, 3) := dzq_184 (by decide +kernel)
theorem D_94_86 : decode J_94.2.2.1 86 = .ok (.invokevirtual 228, 3) := dzq_182 (by decide +kernel)
theorem D_94_89 : decode J_94.2.2.1 89 = .ok (.if_icmp .ne 7, 3) := dzq_160 (by decide +kernel)
theorem D_94_92 : decode J_94.2.2.1 92 = .ok (.iconst 1, 1) := dzq_4 (by decide +kernel)
theorem D_94_93 : decode J_94.2.2.1 93 = .ok (.goto 4, 3) := dzq_167 (by decide +kernel)
theorem D_94_96 : decode J_94.2.2.1 96 = .ok (.iconst 0, 1) := dzq_3 (by decide +kernel)
theorem D_94_97 : decode J_94.2.2.1 97 = .ok (.istore 5, 2) := dzq_54 (by decide +kernel)
theorem D_94_99 : decode J_94.2.2.1 99 = .ok (.iinc 6 1, 3) := dzq_132 (by decide +kernel)
theorem D_94_102 : decode J_94.2.2.1 102 = .ok (.goto (-51), 3) := dzq_167 (by decide +kernel)
theorem D_94_105 : decode J_94.2.2.1 105 = .ok (.iload 5, 2) := dzq_21 (by decide +kernel)
theorem D_94_107 : decode J_94.2.2.1 107 = .ok (.ireturn, 1) := dzq_172 (by decide +kernel)
def P_94_105 (X : mjX) (d C S kc ks : Nat) (k : Int32 → mjH → mjU) : Prop := ∀ (l5 : Int32) (hp : mjH) (q : Option Value × mjH), k l5 hp = some q → mjG X d C S J_94 (mjEq q) 105 [none, none, none, none, none, some (.int l5), none] [] hp kc ks
def P_94_97 (X : mjX) (d C S kc ks : Nat) (k : Nat → Int32 → Int32 → Int32 → Int32 → Int32 → Int32 → mjH → mjU) : Prop := ∀ (l0 : Nat) (l1 : Int32) (l2 : Int32) (l3 : Int32) (l4 : Int32) (l6 : Int32) (s0 : Int32) (hp : mjH) (q : Option Value × mjH), k l0 l1 l2 l3 l4 l6 s0 hp = some q → mjG X d C S J_94 (mjEq q) 97 [some (.ref l0), some (.int l1), some (.int l2), some (.int l3), some (.int l4), none, some (.int l6)] [.int s0] hp kc ks
def P_94_51 (X : mjX) (d C S kc ks : Nat) (k : Nat → Int32 → Int32 → Int32 → Int32 → Int32 → Int32 → mjH → mjU) : Prop := ∀ (l0 : Nat) (l1 : Int32) (l2 : Int32) (l3 : Int32) (l4 : Int32) (l5 : Int32) (l6 : Int32) (hp : mjH) (q : Option Value × mjH), k l0 l1 l2 l3 l4 l5 l6 hp = some q → mjG X d C S J_94 (mjEq q) 51 [some (.ref l0), some (.int l1), some (.int l2), some (.int l3), some (.int l4), some (.int l5), some (.int l6)] [] hp kc ks
def P_94_46 (X : mjX) (d C S kc ks : Nat) (k : Nat → Int32 → Int32 → Int32 → Int32 → Int32 → mjH → mjU) : Prop := ∀ (l0 : Nat) (l1 : Int32) (l2 : Int32) (l3 : Int32) (l4 : Int32) (s0 : Int32) (hp : mjH) (q : Option Value × mjH), k l0 l1 l2 l3 l4 s0 hp = some q → mjG X d C S J_94 (mjEq q) 46 [some (.ref l0), some (.int l1), some (.int l2), some (.int l3), some (.int l4), none, none] [.int s0] hp kc ks
def P_94_0 (X : mjX) (d C S kc ks : Nat) (k : Nat → Int32 → Int32 → mjH → mjU) : Prop := ∀ (l0 : Nat) (l1 : Int32) (l2 : Int32) (hp : mjH) (q : Option Value × mjH), k l0 l1 l2 hp = some q → mjG X d C S J_94 (mjEq q) 0 [some (.ref l0), some (.int l1), some (.int l2), none, none, none, none] [] hp kc ks
noncomputable def b_94_105 (R : mjR) (l5 : Int32) (hp : mjH) : mjU := (if narrow .boolean (.int l5) = .int l5 then some (some (.int l5), hp) else none)
theorem t_94_105 {X : mjX} {d C S kc ks : Nat} {R : mjR} (hR : mjC R d) (h1 : kc ≤ C) (h2 : ks ≤ S) : P_94_105 X (d + 1) C S kc ks (b_94_105 R) := by
  intro l5 hp q h
  unfold b_94_105 at h
  refine mjr_iload (x := l5) D_94_105 rfl ?_
  exact mjq_retZ (ty := .boolean) D_94_107 rfl h1 h2 h
noncomputable def b_94_97 (R : mjR) (k51 : Nat → Int32 → Int32 → Int32 → Int32 → Int32 → Int32 → mjH → mjU) (l0 : Nat) (l1 : Int32) (l2 : Int32) (l3 : Int32) (l4 : Int32) (l6 : Int32) (s0 : Int32) (hp : mjH) : mjU := k51 l0 l1 l2 l3 l4 s0 (l6 + (1 : Int32)) hp
theorem t_94_97 {X : mjX} {d C S kc ks : Nat} {R : mjR} (hR : mjC R d) (h1 : kc ≤ C) (h2 : ks ≤ S) {k51 : Nat → Int32 → Int32 → Int32 → Int32 → Int32 → Int32 → mjH → mjU} (hk51 : P_94_51 X (d + 1) C S kc ks k51) : P_94_97 X (d + 1) C S kc ks (b_94_97 R k51) := by
  intro l0 l1 l2 l3 l4 l6 s0 hp q h
  unfold b_94_97 at h
  refine mjq_istore (lo' := [some (.ref l0), some (.int l1), some (.int l2), some (.int l3), some (.int l4), some (.int s0), some (.int l6)]) D_94_97 (Nat.le_of_ble_eq_true rfl) rfl ?_
  refine mjq_iinc (x := l6) (c := (1 : Int32)) (lo' := [some (.ref l0), some (.int l1), some (.int l2), some (.int l3), some (.int l4), some (.int s0), some (.int (l6 + (1 : Int32)))]) D_94_99 rfl (Nat.le_of_ble_eq_true rfl) rfl rfl ?_
  refine mjr_goto (tgt := 51) D_94_102 rfl ?_
  exact hk51 _ _ _ _ _ _ _ _ _ h
noncomputable def b_94_51 (R : mjR) (k51 : Nat → Int32 → Int32 → Int32 → Int32 → Int32 → Int32 → mjH → mjU) (l0 : Nat) (l1 : Int32) (l2 : Int32) (l3 : Int32) (l4 : Int32) (l5 : Int32) (l6 : Int32) (hp : mjH) : mjU := (if l5 = 0 then b_94_105 R l5 hp else gR hp l0 5 2 (fun v1 => gR hp v1 7 1 (fun v2 => aI hp v2 l3 (fun v3 => (if v3 ≤ l6 then b_94_105 R l5 hp else rV hp l0 5 (bI (R 93 [.ref l0, .int l1, .int l4, .int l6] hp) (fun v4 hp5 => bI (R 106 [.int l2, .int l6] hp5) (fun v6 hp7 => rV hp7 l0 5 (bI (R 92 [.ref l0, .int v6] hp7) (fun v8 hp9 => (if v4 = v8 then b_94_97 R k51 l0 l1 l2 l3 l4 l6 (1 : Int32) hp9 else b_94_97 R k51 l0 l1 l2 l3 l4 l6 (0 : Int32) hp9)))))))))))
theorem t_94_51 {X : mjX} {d C S kc ks : Nat} {R : mjR} (hR : mjC R d) (h1 : kc ≤ C) (h2 : ks ≤ S) {k51 : Nat → Int32 → Int32 → Int32 → Int32 → Int32 → Int32 → mjH → mjU} (hk51 : P_94_51 X (d + 1) C S kc ks k51) : P_94_51 X (d + 1) C S kc ks (b_94_51 R k51) := by
  intro l0 l1 l2 l3 l4 l5 l6 hp q h
  unfold b_94_51 at h
  refine mjr_iload (x := l5) D_94_51 rfl ?_
  refine mjq_if_eq (tgt := 105) D_94_53 rfl h (fun h => ?_) (fun h => ?_)
  · exact mjG.fg (lo' := [none, none, none, none, none, some (.int l5), none]) (And.intro rfl True.intro) ((t_94_105 hR h1 h2) _ _ _ h)
  · refine mjr_iload (x := l6) D_94_56 rfl ?_
    refine mjr_aload_n (x := l0) D_94_58 rfl ?_
    refine mjq_gR D_94_59 fr_5_15 h (fun v1 h => ?_)
    refine mjq_gR D_94_62 fr_5_215 h (fun v2 h => ?_)
    refine mjr_iload_n (x := l3) D_94_65 rfl ?_
    refine mjq_aI D_94_66 h (fun v3 h => ?_)
    refine mjq_icmp_ge (tgt := 105) D_94_67 rfl h (fun h => ?_) (fun h => ?_)
    · exact mjG.fg (lo' := [none, none, none, none, none, some (.int l5), none]) (And.intro rfl True.intro) ((t_94_105 hR h1 h2) _ _ _ h)
    · refine mjr_aload_n (x := l0) D_94_70 rfl ?_
      refine mjr_iload_n (x := l1) D_94_71 rfl ?_
      refine mjr_iload (x := l4) D_94_72 rfl ?_
      refine mjr_iload (x := l6) D_94_74 rfl ?_
      refine mjq_vI (As := [.int l1, .int l4, .int l6]) (rest := []) D_94_76 mr_5_243 V_93 rfl rfl rfl hR (Nat.le_refl _) h1 h2 h (fun v4 hp5 h => ?_)
      refine mjr_aload_n (x := l0) D_94_79 rfl ?_
      refine mjr_iload_n (x := l2) D_94_80 rfl ?_
      refine mjr_iload (x := l6) D_94_81 rfl ?_
      refine mjq_scI (As := [.int l2, .int l6]) (rest := [.ref l0, .int v4]) D_94_83 mr_5_225 V_106 rfl rfl rfl hR (Nat.le_refl _) h1 h2 h (fun v6 hp7 h => ?_)
      refine mjq_vI (As := [.int v6]) (rest := [.int v4]) D_94_86 mr_5_228 V_92 rfl rfl rfl hR (Nat.le_refl _) h1 h2 h (fun v8 hp9 h => ?_)
      refine mjq_icmp_ne (tgt := 96) D_94_89 rfl h (fun h => ?_) (fun h => ?_)
      · refine mjq_ic (v := (0 : Int32)) D_94_96 rfl ?_
        exact mjG.fg (lo' := [some (.ref l0), some (.int l1), some (.int l2), some (.int l3), some (.int l4), none, some (.int l6)]) (And.intro rfl (And.intro rfl (And.intro rfl (And.intro rfl (And.intro rfl (And.intro rfl True.intro)))))) ((t_94_97 hR h1 h2 hk51) _ _ _ _ _ _ _ _ _ h)
      · refine mjq_ic (v := (1 : Int32)) D_94_92 rfl ?_
        refine mjr_goto (tgt := 97) D_94_93 rfl ?_
        exact mjG.fg (lo' := [some (.ref l0), some (.int l1), some (.int l2), some (.int l3), some (.int l4), none, some (.int l6)]) (And.intro rfl (And.intro rfl (And.intro rfl (And.intro rfl (And.intro rfl (And.intro rfl True.intro)))))) ((t_94_97 hR h1 h2 hk51) _ _ _ _ _ _ _ _ _ h)
noncomputable def L_94_51 (R : mjR) (n : Nat) : Nat → Int32 → Int32 → Int32 → Int32 → Int32 → Int32 → mjH → mjU := Nat.rec (motive := fun _ => Nat → Int32 → Int32 → Int32 → Int32 → Int32 → Int32 → mjH → mjU) (fun _ _ _ _ _ _ _ _ => none) (fun _ self => b_94_51 R self) n
theorem T_94_51 {X : mjX} {d C S kc ks : Nat} {R : mjR} (hR : mjC R d) (h1 : kc ≤ C) (h2 : ks ≤ S) (n : Nat) : P_94_51 X (d + 1) C S kc ks (L_94_51 R n) := by
  induction n with
  | zero => intro _ _ _ _ _ _ _ _ _ h; exact mj_no h
  | succ n ih => exact t_94_51 hR h1 h2 ih
noncomputable def b_94_46 (R : mjR) (l0 : Nat) (l1 : Int32) (l2 : Int32) (l3 : Int32) (l4 : Int32) (s0 : Int32) (hp : mjH) : mjU := L_94_51 R mjN l0 l1 l2 l3 l4 s0 (0 : Int32) hp
theorem t_94_46 {X : mjX} {d C S kc ks : Nat} {R : mjR} (hR : mjC R d) (h1 : kc ≤ C) (h2 : ks ≤ S) : P_94_46 X (d + 1) C S kc ks (b_94_46 R) := by
  intro l0 l1 l2 l3 l4 s0 hp q h
  unfold b_94_46 at h
  refine mjq_istore (lo' := [some (.ref l0), some (.int l1), some (.int l2), some (.int l3), some (.int l4), some (.int s0), none]) D_94_46 (Nat.le_of_ble_eq_true rfl) rfl ?_
  refine mjq_ic (v := (0 : Int32)) D_94_48 rfl ?_
  refine mjq_istore (lo' := [some (.ref l0), some (.int l1), some (.int l2), some (.int l3), some (.int l4), some (.int s0), some (.int (0 : Int32))]) D_94_49 (Nat.le_of_ble_eq_true rfl) rfl ?_
  exact (T_94_51 hR h1 h2 mjN) _ _ _ _ _ _ _ _ _ h
noncomputable def b_94_0 (R : mjR) (l0 : Nat) (l1 : Int32) (l2 : Int32) (hp : mjH) : mjU := gR hp l0 5 0 (fun v1 => rV hp v1 3 (bI (R 43 [.ref v1, .int l1] hp) (fun v2 hp3 => (if v2 = 0 then some (some (.int (1 : Int32)), hp3) else bI (R 105 [.int l2] hp3) (fun v4 hp5 => gR hp5 l0 5 2 (fun v6 => gR hp5 l0 5 0 (fun v7 => rV hp5 v7 3 (bI (R 46 [.ref v7, .int l1] hp5) (fun v8 hp9 => rV hp9 v6 7 (bI (R 114 [.ref v6, .int v8, .int v4] hp9) (fun v10 hp11 => (if v10 < 0 then b_94_46 R l0 l1 l2 v4 v10 (0 : Int32) hp11 else b_94_46 R l0 l1 l2 v4 v10 (1 : Int32) hp11))))))))))))
theorem t_94_0 {X : mjX} {d C S kc ks : Nat} {R : mjR} (hR : mjC R d) (h1 : kc ≤ C) (h2 : ks ≤ S) : P_94_0 X (d + 1) C S kc ks (b_94_0 R) := by
  intro l0 l1 l2 hp q h
  unfold b_94_0 at h
  refine mjr_aload_n (x := l0) D_94_0 rfl ?_
  refine mjq_gR D_94_1 fr_5_9 h (fun v1 h => ?_)
  refine mjr_iload_n (x := l1) D_94_4 rfl ?_
  refine mjq_vI (As := [.int l1]) (rest := []) D_94_5 mr_5_190 V_43 rfl rfl rfl hR (Nat.le_refl _) h1 h2 h (fun v2 hp3 h => ?_)
  refine mjq_if_ne (tgt := 13) D_94_8 rfl h (fun h => ?_) (fun h => ?_)
  · refine mjr_iload_n (x := l2) D_94_13 rfl ?_
    refine mjq_scI (As := [.int l2]) (rest := []) D_94_14 mr_5_214 V_105 rfl rfl rfl hR (Nat.le_refl _) h1 h2 h (fun v4 hp5 h => ?_)
    refine mjq_istore_n (lo' := [some (.ref l0), some (.int l1), some (.int l2), some (.int v4), none, none, none]) D_94_17 (Nat.le_of_ble_eq_true rfl) rfl ?_
    refine mjr_aload_n (x := l0) D_94_18 rfl ?_
    refine mjq_gR D_94_19 fr_5_15 h (fun v6 h => ?_)
    refine mjr_aload_n (x := l0) D_94_22 rfl ?_
    refine mjq_gR D_94_23 fr_5_9 h (fun v7 h => ?_)
    refine mjr_iload_n (x := l1) D_94_26 rfl ?_
    refine mjq_vI (As := [.int l1]) (rest := [.ref v6]) D_94_27 mr_5_203 V_46 rfl rfl rfl hR (Nat.le_refl _) h1 h2 h (fun v8 hp9 h => ?_)
    refine mjr_iload_n (x := v4) D_94_30 rfl ?_
    refine mjq_vI (As := [.int v8, .int v4]) (rest := []) D_94_31 mr_5_240 V_114 rfl rfl rfl hR (Nat.le_refl _) h1 h2 h (fun v10 hp11 h => ?_)
    refine mjq_istore (lo' := [some (.ref l0), some (.int l1), some (.int l2), some (.int v4), some (.int v10), none, none]) D_94_34 (Nat.le_of_ble_eq_true rfl) rfl ?_
    refine mjr_iload (x := v10) D_94_36 rfl ?_
    refine mjq_if_lt (tgt := 45) D_94_38 rfl h (fun h => ?_) (fun h => ?_)
    · refine mjq_ic (v := (0 : Int32)) D_94_45 rfl ?_
      exact (t_94_46 hR h1 h2) _ _ _ _ _ _ _ _ h
    · refine mjq_ic (v := (1 : Int32)) D_94_41 rfl ?_
      refine mjr_goto (tgt := 46) D_94_42 rfl ?_
      exact (t_94_46 hR h1 h2) _ _ _ _ _ _ _ _ h
  · refine mjq_ic (v := (1 : Int32)) D_94_11 rfl ?_
    exact mjr_ireturn D_94_12 rfl rfl h1 h2 (Option.some.inj h)
noncomputable def f_94 (R : mjR) (a0 : Nat) (a1 : Int32) (a2 : Int32) (hp : mjH) : mjU := b_94_0 R a0 a1 a2 hp
theorem c_94 {R : mjR} {d : Nat} (hR : mjC R d) {a0 : Nat} {a1 : Int32} {a2 : Int32} {hp : mjH} {q : Option Value × mjH} (h : f_94 R a0 a1 a2 hp = some q) : mjM (d + 1) 0 0 94 [.ref a0, .int a1, .int a2] hp (mjEq q) :=
  mjM_of Ja_94 (Nat.le_of_ble_eq_true rfl) (mjG.fg (lo' := [some (.ref a0), some (.int a1), some (.int a2), none, none, none, none]) (And.intro rfl (And.intro rfl (And.intro rfl True.intro))) ((t_94_0 hR (Nat.le_refl 0) (Nat.le_refl 0)) a0 a1 a2 hp q h))
def J_96 : mjI := (⟨"OwnerHeap$Members", "clear", "()V"⟩, 6, prog_8_method_2_code, 2, none, 0, false)
theorem Ja_96 : mjMt 96 = some J_96 := by rfl
theorem D_96_0 : decode J_96.2.2.1 0 = .ok (.aload_n 0, 1) := dzq_42 (by decide +kernel)
theorem D_96_1 : decode J_96.2.2.1 1 = .ok (.iconst 0, 1) := dzq_3 (by decide +kernel)
theorem D_96_2 : decode J_96.2.2.1 2 = .ok (.putfield 43, 3) := dzq_181 (by decide +kernel)
theorem D_96_5 : decode J_96.2.2.1 5 = .ok (.iconst 0, 1) := dzq_3 (by decide +kernel)
theorem D_96_6 : decode J_96.2.2.1 6 = .ok (.istore_n 1, 1) := dzq_60 (by decide +kernel)
theorem D_96_7 : decode J_96.2.2.1 7 = .ok (.iload_n 1, 1) := dzq_27 (by decide +kernel)
theorem D_96_8 : decode J_96.2.2.1 8 = .ok (.sipush 385, 3) := dzq_17 (by decide +kernel)
theorem D_96_11 : decode J_96.2.2.1 11 = .ok (.if_icmp .ge 34, 3) := dzq_162 (by decide +kernel)
theorem D_96_14 : decode J_96.2.2.1 14 = .ok (.aload_n 0, 1) := dzq_42 (by decide +kernel)
theorem D_96_15 : decode J_96.2.2.1 15 = .ok (.getfield 24, 3) := dzq_180 (by decide +kernel)
theorem D_96_18 : decode J_96.2.2.1 18 = .ok (.iload_n 1, 1) := dzq_27 (by decide +kernel)
theorem D_96_19 : decode J_96.2.2.1 19 = .ok (.iload_n 1, 1) := dzq_27 (by decide +kernel)
theorem D_96_20 : decode J_96.2.2.1 20 = .ok (.sipush 384, 3) := dzq_17 (by decide +kernel)
theorem D_96_23 : decode J_96.2.2.1 23 = .ok (.if_icmp .ne 7, 3) := dzq_160 (by decide +kernel)
theorem D_96_26 : decode J_96.2.2.1 26 = .ok (.iconst 1, 1) := dzq_4 (by decide +kernel)
theorem D_96_27 : decode J_96.2.2.1 27 = .ok (.goto 4, 3) := dzq_167 (by decide +kernel)
theorem D_96_30 : decode J_96.2.2.1 30 = .ok (.iconst 0, 1) := dzq_3 (by decide +kernel)
theorem D_96_31 : decode J_96.2.2.1 31 = .ok (.bastore, 1) := by decide +kernel
theorem D_96_32 : decode J_96.2.2.1 32 = .ok (.aload_n 0, 1) := dzq_42 (by decide +kernel)
theorem D_96_33 : decode J_96.2.2.1 33 = .ok (.getfield 31, 3) := dzq_180 (by decide +kernel)
theorem D_96_36 : decode J_96.2.2.1 36 = .ok (.iload_n 1, 1) := dzq_27 (by decide +kernel)
theorem D_96_37 : decode J_96.2.2.1 37 = .ok (.iconst 0, 1) := dzq_3 (by decide +kernel)
theorem D_96_38 : decode J_96.2.2.1 38 = .ok (.iastore, 1) := dzq_79 (by decide +kernel)
theorem D_96_39 : decode J_96.2.2.1 39 = .ok (.iinc 1 1, 3) := dzq_132 (by decide +kernel)
theorem D_96_42 : decode J_96.2.2.1 42 = .ok (.goto (-35), 3) := dzq_167 (by decide +kernel)
theorem D_96_45 : decode J_96.2.2.1 45 = .ok (.aload_n 0, 1) := dzq_42 (by decide +kernel)
theorem D_96_46 : decode J_96.2.2.1 46 = .ok (.getfield 17, 3) := dzq_180 (by decide +kernel)
theorem D_96_49 : decode J_96.2.2.1 49 = .ok (.sipush 384, 3) := dzq_17 (by decide +kernel)
theorem D_96_52 : decode J_96.2.2.1 52 = .ok (.iconst (-1), 1) := dzq_2 (by decide +kernel)
theorem D_96_53 : decode J_96.2.2.1 53 = .ok (.iastore, 1) := dzq_79 (by decide +kernel)
theorem D_96_54 : decode J_96.2.2.1 54 = .ok (.aload_n 0, 1) := dzq_42 (by decide +kernel)
theorem D_96_55 : decode J_96.2.2.1 55 = .ok (.getfield 21, 3) := dzq_180 (by decide +kernel)
theorem D_96_58 : decode J_96.2.2.1 58 = .ok (.sipush 384, 3) := dzq_17 (by decide +kernel)
theorem D_96_61 : decode J_96.2.2.1 61 = .ok (.iconst (-1), 1) := dzq_2 (by decide +kernel)
theorem D_96_62 : decode J_96.2.2.1 62 = .ok (.iastore, 1) := dzq_79 (by decide +kernel)
theorem D_96_63 : decode J_96.2.2.1 63 = .ok (.return_, 1) := dzq_177 (by decide +kernel)
def P_96_31 (X : mjX) (d C S kc ks : Nat) (k : Nat → Int32 → Nat → Int32 → Int32 → mjH → mjU) : Prop := ∀ (l0 : Nat) (l1 : Int32) (s0 : Nat) (s1 : Int32) (s2 : Int32) (hp : mjH) (q : Option Value × mjH), k l0 l1 s0 s1 s2 hp = some q → mjG X d C S J_96 (mjEq q) 31 [some (.ref l0), some (.int l1)] [.int s2, .int s1, .ref s0] hp kc ks
def P_96_7 (X : mjX) (d C S kc ks : Nat) (k : Nat → Int32 → mjH → mjU) : Prop := ∀ (l0 : Nat) (l1 : Int32) (hp : mjH) (q : Option Value × mjH), k l0 l1 hp = some q → mjG X d C S J_96 (mjEq q) 7 [some (.ref l0), some (.int l1)] [] hp kc ks
def P_96_0 (X : mjX) (d C S kc ks : Nat) (k : Nat → mjH → mjU) : Prop := ∀ (l0 : Nat) (hp : mjH) (q : Option Value × mjH), k l0 hp = some q → mjG X d C S J_96 (mjEq q) 0 [some (.ref l0), none] [] hp kc ks
noncomputable def b_96_31 (R : mjR) (k7 : Nat → Int32 → mjH → mjU) (l0 : Nat) (l1 : Int32) (s0 : Nat) (s1 : Int32) (s2 : Int32) (hp : mjH) : mjU := sB hp s0 s1 s2 (fun hp1 => gR hp1 l0 6 6 (fun v2 => sI hp1 v2 l1 (0 : Int32) (fun hp3 => k7 l0 (l1 + (1 : Int32)) hp3)))
theorem t_96_31 {X : mjX} {d C S kc ks : Nat} {R : mjR} (hR : mjC R d) (h1 : kc ≤ C) (h2 : ks ≤ S) {k7 : Nat → Int32 → mjH → mjU} (hk7 : P_96_7 X (d + 1) C S kc ks k7) : P_96_31 X (d + 1) C S kc ks (b_96_31 R k7) := by
  intro l0 l1 s0 s1 s2 hp q h
  unfold b_96_31 at h
  refine mjq_sB D_96_31 h (fun hp1 h => ?_)
  refine mjr_aload_n (x := l0) D_96_32 rfl ?_
  refine mjq_gR D_96_33 fr_6_31 h (fun v2 h => ?_)
  refine mjr_iload_n (x := l1) D_96_36 rfl ?_
  refine mjq_ic (v := (0 : Int32)) D_96_37 rfl ?_
  refine mjq_sI D_96_38 h (fun hp3 h => ?_)
  refine mjq_iinc (x := l1) (c := (1 : Int32)) (lo' := [some (.ref l0), some (.int (l1 + (1 : Int32)))]) D_96_39 rfl (Nat.le_of_ble_eq_true rfl) rfl rfl ?_
  refine mjr_goto (tgt := 7) D_96_42 rfl ?_
  exact hk7 _ _ _ _ h
noncomputable def b_96_7 (R : mjR) (k7 : Nat → Int32 → mjH → mjU) (l0 : Nat) (l1 : Int32) (hp : mjH) : mjU := (if (385 : Int32) ≤ l1 then gR hp l0 6 2 (fun v1 => sI hp v1 (384 : Int32) (-1 : Int32) (fun hp2 => gR hp2 l0 6 3 (fun v3 => sI hp2 v3 (384 : Int32) (-1 : Int32) (fun hp4 => some (none, hp4))))) else gR hp l0 6 4 (fun v5 => (if l1 = (384 : Int32) then b_96_31 R k7 l0 l1 v5 l1 (1 : Int32) hp else b_96_31 R k7 l0 l1 v5 l1 (0 : Int32) hp)))
theorem t_96_7 {X : mjX} {d C S kc ks : Nat} {R : mjR} (hR : mjC R d) (h1 : kc ≤ C) (h2 : ks ≤ S) {k7 : Nat → Int32 → mjH → mjU} (hk7 : P_96_7 X (d + 1) C S kc ks k7) : P_96_7 X (d + 1) C S kc ks (b_96_7 R k7) := by
  intro l0 l1 hp q h
  unfold b_96_7 at h
  refine mjr_iload_n (x := l1) D_96_7 rfl ?_
  refine mjq_si (v := (385 : Int32)) D_96_8 rfl ?_
  refine mjq_icmp_ge (tgt := 45) D_96_11 rfl h (fun h => ?_) (fun h => ?_)
  · refine mjr_aload_n (x := l0) D_96_45 rfl ?_
    refine mjq_gR D_96_46 fr_6_17 h (fun v1 h => ?_)
    refine mjq_si (v := (384 : Int32)) D_96_49 rfl ?_
    refine mjq_ic (v := (-1 : Int32)) D_96_52 rfl ?_
    refine mjq_sI D_96_53 h (fun hp2 h => ?_)
    refine mjr_aload_n (x := l0) D_96_54 rfl ?_
    refine mjq_gR D_96_55 fr_6_21 h (fun v3 h => ?_)
    refine mjq_si (v := (384 : Int32)) D_96_58 rfl ?_
    refine mjq_ic (v := (-1 : Int32)) D_96_61 rfl ?_
    refine mjq_sI D_96_62 h (fun hp4 h => ?_)
    exact mjq_nret D_96_63 rfl h1 h2 h
  · refine mjr_aload_n (x := l0) D_96_14 rfl ?_
    refine mjq_gR D_96_15 fr_6_24 h (fun v5 h => ?_)
    refine mjr_iload_n (x := l1) D_96_18 rfl ?_
    refine mjr_iload_n (x := l1) D_96_19 rfl ?_
    refine mjq_si (v := (384 : Int32)) D_96_20 rfl ?_
    refine mjq_icmp_ne (tgt := 30) D_96_23 rfl h (fun h => ?_) (fun h => ?_)
    · refine mjq_ic (v := (0 : Int32)) D_96_30 rfl ?_
      exact (t_96_31 hR h1 h2 hk7) _ _ _ _ _ _ _ h
    · refine mjq_ic (v := (1 : Int32)) D_96_26 rfl ?_
      refine mjr_goto (tgt := 31) D_96_27 rfl ?_
      exact (t_96_31 hR h1 h2 hk7) _ _ _ _ _ _ _ h
noncomputable def L_96_7 (R : mjR) (n : Nat) : Nat → Int32 → mjH → mjU := Nat.rec (motive := fun _ => Nat → Int32 → mjH → mjU) (fun _ _ _ => none) (fun _ self => b_96_7 R self) n
theorem T_96_7 {X : mjX} {d C S kc ks : Nat} {R : mjR} (hR : mjC R d) (h1 : kc ≤ C) (h2 : ks ≤ S) (n : Nat) : P_96_7 X (d + 1) C S kc ks (L_96_7 R n) := by
  induction n with
  | zero => intro _ _ _ _ h; exact mj_no h
  | succ n ih => exact t_96_7 hR h1 h2 ih
noncomputable def b_96_0 (R : mjR) (l0 : Nat) (hp : mjH) : mjU := pI hp l0 6 0 (0 : Int32) (fun hp1 => L_96_7 R mjN l0 (0 : Int32) hp1)
theorem t_96_0 {X : mjX} {d C S kc ks : Nat} {R : mjR} (hR : mjC R d) (h1 : kc ≤ C) (h2 : ks ≤ S) : P_96_0 X (d + 1) C S kc ks (b_96_0 R) := by
  intro l0 hp q h
  unfold b_96_0 at h
  refine mjr_aload_n (x := l0) D_96_0 rfl ?_
  refine mjq_ic (v := (0 : Int32)) D_96_1 rfl ?_
  refine mjq_pI D_96_2 fr_6_43 rfl rfl h (fun hp1 h => ?_)
  refine mjq_ic (v := (0 : Int32)) D_96_5 rfl ?_
  refine mjq_istore_n (lo' := [some (.ref l0), some (.int (0 : Int32))]) D_96_6 (Nat.le_of_ble_eq_true rfl) rfl ?_
  exact (T_96_7 hR h1 h2 mjN) _ _ _ _ h
noncomputable def f_96 (R : mjR) (a0 : Nat) (hp : mjH) : mjU := b_96_0 R a0 hp
theorem c_96 {R : mjR} {d : Nat} (hR : mjC R d) {a0 : Nat} {hp : mjH} {q : Option Value × mjH} (h : f_96 R a0 hp = some q) : mjM (d + 1) 0 0 96 [.ref a0] hp (mjEq q) :=
  mjM_of Ja_96 (Nat.le_of_ble_eq_true rfl) (mjG.fg (lo' := [some (.ref a0), none]) (And.intro rfl True.intro) ((t_96_0 hR (Nat.le_refl 0) (Nat.le_refl 0)) a0 hp q h))
def J_97 : mjI := (⟨"OwnerHeap$Members", "setParamType", "(III)V"⟩, 6, prog_8_method_4_code, 4, none, 3, false)
theorem Ja_97 : mjMt 97 = some J_97 := by rfl
theorem D_97_0 : decode J_97.2.2.1 0 = .ok (.aload_n 0, 1) := dzq_42 (by decide +kernel)
theorem D_97_1 : decode J_97.2.2.1 1 = .ok (.getfield 34, 3) := dzq_180 (by decide +kernel)
theorem D_97_4 : decode J_97.2.2.1 4 = .ok (.iload_n 1, 1) := dzq_27 (by decide +kernel)
theorem D_97_5 : decode J_97.2.2.1 5 = .ok (.bipush 6, 2) := dzq_16 (by decide +kernel)
theorem D_97_7 : decode J_97.2.2.1 7 = .ok (.imul, 1) := dzq_104 (by decide +kernel)
theorem D_97_8 : decode J_97.2.2.1 8 = .ok (.iload_n 2, 1) := dzq_28 (by decide +kernel)
theorem D_97_9 : decode J_97.2.2.1 9 = .ok (.iadd, 1) := dzq_96 (by decide +kernel)
theorem D_97_10 : decode J_97.2.2.1 10 = .ok (.iload_n 3, 1) := dzq_29 (by decide +kernel)
theorem D_97_11 : decode J_97.2.2.1 11 = .ok (.iastore, 1) := dzq_79 (by decide +kernel)
theorem D_97_12 : decode J_97.2.2.1 12 = .ok (.return_, 1) := dzq_177 (by decide +kernel)
def P_97_0 (X : mjX) (d C S kc ks : Nat) (k : Nat → Int32 → Int32 → Int32 → mjH → mjU) : Prop := ∀ (l0 : Nat) (l1 : Int32) (l2 : Int32) (l3 : Int32) (hp : mjH) (q : Option Value × mjH), k l0 l1 l2 l3 hp = some q → mjG X d C S J_97 (mjEq q) 0 [some (.ref l0), some (.int l1), some (.int l2), some (.int l3)] [] hp kc ks
noncomputable def b_97_0 (R : mjR) (l0 : Nat) (l1 : Int32) (l2 : Int32) (l3 : Int32) (hp : mjH) : mjU := gR hp l0 6 7 (fun v1 => sI hp v1 ((l1 * (6 : Int32)) + l2) l3 (fun hp2 => some (none, hp2)))
theorem t_97_0 {X : mjX} {d C S kc ks : Nat} {R : mjR} (hR : mjC R d) (h1 : kc ≤ C) (h2 : ks ≤ S) : P_97_0 X (d + 1) C S kc ks (b_97_0 R) := by
  intro l0 l1 l2 l3 hp q h
  unfold b_97_0 at h
  refine mjr_aload_n (x := l0) D_97_0 rfl ?_
  refine mjq_gR D_97_1 fr_6_34 h (fun v1 h => ?_)
  refine mjr_iload_n (x := l1) D_97_4 rfl ?_
  refine mjq_bi (v := (6 : Int32)) D_97_5 rfl ?_
  refine mjr_imul D_97_7 ?_
  refine mjr_iload_n (x := l2) D_97_8 rfl ?_
  refine mjr_iadd D_97_9 ?_
  refine mjr_iload_n (x := l3) D_97_10 rfl ?_
  refine mjq_sI D_97_11 h (fun hp2 h => ?_)
  exact mjq_nret D_97_12 rfl h1 h2 h
noncomputable def f_97 (R : mjR) (a0 : Nat) (a1 : Int32) (a2 : Int32) (a3 : Int32) (hp : mjH) : mjU := b_97_0 R a0 a1 a2 a3 hp
theorem c_97 {R : mjR} {d : Nat} (hR : mjC R d) {a0 : Nat} {a1 : Int32} {a2 : Int32} {a3 : Int32} {hp : mjH} {q : Option Value × mjH} (h : f_97 R a0 a1 a2 a3 hp = some q) : mjM (d + 1) 0 0 97 [.ref a0, .int a1, .int a2, .int a3] hp (mjEq q) :=
  mjM_of Ja_97 (Nat.le_of_ble_eq_true rfl) (mjG.fg (lo' := [some (.ref a0), some (.int a1), some (.int a2), some (.int a3)]) (And.intro rfl (And.intro rfl (And.intro rfl (And.intro rfl True.intro)))) ((t_97_0 hR (Nat.le_refl 0) (Nat.le_refl 0)) a0 a1 a2 a3 hp q h))
def J_98 : mjI := (⟨"OwnerHeap$Members", "paramType", "(II)I"⟩, 6, prog_8_method_3_code, 3, (some .int), 2, false)
theorem Ja_98 : mjMt 98 = some J_98 := by rfl
theorem D_98_0 : decode J_98.2.2.1 0 = .ok (.aload_n 0, 1) := dzq_42 (by decide +kernel)
theorem D_98_1 : decode J_98.2.2.1 1 = .ok (.getfield 34, 3) := dzq_180 (by decide +kernel)
theorem D_98_4 : decode J_98.2.2.1 4 = .ok (.iload_n 1, 1) := dzq_27 (by decide +kernel)
theorem D_98_5 : decode J_98.2.2.1 5 = .ok (.bipush 6, 2) := dzq_16 (by decide +kernel)
theorem D_98_7 : decode J_98.2.2.1 7 = .ok (.imul, 1) := dzq_104 (by decide +kernel)
theorem D_98_8 : decode J_98.2.2.1 8 = .ok (.iload_n 2, 1) := dzq_28 (by decide +kernel)
theorem D_98_9 : decode J_98.2.2.1 9 = .ok (.iadd, 1) := dzq_96 (by decide +kernel)
theorem D_98_10 : decode J_98.2.2.1 10 = .ok (.iaload, 1) := dzq_46 (by decide +kernel)
theorem D_98_11 : decode J_98.2.2.1 11 = .ok (.ireturn, 1) := dzq_172 (by decide +kernel)
def P_98_0 (X : mjX) (d C S kc ks : Nat) (k : Nat → Int32 → Int32 → mjH → mjU) : Prop := ∀ (l0 : Nat) (l1 : Int32) (l2 : Int32) (hp : mjH) (q : Option Value × mjH), k l0 l1 l2 hp = some q → mjG X d C S J_98 (mjEq q) 0 [some (.ref l0), some (.int l1), some (.int l2)] [] hp kc ks
noncomputable def b_98_0 (R : mjR) (l0 : Nat) (l1 : Int32) (l2 : Int32) (hp : mjH) : mjU := gR hp l0 6 7 (fun v1 => aI hp v1 ((l1 * (6 : Int32)) + l2) (fun v2 => some (some (.int v2), hp)))
theorem t_98_0 {X : mjX} {d C S kc ks : Nat} {R : mjR} (hR : mjC R d) (h1 : kc ≤ C) (h2 : ks ≤ S) : P_98_0 X (d + 1) C S kc ks (b_98_0 R) := by
  intro l0 l1 l2 hp q h
  unfold b_98_0 at h
  refine mjr_aload_n (x := l0) D_98_0 rfl ?_
  refine mjq_gR D_98_1 fr_6_34 h (fun v1 h => ?_)
  refine mjr_iload_n (x := l1) D_98_4 rfl ?_
  refine mjq_bi (v := (6 : Int32)) D_98_5 rfl ?_
  refine mjr_imul D_98_7 ?_
  refine mjr_iload_n (x := l2) D_98_8 rfl ?_
  refine mjr_iadd D_98_9 ?_
  refine mjq_aI D_98_10 h (fun v2 h => ?_)
  exact mjq_ret D_98_11 rfl h1 h2 h
noncomputable def f_98 (R : mjR) (a0 : Nat) (a1 : Int32) (a2 : Int32) (hp : mjH) : mjU := b_98_0 R a0 a1 a2 hp
theorem c_98 {R : mjR} {d : Nat} (hR : mjC R d) {a0 : Nat} {a1 : Int32} {a2 : Int32} {hp : mjH} {q : Option Value × mjH} (h : f_98 R a0 a1 a2 hp = some q) : mjM (d + 1) 0 0 98 [.ref a0, .int a1, .int a2] hp (mjEq q) :=
  mjM_of Ja_98 (Nat.le_of_ble_eq_true rfl) (mjG.fg (lo' := [some (.ref a0), some (.int a1), some (.int a2)]) (And.intro rfl (And.intro rfl (And.intro rfl True.intro))) ((t_98_0 hR (Nat.le_refl 0) (Nat.le_refl 0)) a0 a1 a2 hp q h))
def J_99 : mjI := (⟨"OwnerHeap$Members", "hasThis", "(I)Z"⟩, 6, prog_8_method_5_code, 4, (some .boolean), 1, false)
theorem Ja_99 : mjMt 99 = some J_99 := by rfl
theorem D_99_0 : decode J_99.2.2.1 0 = .ok (.aload_n 0, 1) := dzq_42 (by decide +kernel)
theorem D_99_1 : decode J_99.2.2.1 1 = .ok (.getfield 21, 3) := dzq_180 (by decide +kernel)
theorem D_99_4 : decode J_99.2.2.1 4 = .ok (.iload_n 1, 1) := dzq_27 (by decide +kernel)
theorem D_99_5 : decode J_99.2.2.1 5 = .ok (.iaload, 1) := dzq_46 (by decide +kernel)
theorem D_99_6 : decode J_99.2.2.1 6 = .ok (.invokestatic 47, 3) := dzq_184 (by decide +kernel)
theorem D_99_9 : decode J_99.2.2.1 9 = .ok (.istore_n 2, 1) := dzq_61 (by decide +kernel)
theorem D_99_10 : decode J_99.2.2.1 10 = .ok (.iconst 0, 1) := dzq_3 (by decide +kernel)
theorem D_99_11 : decode J_99.2.2.1 11 = .ok (.istore_n 3, 1) := dzq_62 (by decide +kernel)
theorem D_99_12 : decode J_99.2.2.1 12 = .ok (.iload_n 3, 1) := dzq_29 (by decide +kernel)
theorem D_99_13 : decode J_99.2.2.1 13 = .ok (.aload_n 0, 1) := dzq_42 (by decide +kernel)
theorem D_99_14 : decode J_99.2.2.1 14 = .ok (.getfield 31, 3) := dzq_180 (by decide +kernel)
theorem D_99_17 : decode J_99.2.2.1 17 = .ok (.iload_n 1, 1) := dzq_27 (by decide +kernel)
theorem D_99_18 : decode J_99.2.2.1 18 = .ok (.iaload, 1) := dzq_46 (by decide +kernel)
theorem D_99_19 : decode J_99.2.2.1 19 = .ok (.if_icmp .ge 31, 3) := dzq_162 (by decide +kernel)
theorem D_99_22 : decode J_99.2.2.1 22 = .ok (.iload_n 2, 1) := dzq_28 (by decide +kernel)
theorem D_99_23 : decode J_99.2.2.1 23 = .ok (.ifCond .ne 15, 3) := dzq_154 (by decide +kernel)
theorem D_99_26 : decode J_99.2.2.1 26 = .ok (.aload_n 0, 1) := dzq_42 (by decide +kernel)
theorem D_99_27 : decode J_99.2.2.1 27 = .ok (.iload_n 1, 1) := dzq_27 (by decide +kernel)
theorem D_99_28 : decode J_99.2.2.1 28 = .ok (.iload_n 3, 1) := dzq_29 (by decide +kernel)
theorem D_99_29 : decode J_99.2.2.1 29 = .ok (.invokevirtual 51, 3) := dzq_182 (by decide +kernel)
theorem D_99_32 : decode J_99.2.2.1 32 = .ok (.invokestatic 47, 3) := dzq_184 (by decide +kernel)
theorem D_99_35 : decode J_99.2.2.1 35 = .ok (.ifCond .eq 7, 3) := dzq_153 (by decide +kernel)
theorem D_99_38 : decode J_99.2.2.1 38 = .ok (.iconst 1, 1) := dzq_4 (by decide +kernel)
theorem D_99_39 : decode J_99.2.2.1 39 = .ok (.goto 4, 3) := dzq_167 (by decide +kernel)
theorem D_99_42 : decode J_99.2.2.1 42 = .ok (.iconst 0, 1) := dzq_3 (by decide +kernel)
theorem D_99_43 : decode J_99.2.2.1 43 = .ok (.istore_n 2, 1) := dzq_61 (by decide +kernel)
theorem D_99_44 : decode J_99.2.2.1 44 = .ok (.iinc 3 1, 3) := dzq_132 (by decide +kernel)
theorem D_99_47 : decode J_99.2.2.1 47 = .ok (.goto (-35), 3) := dzq_167 (by decide +kernel)
theorem D_99_50 : decode J_99.2.2.1 50 = .ok (.iload_n 2, 1) := dzq_28 (by decide +kernel)
theorem D_99_51 : decode J_99.2.2.1 51 = .ok (.ireturn, 1) := dzq_172 (by decide +kernel)
def P_99_43 (X : mjX) (d C S kc ks : Nat) (k : Nat → Int32 → Int32 → Int32 → mjH → mjU) : Prop := ∀ (l0 : Nat) (l1 : Int32) (l3 : Int32) (s0 : Int32) (hp : mjH) (q : Option Value × mjH), k l0 l1 l3 s0 hp = some q → mjG X d C S J_99 (mjEq q) 43 [some (.ref l0), some (.int l1), none, some (.int l3)] [.int s0] hp kc ks
def P_99_38 (X : mjX) (d C S kc ks : Nat) (k : Nat → Int32 → Int32 → mjH → mjU) : Prop := ∀ (l0 : Nat) (l1 : Int32) (l3 : Int32) (hp : mjH) (q : Option Value × mjH), k l0 l1 l3 hp = some q → mjG X d C S J_99 (mjEq q) 38 [some (.ref l0), some (.int l1), none, some (.int l3)] [] hp kc ks
def P_99_12 (X : mjX) (d C S kc ks : Nat) (k : Nat → Int32 → Int32 → Int32 → mjH → mjU) : Prop := ∀ (l0 : Nat) (l1 : Int32) (l2 : Int32) (l3 : Int32) (hp : mjH) (q : Option Value × mjH), k l0 l1 l2 l3 hp = some q → mjG X d C S J_99 (mjEq q) 12 [some (.ref l0), some (.int l1), some (.int l2), some (.int l3)] [] hp kc ks
def P_99_0 (X : mjX) (d C S kc ks : Nat) (k : Nat → Int32 → mjH → mjU) : Prop := ∀ (l0 : Nat) (l1 : Int32) (hp : mjH) (q : Option Value × mjH), k l0 l1 hp = some q → mjG X d C S J_99 (mjEq q) 0 [some (.ref l0), some (.int l1), none, none] [] hp kc ks
noncomputable def b_99_43 (R : mjR) (k12 : Nat → Int32 → Int32 → Int32 → mjH → mjU) (l0 : Nat) (l1 : Int32) (l3 : Int32) (s0 : Int32) (hp : mjH) : mjU := k12 l0 l1 s0 (l3 + (1 : Int32)) hp
theorem t_99_43 {X : mjX} {d C S kc ks : Nat} {R : mjR} (hR : mjC R d) (h1 : kc ≤ C) (h2 : ks ≤ S) {k12 : Nat → Int32 → Int32 → Int32 → mjH → mjU} (hk12 : P_99_12 X (d + 1) C S kc ks k12) : P_99_43 X (d + 1) C S kc ks (b_99_43 R k12) := by
  intro l0 l1 l3 s0 hp q h
  unfold b_99_43 at h
  refine mjq_istore_n (lo' := [some (.ref l0), some (.int l1), some (.int s0), some (.int l3)]) D_99_43 (Nat.le_of_ble_eq_true rfl) rfl ?_
  refine mjq_iinc (x := l3) (c := (1 : Int32)) (lo' := [some (.ref l0), some (.int l1), some (.int s0), some (.int (l3 + (1 : Int32)))]) D_99_44 rfl (Nat.le_of_ble_eq_true rfl) rfl rfl ?_
  refine mjr_goto (tgt := 12) D_99_47 rfl ?_
  exact hk12 _ _ _ _ _ _ h
noncomputable def b_99_38 (R : mjR) (k12 : Nat → Int32 → Int32 → Int32 → mjH → mjU) (l0 : Nat) (l1 : Int32) (l3 : Int32) (hp : mjH) : mjU := b_99_43 R k12 l0 l1 l3 (1 : Int32) hp
theorem t_99_38 {X : mjX} {d C S kc ks : Nat} {R : mjR} (hR : mjC R d) (h1 : kc ≤ C) (h2 : ks ≤ S) {k12 : Nat → Int32 → Int32 → Int32 → mjH → mjU} (hk12 : P_99_12 X (d + 1) C S kc ks k12) : P_99_38 X (d + 1) C S kc ks (b_99_38 R k12) := by
  intro l0 l1 l3 hp q h
  unfold b_99_38 at h
  refine mjq_ic (v := (1 : Int32)) D_99_38 rfl ?_
  refine mjr_goto (tgt := 43) D_99_39 rfl ?_
  exact (t_99_43 hR h1 h2 hk12) _ _ _ _ _ _ h
noncomputable def b_99_12 (R : mjR) (k12 : Nat → Int32 → Int32 → Int32 → mjH → mjU) (l0 : Nat) (l1 : Int32) (l2 : Int32) (l3 : Int32) (hp : mjH) : mjU := gR hp l0 6 6 (fun v1 => aI hp v1 l1 (fun v2 => (if v2 ≤ l3 then (if narrow .boolean (.int l2) = .int l2 then some (some (.int l2), hp) else none) else (if l2 = 0 then rV hp l0 6 (bI (R 98 [.ref l0, .int l1, .int l3] hp) (fun v3 hp4 => bI (R 122 [.int v3] hp4) (fun v5 hp6 => (if v5 = 0 then b_99_43 R k12 l0 l1 l3 (0 : Int32) hp6 else b_99_38 R k12 l0 l1 l3 hp6)))) else b_99_38 R k12 l0 l1 l3 hp))))
theorem t_99_12 {X : mjX} {d C S kc ks : Nat} {R : mjR} (hR : mjC R d) (h1 : kc ≤ C) (h2 : ks ≤ S) {k12 : Nat → Int32 → Int32 → Int32 → mjH → mjU} (hk12 : P_99_12 X (d + 1) C S kc ks k12) : P_99_12 X (d + 1) C S kc ks (b_99_12 R k12) := by
  intro l0 l1 l2 l3 hp q h
  unfold b_99_12 at h
  refine mjr_iload_n (x := l3) D_99_12 rfl ?_
  refine mjr_aload_n (x := l0) D_99_13 rfl ?_
  refine mjq_gR D_99_14 fr_6_31 h (fun v1 h => ?_)
  refine mjr_iload_n (x := l1) D_99_17 rfl ?_
  refine mjq_aI D_99_18 h (fun v2 h => ?_)
  refine mjq_icmp_ge (tgt := 50) D_99_19 rfl h (fun h => ?_) (fun h => ?_)
  · refine mjr_iload_n (x := l2) D_99_50 rfl ?_
    exact mjq_retZ (ty := .boolean) D_99_51 rfl h1 h2 h
  · refine mjr_iload_n (x := l2) D_99_22 rfl ?_
    refine mjq_if_ne (tgt := 38) D_99_23 rfl h (fun h => ?_) (fun h => ?_)
    · exact mjG.fg (lo' := [some (.ref l0), some (.int l1), none, some (.int l3)]) (And.intro rfl (And.intro rfl (And.intro rfl True.intro))) ((t_99_38 hR h1 h2 hk12) _ _ _ _ _ h)
    · refine mjr_aload_n (x := l0) D_99_26 rfl ?_
      refine mjr_iload_n (x := l1) D_99_27 rfl ?_
      refine mjr_iload_n (x := l3) D_99_28 rfl ?_
      refine mjq_vI (As := [.int l1, .int l3]) (rest := []) D_99_29 mr_6_51 V_98 rfl rfl rfl hR (Nat.le_refl _) h1 h2 h (fun v3 hp4 h => ?_)
      refine mjq_scI (As := [.int v3]) (rest := []) D_99_32 mr_6_47 V_122 rfl rfl rfl hR (Nat.le_refl _) h1 h2 h (fun v5 hp6 h => ?_)
      refine mjq_if_eq (tgt := 42) D_99_35 rfl h (fun h => ?_) (fun h => ?_)
      · refine mjq_ic (v := (0 : Int32)) D_99_42 rfl ?_
        exact mjG.fg (lo' := [some (.ref l0), some (.int l1), none, some (.int l3)]) (And.intro rfl (And.intro rfl (And.intro rfl True.intro))) ((t_99_43 hR h1 h2 hk12) _ _ _ _ _ _ h)
      · exact mjG.fg (lo' := [some (.ref l0), some (.int l1), none, some (.int l3)]) (And.intro rfl (And.intro rfl (And.intro rfl True.intro))) ((t_99_38 hR h1 h2 hk12) _ _ _ _ _ h)
noncomputable def L_99_12 (R : mjR) (n : Nat) : Nat → Int32 → Int32 → Int32 → mjH → mjU := Nat.rec (motive := fun _ => Nat → Int32 → Int32 → Int32 → mjH → mjU) (fun _ _ _ _ _ => none) (fun _ self => b_99_12 R self) n
theorem T_99_12 {X : mjX} {d C S kc ks : Nat} {R : mjR} (hR : mjC R d) (h1 : kc ≤ C) (h2 : ks ≤ S) (n : Nat) : P_99_12 X (d + 1) C S kc ks (L_99_12 R n) := by
  induction n with
  | zero => intro _ _ _ _ _ _ h; exact mj_no h
  | succ n ih => exact t_99_12 hR h1 h2 ih
noncomputable def b_99_0 (R : mjR) (l0 : Nat) (l1 : Int32) (hp : mjH) : mjU := gR hp l0 6 3 (fun v1 => aI hp v1 l1 (fun v2 => bI (R 122 [.int v2] hp) (fun v3 hp4 => L_99_12 R mjN l0 l1 v3 (0 : Int32) hp4)))
theorem t_99_0 {X : mjX} {d C S kc ks : Nat} {R : mjR} (hR : mjC R d) (h1 : kc ≤ C) (h2 : ks ≤ S) : P_99_0 X (d + 1) C S kc ks (b_99_0 R) := by
  intro l0 l1 hp q h
  unfold b_99_0 at h
  refine mjr_aload_n (x := l0) D_99_0 rfl ?_
  refine mjq_gR D_99_1 fr_6_21 h (fun v1 h => ?_)
  refine mjr_iload_n (x := l1) D_99_4 rfl ?_
  refine mjq_aI D_99_5 h (fun v2 h => ?_)
  refine mjq_scI (As := [.int v2]) (rest := []) D_99_6 mr_6_47 V_122 rfl rfl rfl hR (Nat.le_refl _) h1 h2 h (fun v3 hp4 h => ?_)
  refine mjq_istore_n (lo' := [some (.ref l0), some (.int l1), some (.int v3), none]) D_99_9 (Nat.le_of_ble_eq_true rfl) rfl ?_
  refine mjq_ic (v := (0 : Int32)) D_99_10 rfl ?_
  refine mjq_istore_n (lo' := [some (.ref l0), some (.int l1), some (.int v3), some (.int (0 : Int32))]) D_99_11 (Nat.le_of_ble_eq_true rfl) rfl ?_
  exact (T_99_12 hR h1 h2 mjN) _ _ _ _ _ _ h
noncomputable def f_99 (R : mjR) (a0 : Nat) (a1 : Int32) (hp : mjH) : mjU := b_99_0 R a0 a1 hp
theorem c_99 {R : mjR} {d : Nat} (hR : mjC R d) {a0 : Nat} {a1 : Int32} {hp : mjH} {q : Option Value × mjH} (h : f_99 R a0 a1 hp = some q) : mjM (d + 1) 0 0 99 [.ref a0, .int a1] hp (mjEq q) :=
  mjM_of Ja_99 (Nat.le_of_ble_eq_true rfl) (mjG.fg (lo' := [some (.ref a0), some (.int a1), none, none]) (And.intro rfl (And.intro rfl True.intro)) ((t_99_0 hR (Nat.le_refl 0) (Nat.le_refl 0)) a0 a1 hp q h))
def J_101 : mjI := (⟨"OwnerHeap$Program", "clear", "()V"⟩, 7, prog_9_method_2_code, 1, none, 0, false)
theorem Ja_101 : mjMt 101 = some J_101 := by rfl
theorem D_101_0 : decode J_101.2.2.1 0 = .ok (.aload_n 0, 1) := dzq_42 (by decide +kernel)
theorem D_101_1 : decode J_101.2.2.1 1 = .ok (.iconst 0, 1) := dzq_3 (by decide +kernel)
theorem D_101_2 : decode J_101.2.2.1 2 = .ok (.putfield 66, 3) := dzq_181 (by decide +kernel)
theorem D_101_5 : decode J_101.2.2.1 5 = .ok (.aload_n 0, 1) := dzq_42 (by decide +kernel)
theorem D_101_6 : decode J_101.2.2.1 6 = .ok (.getfield 11, 3) := dzq_180 (by decide +kernel)
theorem D_101_9 : decode J_101.2.2.1 9 = .ok (.iconst 0, 1) := dzq_3 (by decide +kernel)
theorem D_101_10 : decode J_101.2.2.1 10 = .ok (.invokestatic 70, 3) := dzq_184 (by decide +kernel)
theorem D_101_13 : decode J_101.2.2.1 13 = .ok (.aload_n 0, 1) := dzq_42 (by decide +kernel)
theorem D_101_14 : decode J_101.2.2.1 14 = .ok (.getfield 18, 3) := dzq_180 (by decide +kernel)
theorem D_101_17 : decode J_101.2.2.1 17 = .ok (.iconst 0, 1) := dzq_3 (by decide +kernel)
theorem D_101_18 : decode J_101.2.2.1 18 = .ok (.invokestatic 70, 3) := dzq_184 (by decide +kernel)
theorem D_101_21 : decode J_101.2.2.1 21 = .ok (.aload_n 0, 1) := dzq_42 (by decide +kernel)
theorem D_101_22 : decode J_101.2.2.1 22 = .ok (.getfield 24, 3) := dzq_180 (by decide +kernel)
theorem D_101_25 : decode J_101.2.2.1 25 = .ok (.iconst (-1), 1) := dzq_2 (by decide +kernel)
theorem D_101_26 : decode J_101.2.2.1 26 = .ok (.invokestatic 70, 3) := dzq_184 (by decide +kernel)
theorem D_101_29 : decode J_101.2.2.1 29 = .ok (.aload_n 0, 1) := dzq_42 (by decide +kernel)
theorem D_101_30 : decode J_101.2.2.1 30 = .ok (.getfield 27, 3) := dzq_180 (by decide +kernel)
theorem D_101_33 : decode J_101.2.2.1 33 = .ok (.iconst 0, 1) := dzq_3 (by decide +kernel)
theorem D_101_34 : decode J_101.2.2.1 34 = .ok (.invokestatic 70, 3) := dzq_184 (by decide +kernel)
theorem D_101_37 : decode J_101.2.2.1 37 = .ok (.aload_n 0, 1) := dzq_42 (by decide +kernel)
theorem D_101_38 : decode J_101.2.2.1 38 = .ok (.getfield 30, 3) := dzq_180 (by decide +kernel)
theorem D_101_41 : decode J_101.2.2.1 41 = .ok (.iconst 0, 1) := dzq_3 (by decide +kernel)
theorem D_101_42 : decode J_101.2.2.1 42 = .ok (.invokestatic 70, 3) := dzq_184 (by decide +kernel)
theorem D_101_45 : decode J_101.2.2.1 45 = .ok (.aload_n 0, 1) := dzq_42 (by decide +kernel)
theorem D_101_46 : decode J_101.2.2.1 46 = .ok (.getfield 33, 3) := dzq_180 (by decide +kernel)
theorem D_101_49 : decode J_101.2.2.1 49 = .ok (.iconst 0, 1) := dzq_3 (by decide +kernel)
theorem D_101_50 : decode J_101.2.2.1 50 = .ok (.invokestatic 70, 3) := dzq_184 (by decide +kernel)
theorem D_101_53 : decode J_101.2.2.1 53 = .ok (.aload_n 0, 1) := dzq_42 (by decide +kernel)
theorem D_101_54 : decode J_101.2.2.1 54 = .ok (.getfield 39, 3) := dzq_180 (by decide +kernel)
theorem D_101_57 : decode J_101.2.2.1 57 = .ok (.iconst 0, 1) := dzq_3 (by decide +kernel)
theorem D_101_58 : decode J_101.2.2.1 58 = .ok (.invokestatic 70, 3) := dzq_184 (by decide +kernel)
theorem D_101_61 : decode J_101.2.2.1 61 = .ok (.aload_n 0, 1) := dzq_42 (by decide +kernel)
theorem D_101_62 : decode J_101.2.2.1 62 = .ok (.getfield 42, 3) := dzq_180 (by decide +kernel)
theorem D_101_65 : decode J_101.2.2.1 65 = .ok (.iconst 0, 1) := dzq_3 (by decide +kernel)
theorem D_101_66 : decode J_101.2.2.1 66 = .ok (.invokestatic 70, 3) := dzq_184 (by decide +kernel)
theorem D_101_69 : decode J_101.2.2.1 69 = .ok (.aload_n 0, 1) := dzq_42 (by decide +kernel)
theorem D_101_70 : decode J_101.2.2.1 70 = .ok (.getfield 45, 3) := dzq_180 (by decide +kernel)
theorem D_101_73 : decode J_101.2.2.1 73 = .ok (.iconst (-1), 1) := dzq_2 (by decide +kernel)
theorem D_101_74 : decode J_101.2.2.1 74 = .ok (.invokestatic 70, 3) := dzq_184 (by decide +kernel)
theorem D_101_77 : decode J_101.2.2.1 77 = .ok (.aload_n 0, 1) := dzq_42 (by decide +kernel)
theorem D_101_78 : decode J_101.2.2.1 78 = .ok (.getfield 48, 3) := dzq_180 (by decide +kernel)
theorem D_101_81 : decode J_101.2.2.1 81 = .ok (.lconst 0, 1) := by decide +kernel
theorem D_101_82 : decode J_101.2.2.1 82 = .ok (.invokestatic 76, 3) := dzq_184 (by decide +kernel)
theorem D_101_85 : decode J_101.2.2.1 85 = .ok (.aload_n 0, 1) := dzq_42 (by decide +kernel)
theorem D_101_86 : decode J_101.2.2.1 86 = .ok (.getfield 55, 3) := dzq_180 (by decide +kernel)
theorem D_101_89 : decode J_101.2.2.1 89 = .ok (.invokevirtual 79, 3) := dzq_182 (by decide +kernel)
theorem D_101_92 : decode J_101.2.2.1 92 = .ok (.aload_n 0, 1) := dzq_42 (by decide +kernel)
theorem D_101_93 : decode J_101.2.2.1 93 = .ok (.getfield 62, 3) := dzq_180 (by decide +kernel)
theorem D_101_96 : decode J_101.2.2.1 96 = .ok (.iconst 0, 1) := dzq_3 (by decide +kernel)
theorem D_101_97 : decode J_101.2.2.1 97 = .ok (.putfield 82, 3) := dzq_181 (by decide +kernel)
theorem D_101_100 : decode J_101.2.2.1 100 = .ok (.return_, 1) := dzq_177 (by decide +kernel)
def P_101_0 (X : mjX) (d C S kc ks : Nat) (k : Nat → mjH → mjU) : Prop := ∀ (l0 : Nat) (hp : mjH) (q : Option Value × mjH), k l0 hp = some q → mjG X d C S J_101 (mjEq q) 0 [some (.ref l0)] [] hp kc ks
noncomputable def b_101_0 (R : mjR) (l0 : Nat) (hp : mjH) : mjU := pI hp l0 7 0 (0 : Int32) (fun hp1 => gR hp1 l0 7 1 (fun v2 => bN (R 377 [.ref v2, .int (0 : Int32)] hp1) (fun  hp3 => gR hp3 l0 7 3 (fun v4 => bN (R 377 [.ref v4, .int (0 : Int32)] hp3) (fun  hp5 => gR hp5 l0 7 5 (fun v6 => bN (R 377 [.ref v6, .int (-1 : Int32)] hp5) (fun  hp7 => gR hp7 l0 7 6 (fun v8 => bN (R 377 [.ref v8, .int (0 : Int32)] hp7) (fun  hp9 => gR hp9 l0 7 7 (fun v10 => bN (R 377 [.ref v10, .int (0 : Int32)] hp9) (fun  hp11 => gR hp11 l0 7 8 (fun v12 => bN (R 377 [.ref v12, .int (0 : Int32)] hp11) (fun  hp13 => gR hp13 l0 7 10 (fun v14 => bN (R 377 [.ref v14, .int (0 : Int32)] hp13) (fun  hp15 => gR hp15 l0 7 11 (fun v16 => bN (R 377 [.ref v16, .int (0 : Int32)] hp15) (fun  hp17 => gR hp17 l0 7 12 (fun v18 => bN (R 377 [.ref v18, .int (-1 : Int32)] hp17) (fun  hp19 => gR hp19 l0 7 13 (fun v20 => bN (R 378 [.ref v20, .long (0 : Int64)] hp19) (fun  hp21 => gR hp21 l0 7 14 (fun v22 => rV hp21 v22 6 (bN (R 96 [.ref v22] hp21) (fun  hp23 => gR hp23 l0 7 15 (fun v24 => pI hp23 v24 0 3 (0 : Int32) (fun hp25 => some (none, hp25)))))))))))))))))))))))))))
theorem t_101_0 {X : mjX} {d C S kc ks : Nat} {R : mjR} (hR : mjC R d) (h1 : kc ≤ C) (h2 : ks ≤ S) : P_101_0 X (d + 1) C S kc ks (b_101_0 R) := by
  intro l0 hp q h
  unfold b_101_0 at h
  refine mjr_aload_n (x := l0) D_101_0 rfl ?_
  refine mjq_ic (v := (0 : Int32)) D_101_1 rfl ?_
  refine mjq_pI D_101_2 fr_7_66 rfl rfl h (fun hp1 h => ?_)
  refine mjr_aload_n (x := l0) D_101_5 rfl ?_
  refine mjq_gR D_101_6 fr_7_11 h (fun v2 h => ?_)
  refine mjq_ic (v := (0 : Int32)) D_101_9 rfl ?_
  refine mjq_scN (As := [.ref v2, .int (0 : Int32)]) (rest := []) D_101_10 mr_7_70 V_377 rfl rfl rfl hR (Nat.le_refl _) h1 h2 h (fun  hp3 h => ?_)
  refine mjr_aload_n (x := l0) D_101_13 rfl ?_
  refine mjq_gR D_101_14 fr_7_18 h (fun v4 h => ?_)
  refine mjq_ic (v := (0 : Int32)) D_101_17 rfl ?_
  refine mjq_scN (As := [.ref v4, .int (0 : Int32)]) (rest := []) D_101_18 mr_7_70 V_377 rfl rfl rfl hR (Nat.le_refl _) h1 h2 h (fun  hp5 h => ?_)
  refine mjr_aload_n (x := l0) D_101_21 rfl ?_
  refine mjq_gR D_101_22 fr_7_24 h (fun v6 h => ?_)
  refine mjq_ic (v := (-1 : Int32)) D_101_25 rfl ?_
  refine mjq_scN (As := [.ref v6, .int (-1 : Int32)]) (rest := []) D_101_26 mr_7_70 V_377 rfl rfl rfl hR (Nat.le_refl _) h1 h2 h (fun  hp7 h => ?_)
  refine mjr_aload_n (x := l0) D_101_29 rfl ?_
  refine mjq_gR D_101_30 fr_7_27 h (fun v8 h => ?_)
  refine mjq_ic (v := (0 : Int32)) D_101_33 rfl ?_
  refine mjq_scN (As := [.ref v8, .int (0 : Int32)]) (rest := []) D_101_34 mr_7_70 V_377 rfl rfl rfl hR (Nat.le_refl _) h1 h2 h (fun  hp9 h => ?_)
  refine mjr_aload_n (x := l0) D_101_37 rfl ?_
  refine mjq_gR D_101_38 fr_7_30 h (fun v10 h => ?_)
  refine mjq_ic (v := (0 : Int32)) D_101_41 rfl ?_
  refine mjq_scN (As := [.ref v10, .int (0 : Int32)]) (rest := []) D_101_42 mr_7_70 V_377 rfl rfl rfl hR (Nat.le_refl _) h1 h2 h (fun  hp11 h => ?_)
  refine mjr_aload_n (x := l0) D_101_45 rfl ?_
  refine mjq_gR D_101_46 fr_7_33 h (fun v12 h => ?_)
  refine mjq_ic (v := (0 : Int32)) D_101_49 rfl ?_
  refine mjq_scN (As := [.ref v12, .int (0 : Int32)]) (rest := []) D_101_50 mr_7_70 V_377 rfl rfl rfl hR (Nat.le_refl _) h1 h2 h (fun  hp13 h => ?_)
  refine mjr_aload_n (x := l0) D_101_53 rfl ?_
  refine mjq_gR D_101_54 fr_7_39 h (fun v14 h => ?_)
  refine mjq_ic (v := (0 : Int32)) D_101_57 rfl ?_
  refine mjq_scN (As := [.ref v14, .int (0 : Int32)]) (rest := []) D_101_58 mr_7_70 V_377 rfl rfl rfl hR (Nat.le_refl _) h1 h2 h (fun  hp15 h => ?_)
  refine mjr_aload_n (x := l0) D_101_61 rfl ?_
  refine mjq_gR D_101_62 fr_7_42 h (fun v16 h => ?_)
  refine mjq_ic (v := (0 : Int32)) D_101_65 rfl ?_
  refine mjq_scN (As := [.ref v16, .int (0 : Int32)]) (rest := []) D_101_66 mr_7_70 V_377 rfl rfl rfl hR (Nat.le_refl _) h1 h2 h (fun  hp17 h => ?_)
  refine mjr_aload_n (x := l0) D_101_69 rfl ?_
  refine mjq_gR D_101_70 fr_7_45 h (fun v18 h => ?_)
  refine mjq_ic (v := (-1 : Int32)) D_101_73 rfl ?_
  refine mjq_scN (As := [.ref v18, .int (-1 : Int32)]) (rest := []) D_101_74 mr_7_70 V_377 rfl rfl rfl hR (Nat.le_refl _) h1 h2 h (fun  hp19 h => ?_)
  refine mjr_aload_n (x := l0) D_101_77 rfl ?_
  refine mjq_gR D_101_78 fr_7_48 h (fun v20 h => ?_)
  refine mjq_lc (v := (0 : Int64)) D_101_81 rfl ?_
  refine mjq_scN (As := [.ref v20, .long (0 : Int64)]) (rest := []) D_101_82 mr_7_76 V_378 rfl rfl rfl hR (Nat.le_refl _) h1 h2 h (fun  hp21 h => ?_)
  refine mjr_aload_n (x := l0) D_101_85 rfl ?_
  refine mjq_gR D_101_86 fr_7_55 h (fun v22 h => ?_)
  refine mjq_vN (As := []) (rest := []) D_101_89 mr_7_79 V_96 rfl rfl rfl hR (Nat.le_refl _) h1 h2 h (fun  hp23 h => ?_)
  refine mjr_aload_n (x := l0) D_101_92 rfl ?_
  refine mjq_gR D_101_93 fr_7_62 h (fun v24 h => ?_)
  refine mjq_ic (v := (0 : Int32)) D_101_96 rfl ?_
  refine mjq_pI D_101_97 fr_7_82 rfl rfl h (fun hp25 h => ?_)
  exact mjq_nret D_101_100 rfl h1 h2 h
noncomputable def f_101 (R : mjR) (a0 : Nat) (hp : mjH) : mjU := b_101_0 R a0 hp
theorem c_101 {R : mjR} {d : Nat} (hR : mjC R d) {a0 : Nat} {hp : mjH} {q : Option Value × mjH} (h : f_101 R a0 hp = some q) : mjM (d + 1) 0 0 101 [.ref a0] hp (mjEq q) :=
  mjM_of Ja_101 (Nat.le_of_ble_eq_true rfl) (mjG.fg (lo' := [some (.ref a0)]) (And.intro rfl True.intro) ((t_101_0 hR (Nat.le_refl 0) (Nat.le_refl 0)) a0 hp q h))
def J_102 : mjI := (⟨"OwnerHeap$Program", "bareKind", "(I)I"⟩, 7, prog_9_method_5_code, 1, (some .int), 1, true)
theorem Ja_102 : mjMt 102 = some J_102 := by rfl
theorem D_102_0 : decode J_102.2.2.1 0 = .ok (.iload_n 0, 1) := dzq_26 (by decide +kernel)
theorem D_102_1 : decode J_102.2.2.1 1 = .ok (.bipush 15, 2) := dzq_16 (by decide +kernel)
theorem D_102_3 : decode J_102.2.2.1 3 = .ok (.ishl, 1) := by decide +kernel
theorem D_102_4 : decode J_102.2.2.1 4 = .ok (.ireturn, 1) := dzq_172 (by decide +kernel)
def P_102_0 (X : mjX) (d C S kc ks : Nat) (k : Int32 → mjH → mjU) : Prop := ∀ (l0 : Int32) (hp : mjH) (q : Option Value × mjH), k l0 hp = some q → mjG X d C S J_102 (mjEq q) 0 [some (.int l0)] [] hp kc ks
noncomputable def b_102_0 (R : mjR) (l0 : Int32) (hp : mjH) : mjU := some (some (.int (l0 <<< ((15 : Int32) &&& 31))), hp)
theorem t_102_0 {X : mjX} {d C S kc ks : Nat} {R : mjR} (hR : mjC R d) (h1 : kc ≤ C) (h2 : ks ≤ S) : P_102_0 X (d + 1) C S kc ks (b_102_0 R) := by
  intro l0 hp q h
  unfold b_102_0 at h
  refine mjr_iload_n (x := l0) D_102_0 rfl ?_
  refine mjq_bi (v := (15 : Int32)) D_102_1 rfl ?_
  refine mjr_ishl D_102_3 ?_
  exact mjq_ret D_102_4 rfl h1 h2 h
noncomputable def f_102 (R : mjR) (a0 : Int32) (hp : mjH) : mjU := b_102_0 R a0 hp
theorem c_102 {R : mjR} {d : Nat} (hR : mjC R d) {a0 : Int32} {hp : mjH} {q : Option Value × mjH} (h : f_102 R a0 hp = some q) : mjM (d + 1) 0 0 102 [.int a0] hp (mjEq q) :=
  mjM_of Ja_102 (Nat.le_of_ble_eq_true rfl) (mjG.fg (lo' := [some (.int a0)]) (And.intro rfl True.intro) ((t_102_0 hR (Nat.le_refl 0) (Nat.le_refl 0)) a0 hp q h))
def J_103 : mjI := (⟨"OwnerHeap$Program", "withOwner", "(III)I"⟩, 7, prog_9_method_6_code, 3, (some .int), 3, true)
theorem Ja_103 : mjMt 103 = some J_103 := by rfl
theorem D_103_0 : decode J_103.2.2.1 0 = .ok (.iload_n 0, 1) := dzq_26 (by decide +kernel)
theorem D_103_1 : decode J_103.2.2.1 1 = .ok (.iload_n 2, 1) := dzq_28 (by decide +kernel)
theorem D_103_2 : decode J_103.2.2.1 2 = .ok (.iconst 3, 1) := dzq_6 (by decide +kernel)
theorem D_103_3 : decode J_103.2.2.1 3 = .ok (.iload_n 1, 1) := dzq_27 (by decide +kernel)
theorem D_103_4 : decode J_103.2.2.1 4 = .ok (.imul, 1) := dzq_104 (by decide +kernel)
theorem D_103_5 : decode J_103.2.2.1 5 = .ok (.ishl, 1) := by decide +kernel
theorem D_103_6 : decode J_103.2.2.1 6 = .ok (.ior, 1) := by decide +kernel
theorem D_103_7 : decode J_103.2.2.1 7 = .ok (.ireturn, 1) := dzq_172 (by decide +kernel)
def P_103_0 (X : mjX) (d C S kc ks : Nat) (k : Int32 → Int32 → Int32 → mjH → mjU) : Prop := ∀ (l0 : Int32) (l1 : Int32) (l2 : Int32) (hp : mjH) (q : Option Value × mjH), k l0 l1 l2 hp = some q → mjG X d C S J_103 (mjEq q) 0 [some (.int l0), some (.int l1), some (.int l2)] [] hp kc ks
noncomputable def b_103_0 (R : mjR) (l0 : Int32) (l1 : Int32) (l2 : Int32) (hp : mjH) : mjU := some (some (.int (l0 ||| (l2 <<< (((3 : Int32) * l1) &&& 31)))), hp)
theorem t_103_0 {X : mjX} {d C S kc ks : Nat} {R : mjR} (hR : mjC R d) (h1 : kc ≤ C) (h2 : ks ≤ S) : P_103_0 X (d + 1) C S kc ks (b_103_0 R) := by
  intro l0 l1 l2 hp q h
  unfold b_103_0 at h
  refine mjr_iload_n (x := l0) D_103_0 rfl ?_
  refine mjr_iload_n (x := l2) D_103_1 rfl ?_
  refine mjq_ic (v := (3 : Int32)) D_103_2 rfl ?_
  refine mjr_iload_n (x := l1) D_103_3 rfl ?_
  refine mjr_imul D_103_4 ?_
  refine mjr_ishl D_103_5 ?_
  refine mjr_ior D_103_6 ?_
  exact mjq_ret D_103_7 rfl h1 h2 h
noncomputable def f_103 (R : mjR) (a0 : Int32) (a1 : Int32) (a2 : Int32) (hp : mjH) : mjU := b_103_0 R a0 a1 a2 hp
theorem c_103 {R : mjR} {d : Nat} (hR : mjC R d) {a0 : Int32} {a1 : Int32} {a2 : Int32} {hp : mjH} {q : Option Value × mjH} (h : f_103 R a0 a1 a2 hp = some q) : mjM (d + 1) 0 0 103 [.int a0, .int a1, .int a2] hp (mjEq q) :=
  mjM_of Ja_103 (Nat.le_of_ble_eq_true rfl) (mjG.fg (lo' := [some (.int a0), some (.int a1), some (.int a2)]) (And.intro rfl (And.intro rfl (And.intro rfl True.intro))) ((t_103_0 hR (Nat.le_refl 0) (Nat.le_refl 0)) a0 a1 a2 hp q h))
def J_104 : mjI := (⟨"OwnerHeap$Program", "isNested", "(II)Z"⟩, 7, prog_9_method_22_code, 8, (some .boolean), 2, false)
theorem Ja_104 : mjMt 104 = some J_104 := by rfl
theorem D_104_0 : decode J_104.2.2.1 0 = .ok (.iload_n 2, 1) := dzq_28 (by decide +kernel)
theorem D_104_1 : decode J_104.2.2.1 1 = .ok (.invokestatic 97, 3) := dzq_184 (by decide +kernel)
theorem D_104_4 : decode J_104.2.2.1 4 = .ok (.istore_n 3, 1) := dzq_62 (by decide +kernel)
theorem D_104_5 : decode J_104.2.2.1 5 = .ok (.iconst 1, 1) := dzq_4 (by decide +kernel)
theorem D_104_6 : decode J_104.2.2.1 6 = .ok (.istore 4, 2) := dzq_54 (by decide +kernel)
theorem D_104_8 : decode J_104.2.2.1 8 = .ok (.iconst 1, 1) := dzq_4 (by decide +kernel)
theorem D_104_9 : decode J_104.2.2.1 9 = .ok (.istore 5, 2) := dzq_54 (by decide +kernel)
theorem D_104_11 : decode J_104.2.2.1 11 = .ok (.iload 5, 2) := dzq_21 (by decide +kernel)
theorem D_104_13 : decode J_104.2.2.1 13 = .ok (.aload_n 0, 1) := dzq_42 (by decide +kernel)
theorem D_104_14 : decode J_104.2.2.1 14 = .ok (.getfield 11, 3) := dzq_180 (by decide +kernel)
theorem D_104_17 : decode J_104.2.2.1 17 = .ok (.iload_n 3, 1) := dzq_29 (by decide +kernel)
theorem D_104_18 : decode J_104.2.2.1 18 = .ok (.iaload, 1) := dzq_46 (by decide +kernel)
theorem D_104_19 : decode J_104.2.2.1 19 = .ok (.if_icmp .ge 40, 3) := dzq_162 (by decide +kernel)
theorem D_104_22 : decode J_104.2.2.1 22 = .ok (.iload 4, 2) := dzq_21 (by decide +kernel)
theorem D_104_24 : decode J_104.2.2.1 24 = .ok (.ifCond .eq 26, 3) := dzq_153 (by decide +kernel)
theorem D_104_27 : decode J_104.2.2.1 27 = .ok (.aload_n 0, 1) := dzq_42 (by decide +kernel)
theorem D_104_28 : decode J_104.2.2.1 28 = .ok (.iload_n 1, 1) := dzq_27 (by decide +kernel)
theorem D_104_29 : decode J_104.2.2.1 29 = .ok (.iload_n 2, 1) := dzq_28 (by decide +kernel)
theorem D_104_30 : decode J_104.2.2.1 30 = .ok (.iconst 0, 1) := dzq_3 (by decide +kernel)
theorem D_104_31 : decode J_104.2.2.1 31 = .ok (.invokestatic 85, 3) := dzq_184 (by decide +kernel)
theorem D_104_34 : decode J_104.2.2.1 34 = .ok (.iload_n 2, 1) := dzq_28 (by decide +kernel)
theorem D_104_35 : decode J_104.2.2.1 35 = .ok (.iload 5, 2) := dzq_21 (by decide +kernel)
theorem D_104_37 : decode J_104.2.2.1 37 = .ok (.invokestatic 85, 3) := dzq_184 (by decide +kernel)
theorem D_104_40 : decode J_104.2.2.1 40 = .ok (.invokevirtual 136, 3) := dzq_182 (by decide +kernel)
theorem D_104_43 : decode J_104.2.2.1 43 = .ok (.ifCond .eq 7, 3) := dzq_153 (by decide +kernel)
theorem D_104_46 : decode J_104.2.2.1 46 = .ok (.iconst 1, 1) := dzq_4 (by decide +kernel)
theorem D_104_47 : decode J_104.2.2.1 47 = .ok (.goto 4, 3) := dzq_167 (by decide +kernel)
theorem D_104_50 : decode J_104.2.2.1 50 = .ok (.iconst 0, 1) := dzq_3 (by decide +kernel)
theorem D_104_51 : decode J_104.2.2.1 51 = .ok (.istore 4, 2) := dzq_54 (by decide +kernel)
theorem D_104_53 : decode J_104.2.2.1 53 = .ok (.iinc 5 1, 3) := dzq_132 (by decide +kernel)
theorem D_104_56 : decode J_104.2.2.1 56 = .ok (.goto (-45), 3) := dzq_167 (by decide +kernel)
theorem D_104_59 : decode J_104.2.2.1 59 = .ok (.iconst 0, 1) := dzq_3 (by decide +kernel)
theorem D_104_60 : decode J_104.2.2.1 60 = .ok (.istore 5, 2) := dzq_54 (by decide +kernel)
theorem D_104_62 : decode J_104.2.2.1 62 = .ok (.iload 5, 2) := dzq_21 (by decide +kernel)
theorem D_104_64 : decode J_104.2.2.1 64 = .ok (.aload_n 0, 1) := dzq_42 (by decide +kernel)
theorem D_104_65 : decode J_104.2.2.1 65 = .ok (.getfield 18, 3) := dzq_180 (by decide +kernel)
theorem D_104_68 : decode J_104.2.2.1 68 = .ok (.iload_n 3, 1) := dzq_29 (by decide +kernel)
theorem D_104_69 : decode J_104.2.2.1 69 = .ok (.iaload, 1) := dzq_46 (by decide +kernel)
theorem D_104_70 : decode J_104.2.2.1 70 = .ok (.if_icmp .ge 65, 3) := dzq_162 (by decide +kernel)
theorem D_104_73 : decode J_104.2.2.1 73 = .ok (.aload_n 0, 1) := dzq_42 (by decide +kernel)
theorem D_104_74 : decode J_104.2.2.1 74 = .ok (.getfield 21, 3) := dzq_180 (by decide +kernel)
theorem D_104_77 : decode J_104.2.2.1 77 = .ok (.iload_n 3, 1) := dzq_29 (by decide +kernel)
theorem D_104_78 : decode J_104.2.2.1 78 = .ok (.bipush 8, 2) := dzq_16 (by decide +kernel)
theorem D_104_80 : decode J_104.2.2.1 80 = .ok (.imul, 1) := dzq_104 (by decide +kernel)
theorem D_104_81 : decode J_104.2.2.1 81 = .ok (.iload 5, 2) := dzq_21 (by decide +kernel)
theorem D_104_83 : decode J_104.2.2.1 83 = .ok (.iadd, 1) := dzq_96 (by decide +kernel)
theorem D_104_84 : decode J_104.2.2.1 84 = .ok (.iaload, 1) := dzq_46 (by decide +kernel)
theorem D_104_85 : decode J_104.2.2.1 85 = .ok (.istore 6, 2) := dzq_54 (by decide +kernel)
theorem D_104_87 : decode J_104.2.2.1 87 = .ok (.iload_n 2, 1) := dzq_28 (by decide +kernel)
theorem D_104_88 : decode J_104.2.2.1 88 = .ok (.iload 6, 2) := dzq_21 (by decide +kernel)
theorem D_104_90 : decode J_104.2.2.1 90 = .ok (.bipush 7, 2) := dzq_16 (by decide +kernel)
theorem D_104_92 : decode J_104.2.2.1 92 = .ok (.idiv, 1) := by decide +kernel
theorem D_104_93 : decode J_104.2.2.1 93 = .ok (.invokestatic 85, 3) := dzq_184 (by decide +kernel)
theorem D_104_96 : decode J_104.2.2.1 96 = .ok (.istore 7, 2) := dzq_54 (by decide +kernel)
theorem D_104_98 : decode J_104.2.2.1 98 = .ok (.iload 4, 2) := dzq_21 (by decide +kernel)
theorem D_104_100 : decode J_104.2.2.1 100 = .ok (.ifCond .eq 26, 3) := dzq_153 (by decide +kernel)
theorem D_104_103 : decode J_104.2.2.1 103 = .ok (.aload_n 0, 1) := dzq_42 (by decide +kernel)
theorem D_104_104 : decode J_104.2.2.1 104 = .ok (.iload_n 1, 1) := dzq_27 (by decide +kernel)
theorem D_104_105 : decode J_104.2.2.1 105 = .ok (.iload 7, 2) := dzq_21 (by decide +kernel)
theorem D_104_107 : decode J_104.2.2.1 107 = .ok (.iload_n 2, 1) := dzq_28 (by decide +kernel)
theorem D_104_108 : decode J_104.2.2.1 108 = .ok (.iload 6, 2) := dzq_21 (by decide +kernel)
theorem D_104_110 : decode J_104.2.2.1 110 = .ok (.bipush 7, 2) := dzq_16 (by decide +kernel)
theorem D_104_112 : decode J_104.2.2.1 112 = .ok (.irem, 1) := by decide +kernel
theorem D_104_113 : decode J_104.2.2.1 113 = .ok (.invokestatic 85, 3) := dzq_184 (by decide +kernel)
theorem D_104_116 : decode J_104.2.2.1 116 = .ok (.invokevirtual 136, 3) := dzq_182 (by decide +kernel)
theorem D_104_119 : decode J_104.2.2.1 119 = .ok (.ifCond .eq 7, 3) := dzq_153 (by decide +kernel)
theorem D_104_122 : decode J_104.2.2.1 122 = .ok (.iconst 1, 1) := dzq_4 (by decide +kernel)
theorem D_104_123 : decode J_104.2.2.1 123 = .ok (.goto 4, 3) := dzq_167 (by decide +kernel)
theorem D_104_126 : decode J_104.2.2.1 126 = .ok (.iconst 0, 1) := dzq_3 (by decide +kernel)
theorem D_104_127 : decode J_104.2.2.1 127 = .ok (.istore 4, 2) := dzq_54 (by decide +kernel)
theorem D_104_129 : decode J_104.2.2.1 129 = .ok (.iinc 5 1, 3) := dzq_132 (by decide +kernel)
theorem D_104_132 : decode J_104.2.2.1 132 = .ok (.goto (-70), 3) := dzq_167 (by decide +kernel)
theorem D_104_135 : decode J_104.2.2.1 135 = .ok (.iload 4, 2) := dzq_21 (by decide +kernel)
theorem D_104_137 : decode J_104.2.2.1 137 = .ok (.ireturn, 1) := dzq_172 (by decide +kernel)
def P_104_127 (X : mjX) (d C S kc ks : Nat) (k : Nat → Int32 → Int32 → Int32 → Int32 → Int32 → mjH → mjU) : Prop := ∀ (l0 : Nat) (l1 : Int32) (l2 : Int32) (l3 : Int32) (l5 : Int32) (s0 : Int32) (hp : mjH) (q : Option Value × mjH), k l0 l1 l2 l3 l5 s0 hp = some q → mjG X d C S J_104 (mjEq q) 127 [some (.ref l0), some (.int l1), some (.int l2), some (.int l3), none, some (.int l5), none, none] [.int s0] hp kc ks
def P_104_126 (X : mjX) (d C S kc ks : Nat) (k : Nat → Int32 → Int32 → Int32 → Int32 → mjH → mjU) : Prop := ∀ (l0 : Nat) (l1 : Int32) (l2 : Int32) (l3 : Int32) (l5 : Int32) (hp : mjH) (q : Option Value × mjH), k l0 l1 l2 l3 l5 hp = some q → mjG X d C S J_104 (mjEq q) 126 [some (.ref l0), some (.int l1), some (.int l2), some (.int l3), none, some (.int l5), none, none] [] hp kc ks
def P_104_62 (X : mjX) (d C S kc ks : Nat) (k : Nat → Int32 → Int32 → Int32 → Int32 → Int32 → mjH → mjU) : Prop := ∀ (l0 : Nat) (l1 : Int32) (l2 : Int32) (l3 : Int32) (l4 : Int32) (l5 : Int32) (hp : mjH) (q : Option Value × mjH), k l0 l1 l2 l3 l4 l5 hp = some q → mjG X d C S J_104 (mjEq q) 62 [some (.ref l0), some (.int l1), some (.int l2), some (.int l3), some (.int l4), some (.int l5), none, none] [] hp kc ks
def P_104_51 (X : mjX) (d C S kc ks : Nat) (k : Nat → Int32 → Int32 → Int32 → Int32 → Int32 → mjH → mjU) : Prop := ∀ (l0 : Nat) (l1 : Int32) (l2 : Int32) (l3 : Int32) (l5 : Int32) (s0 : Int32) (hp : mjH) (q : Option Value × mjH), k l0 l1 l2 l3 l5 s0 hp = some q → mjG X d C S J_104 (mjEq q) 51 [some (.ref l0), some (.int l1), some (.int l2), some (.int l3), none, some (.int l5), none, none] [.int s0] hp kc ks
def P_104_50 (X : mjX) (d C S kc ks : Nat) (k : Nat → Int32 → Int32 → Int32 → Int32 → mjH → mjU) : Prop := ∀ (l0 : Nat) (l1 : Int32) (l2 : Int32) (l3 : Int32) (l5 : Int32) (hp : mjH) (q : Option Value × mjH), k l0 l1 l2 l3 l5 hp = some q → mjG X d C S J_104 (mjEq q) 50 [some (.ref l0), some (.int l1), some (.int l2), some (.int l3), none, some (.int l5), none, none] [] hp kc ks
def P_104_11 (X : mjX) (d C S kc ks : Nat) (k : Nat → Int32 → Int32 → Int32 → Int32 → Int32 → mjH → mjU) : Prop := ∀ (l0 : Nat) (l1 : Int32) (l2 : Int32) (l3 : Int32) (l4 : Int32) (l5 : Int32) (hp : mjH) (q : Option Value × mjH), k l0 l1 l2 l3 l4 l5 hp = some q → mjG X d C S J_104 (mjEq q) 11 [some (.ref l0), some (.int l1), some (.int l2), some (.int l3), some (.int l4), some (.int l5), none, none] [] hp kc ks
def P_104_0 (X : mjX) (d C S kc ks : Nat) (k : Nat → Int32 → Int32 → mjH → mjU) : Prop := ∀ (l0 : Nat) (l1 : Int32) (l2 : Int32) (hp : mjH) (q : Option Value × mjH), k l0 l1 l2 hp = some q → mjG X d C S J_104 (mjEq q) 0 [some (.ref l0), some (.int l1), some (.int l2), none, none, none, none, none] [] hp kc ks
noncomputable def b_104_127 (R : mjR) (k62 : Nat → Int32 → Int32 → Int32 → Int32 → Int32 → mjH → mjU) (l0 : Nat) (l1 : Int32) (l2 : Int32) (l3 : Int32) (l5 : Int32) (s0 : Int32) (hp : mjH) : mjU := k62 l0 l1 l2 l3 s0 (l5 + (1 : Int32)) hp
theorem t_104_127 {X : mjX} {d C S kc ks : Nat} {R : mjR} (hR : mjC R d) (h1 : kc ≤ C) (h2 : ks ≤ S) {k62 : Nat → Int32 → Int32 → Int32 → Int32 → Int32 → mjH → mjU} (hk62 : P_104_62 X (d + 1) C S kc ks k62) : P_104_127 X (d + 1) C S kc ks (b_104_127 R k62) := by
  intro l0 l1 l2 l3 l5 s0 hp q h
  unfold b_104_127 at h
  refine mjq_istore (lo' := [some (.ref l0), some (.int l1), some (.int l2), some (.int l3), some (.int s0), some (.int l5), none, none]) D_104_127 (Nat.le_of_ble_eq_true rfl) rfl ?_
  refine mjq_iinc (x := l5) (c := (1 : Int32)) (lo' := [some (.ref l0), some (.int l1), some (.int l2), some (.int l3), some (.int s0), some (.int (l5 + (1 : Int32))), none, none]) D_104_129 rfl (Nat.le_of_ble_eq_true rfl) rfl rfl ?_
  refine mjr_goto (tgt := 62) D_104_132 rfl ?_
  exact hk62 _ _ _ _ _ _ _ _ h
noncomputable def b_104_126 (R : mjR) (k62 : Nat → Int32 → Int32 → Int32 → Int32 → Int32 → mjH → mjU) (l0 : Nat) (l1 : Int32) (l2 : Int32) (l3 : Int32) (l5 : Int32) (hp : mjH) : mjU := b_104_127 R k62 l0 l1 l2 l3 l5 (0 : Int32) hp
theorem t_104_126 {X : mjX} {d C S kc ks : Nat} {R : mjR} (hR : mjC R d) (h1 : kc ≤ C) (h2 : ks ≤ S) {k62 : Nat → Int32 → Int32 → Int32 → Int32 → Int32 → mjH → mjU} (hk62 : P_104_62 X (d + 1) C S kc ks k62) : P_104_126 X (d + 1) C S kc ks (b_104_126 R k62) := by
  intro l0 l1 l2 l3 l5 hp q h
  unfold b_104_126 at h
  refine mjq_ic (v := (0 : Int32)) D_104_126 rfl ?_
  exact (t_104_127 hR h1 h2 hk62) _ _ _ _ _ _ _ _ h
noncomputable def b_104_62 (R : mjR) (k62 : Nat → Int32 → Int32 → Int32 → Int32 → Int32 → mjH → mjU) (l0 : Nat) (l1 : Int32) (l2 : Int32) (l3 : Int32) (l4 : Int32) (l5 : Int32) (hp : mjH) : mjU := gR hp l0 7 3 (fun v1 => aI hp v1 l3 (fun v2 => (if v2 ≤ l5 then (if narrow .boolean (.int l4) = .int l4 then some (some (.int l4), hp) else none) else gR hp l0 7 4 (fun v3 => aI hp v3 ((l3 * (8 : Int32)) + l5) (fun v4 => bI (R 106 [.int l2, .int (v4 / (7 : Int32))] hp) (fun v5 hp6 => (if l4 = 0 then b_104_126 R k62 l0 l1 l2 l3 l5 hp6 else bI (R 106 [.int l2, .int (v4 - v4 / (7 : Int32) * (7 : Int32))] hp6) (fun v7 hp8 => rV hp8 l0 7 (bI (R 107 [.ref l0, .int l1, .int v5, .int v7] hp8) (fun v9 hp10 => (if v9 = 0 then b_104_126 R k62 l0 l1 l2 l3 l5 hp10 else b_104_127 R k62 l0 l1 l2 l3 l5 (1 : Int32) hp10)))))))))))
theorem t_104_62 {X : mjX} {d C S kc ks : Nat} {R : mjR} (hR : mjC R d) (h1 : kc ≤ C) (h2 : ks ≤ S) {k62 : Nat → Int32 → Int32 → Int32 → Int32 → Int32 → mjH → mjU} (hk62 : P_104_62 X (d + 1) C S kc ks k62) : P_104_62 X (d + 1) C S kc ks (b_104_62 R k62) := by
  intro l0 l1 l2 l3 l4 l5 hp q h
  unfold b_104_62 at h
  refine mjr_iload (x := l5) D_104_62 rfl ?_
  refine mjr_aload_n (x := l0) D_104_64 rfl ?_
  refine mjq_gR D_104_65 fr_7_18 h (fun v1 h => ?_)
  refine mjr_iload_n (x := l3) D_104_68 rfl ?_
  refine mjq_aI D_104_69 h (fun v2 h => ?_)
  refine mjq_icmp_ge (tgt := 135) D_104_70 rfl h (fun h => ?_) (fun h => ?_)
  · refine mjr_iload (x := l4) D_104_135 rfl ?_
    exact mjq_retZ (ty := .boolean) D_104_137 rfl h1 h2 h
  · refine mjr_aload_n (x := l0) D_104_73 rfl ?_
    refine mjq_gR D_104_74 fr_7_21 h (fun v3 h => ?_)
    refine mjr_iload_n (x := l3) D_104_77 rfl ?_
    refine mjq_bi (v := (8 : Int32)) D_104_78 rfl ?_
    refine mjr_imul D_104_80 ?_
    refine mjr_iload (x := l5) D_104_81 rfl ?_
    refine mjr_iadd D_104_83 ?_
    refine mjq_aI D_104_84 h (fun v4 h => ?_)
    refine mjq_istore (lo' := [some (.ref l0), some (.int l1), some (.int l2), some (.int l3), some (.int l4), some (.int l5), some (.int v4), none]) D_104_85 (Nat.le_of_ble_eq_true rfl) rfl ?_
    refine mjr_iload_n (x := l2) D_104_87 rfl ?_
    refine mjr_iload (x := v4) D_104_88 rfl ?_
    refine mjq_bi (v := (7 : Int32)) D_104_90 rfl ?_
    refine mjr_idiv D_104_92 (by decide) ?_
    refine mjq_scI (As := [.int l2, .int (v4 / (7 : Int32))]) (rest := []) D_104_93 mr_7_85 V_106 rfl rfl rfl hR (Nat.le_refl _) h1 h2 h (fun v5 hp6 h => ?_)
    refine mjq_istore (lo' := [some (.ref l0), some (.int l1), some (.int l2), some (.int l3), some (.int l4), some (.int l5), some (.int v4), some (.int v5)]) D_104_96 (Nat.le_of_ble_eq_true rfl) rfl ?_
    refine mjr_iload (x := l4) D_104_98 rfl ?_
    refine mjq_if_eq (tgt := 126) D_104_100 rfl h (fun h => ?_) (fun h => ?_)
    · exact mjG.fg (lo' := [some (.ref l0), some (.int l1), some (.int l2), some (.int l3), none, some (.int l5), none, none]) (And.intro rfl (And.intro rfl (And.intro rfl (And.intro rfl (And.intro rfl True.intro))))) ((t_104_126 hR h1 h2 hk62) _ _ _ _ _ _ _ h)
    · refine mjr_aload_n (x := l0) D_104_103 rfl ?_
      refine mjr_iload_n (x := l1) D_104_104 rfl ?_
      refine mjr_iload (x := v5) D_104_105 rfl ?_
      refine mjr_iload_n (x := l2) D_104_107 rfl ?_
      refine mjr_iload (x := v4) D_104_108 rfl ?_
      refine mjq_bi (v := (7 : Int32)) D_104_110 rfl ?_
      refine mjr_irem D_104_112 (by decide) ?_
      refine mjq_scI (As := [.int l2, .int (v4 - v4 / (7 : Int32) * (7 : Int32))]) (rest := [.int v5, .int l1, .ref l0]) D_104_113 mr_7_85 V_106 rfl rfl rfl hR (Nat.le_refl _) h1 h2 h (fun v7 hp8 h => ?_)
      refine mjq_vI (As := [.int l1, .int v5, .int v7]) (rest := []) D_104_116 mr_7_136 V_107 rfl rfl rfl hR (Nat.le_refl _) h1 h2 h (fun v9 hp10 h => ?_)
      refine mjq_if_eq (tgt := 126) D_104_119 rfl h (fun h => ?_) (fun h => ?_)
      · exact mjG.fg (lo' := [some (.ref l0), some (.int l1), some (.int l2), some (.int l3), none, some (.int l5), none, none]) (And.intro rfl (And.intro rfl (And.intro rfl (And.intro rfl (And.intro rfl True.intro))))) ((t_104_126 hR h1 h2 hk62) _ _ _ _ _ _ _ h)
      · refine mjq_ic (v := (1 : Int32)) D_104_122 rfl ?_
        refine mjr_goto (tgt := 127) D_104_123 rfl ?_
        exact mjG.fg (lo' := [some (.ref l0), some (.int l1), some (.int l2), some (.int l3), none, some (.int l5), none, none]) (And.intro rfl (And.intro rfl (And.intro rfl (And.intro rfl (And.intro rfl True.intro))))) ((t_104_127 hR h1 h2 hk62) _ _ _ _ _ _ _ _ h)
noncomputable def L_104_62 (R : mjR) (n : Nat) : Nat → Int32 → Int32 → Int32 → Int32 → Int32 → mjH → mjU := Nat.rec (motive := fun _ => Nat → Int32 → Int32 → Int32 → Int32 → Int32 → mjH → mjU) (fun _ _ _ _ _ _ _ => none) (fun _ self => b_104_62 R self) n
theorem T_104_62 {X : mjX} {d C S kc ks : Nat} {R : mjR} (hR : mjC R d) (h1 : kc ≤ C) (h2 : ks ≤ S) (n : Nat) : P_104_62 X (d + 1) C S kc ks (L_104_62 R n) := by
  induction n with
  | zero => intro _ _ _ _ _ _ _ _ h; exact mj_no h
  | succ n ih => exact t_104_62 hR h1 h2 ih
noncomputable def b_104_51 (R : mjR) (k11 : Nat → Int32 → Int32 → Int32 → Int32 → Int32 → mjH → mjU) (l0 : Nat) (l1 : Int32) (l2 : Int32) (l3 : Int32) (l5 : Int32) (s0 : Int32) (hp : mjH) : mjU := k11 l0 l1 l2 l3 s0 (l5 + (1 : Int32)) hp
theorem t_104_51 {X : mjX} {d C S kc ks : Nat} {R : mjR} (hR : mjC R d) (h1 : kc ≤ C) (h2 : ks ≤ S) {k11 : Nat → Int32 → Int32 → Int32 → Int32 → Int32 → mjH → mjU} (hk11 : P_104_11 X (d + 1) C S kc ks k11) : P_104_51 X (d + 1) C S kc ks (b_104_51 R k11) := by
  intro l0 l1 l2 l3 l5 s0 hp q h
  unfold b_104_51 at h
  refine mjq_istore (lo' := [some (.ref l0), some (.int l1), some (.int l2), some (.int l3), some (.int s0), some (.int l5), none, none]) D_104_51 (Nat.le_of_ble_eq_true rfl) rfl ?_
  refine mjq_iinc (x := l5) (c := (1 : Int32)) (lo' := [some (.ref l0), some (.int l1), some (.int l2), some (.int l3), some (.int s0), some (.int (l5 + (1 : Int32))), none, none]) D_104_53 rfl (Nat.le_of_ble_eq_true rfl) rfl rfl ?_
  refine mjr_goto (tgt := 11) D_104_56 rfl ?_
  exact hk11 _ _ _ _ _ _ _ _ h
noncomputable def b_104_50 (R : mjR) (k11 : Nat → Int32 → Int32 → Int32 → Int32 → Int32 → mjH → mjU) (l0 : Nat) (l1 : Int32) (l2 : Int32) (l3 : Int32) (l5 : Int32) (hp : mjH) : mjU := b_104_51 R k11 l0 l1 l2 l3 l5 (0 : Int32) hp
theorem t_104_50 {X : mjX} {d C S kc ks : Nat} {R : mjR} (hR : mjC R d) (h1 : kc ≤ C) (h2 : ks ≤ S) {k11 : Nat → Int32 → Int32 → Int32 → Int32 → Int32 → mjH → mjU} (hk11 : P_104_11 X (d + 1) C S kc ks k11) : P_104_50 X (d + 1) C S kc ks (b_104_50 R k11) := by
  intro l0 l1 l2 l3 l5 hp q h
  unfold b_104_50 at h
  refine mjq_ic (v := (0 : Int32)) D_104_50 rfl ?_
  exact (t_104_51 hR h1 h2 hk11) _ _ _ _ _ _ _ _ h
noncomputable def b_104_11 (R : mjR) (k11 : Nat → Int32 → Int32 → Int32 → Int32 → Int32 → mjH → mjU) (l0 : Nat) (l1 : Int32) (l2 : Int32) (l3 : Int32) (l4 : Int32) (l5 : Int32) (hp : mjH) : mjU := gR hp l0 7 1 (fun v1 => aI hp v1 l3 (fun v2 => (if v2 ≤ l5 then L_104_62 R mjN l0 l1 l2 l3 l4 (0 : Int32) hp else (if l4 = 0 then b_104_50 R k11 l0 l1 l2 l3 l5 hp else bI (R 106 [.int l2, .int (0 : Int32)] hp) (fun v3 hp4 => bI (R 106 [.int l2, .int l5] hp4) (fun v5 hp6 => rV hp6 l0 7 (bI (R 107 [.ref l0, .int l1, .int v3, .int v5] hp6) (fun v7 hp8 => (if v7 = 0 then b_104_50 R k11 l0 l1 l2 l3 l5 hp8 else b_104_51 R k11 l0 l1 l2 l3 l5 (1 : Int32) hp8)))))))))
theorem t_104_11 {X : mjX} {d C S kc ks : Nat} {R : mjR} (hR : mjC R d) (h1 : kc ≤ C) (h2 : ks ≤ S) {k11 : Nat → Int32 → Int32 → Int32 → Int32 → Int32 → mjH → mjU} (hk11 : P_104_11 X (d + 1) C S kc ks k11) : P_104_11 X (d + 1) C S kc ks (b_104_11 R k11) := by
  intro l0 l1 l2 l3 l4 l5 hp q h
  unfold b_104_11 at h
  refine mjr_iload (x := l5) D_104_11 rfl ?_
  refine mjr_aload_n (x := l0) D_104_13 rfl ?_
  refine mjq_gR D_104_14 fr_7_11 h (fun v1 h => ?_)
  refine mjr_iload_n (x := l3) D_104_17 rfl ?_
  refine mjq_aI D_104_18 h (fun v2 h => ?_)
  refine mjq_icmp_ge (tgt := 59) D_104_19 rfl h (fun h => ?_) (fun h => ?_)
  · refine mjq_ic (v := (0 : Int32)) D_104_59 rfl ?_
    refine mjq_istore (lo' := [some (.ref l0), some (.int l1), some (.int l2), some (.int l3), some (.int l4), some (.int (0 : Int32)), none, none]) D_104_60 (Nat.le_of_ble_eq_true rfl) rfl ?_
    exact (T_104_62 hR h1 h2 mjN) _ _ _ _ _ _ _ _ h
  · refine mjr_iload (x := l4) D_104_22 rfl ?_
    refine mjq_if_eq (tgt := 50) D_104_24 rfl h (fun h => ?_) (fun h => ?_)
    · exact mjG.fg (lo' := [some (.ref l0), some (.int l1), some (.int l2), some (.int l3), none, some (.int l5), none, none]) (And.intro rfl (And.intro rfl (And.intro rfl (And.intro rfl (And.intro rfl True.intro))))) ((t_104_50 hR h1 h2 hk11) _ _ _ _ _ _ _ h)
    · refine mjr_aload_n (x := l0) D_104_27 rfl ?_
      refine mjr_iload_n (x := l1) D_104_28 rfl ?_
      refine mjr_iload_n (x := l2) D_104_29 rfl ?_
      refine mjq_ic (v := (0 : Int32)) D_104_30 rfl ?_
      refine mjq_scI (As := [.int l2, .int (0 : Int32)]) (rest := [.int l1, .ref l0]) D_104_31 mr_7_85 V_106 rfl rfl rfl hR (Nat.le_refl _) h1 h2 h (fun v3 hp4 h => ?_)
      refine mjr_iload_n (x := l2) D_104_34 rfl ?_
      refine mjr_iload (x := l5) D_104_35 rfl ?_
      refine mjq_scI (As := [.int l2, .int l5]) (rest := [.int v3, .int l1, .ref l0]) D_104_37 mr_7_85 V_106 rfl rfl rfl hR (Nat.le_refl _) h1 h2 h (fun v5 hp6 h => ?_)
      refine mjq_vI (As := [.int l1, .int v3, .int v5]) (rest := []) D_104_40 mr_7_136 V_107 rfl rfl rfl hR (Nat.le_refl _) h1 h2 h (fun v7 hp8 h => ?_)
      refine mjq_if_eq (tgt := 50) D_104_43 rfl h (fun h => ?_) (fun h => ?_)
      · exact mjG.fg (lo' := [some (.ref l0), some (.int l1), some (.int l2), some (.int l3), none, some (.int l5), none, none]) (And.intro rfl (And.intro rfl (And.intro rfl (And.intro rfl (And.intro rfl True.intro))))) ((t_104_50 hR h1 h2 hk11) _ _ _ _ _ _ _ h)
      · refine mjq_ic (v := (1 : Int32)) D_104_46 rfl ?_
        refine mjr_goto (tgt := 51) D_104_47 rfl ?_
        exact mjG.fg (lo' := [some (.ref l0), some (.int l1), some (.int l2), some (.int l3), none, some (.int l5), none, none]) (And.intro rfl (And.intro rfl (And.intro rfl (And.intro rfl (And.intro rfl True.intro))))) ((t_104_51 hR h1 h2 hk11) _ _ _ _ _ _ _ _ h)
noncomputable def L_104_11 (R : mjR) (n : Nat) : Nat → Int32 → Int32 → Int32 → Int32 → Int32 → mjH → mjU := Nat.rec (motive := fun _ => Nat → Int32 → Int32 → Int32 → Int32 → Int32 → mjH → mjU) (fun _ _ _ _ _ _ _ => none) (fun _ self => b_104_11 R self) n
theorem T_104_11 {X : mjX} {d C S kc ks : Nat} {R : mjR} (hR : mjC R d) (h1 : kc ≤ C) (h2 : ks ≤ S) (n : Nat) : P_104_11 X (d + 1) C S kc ks (L_104_11 R n) := by
  induction n with
  | zero => intro _ _ _ _ _ _ _ _ h; exact mj_no h
  | succ n ih => exact t_104_11 hR h1 h2 ih
noncomputable def b_104_0 (R : mjR) (l0 : Nat) (l1 : Int32) (l2 : Int32) (hp : mjH) : mjU := bI (R 105 [.int l2] hp) (fun v1 hp2 => L_104_11 R mjN l0 l1 l2 v1 (1 : Int32) (1 : Int32) hp2)
theorem t_104_0 {X : mjX} {d C S kc ks : Nat} {R : mjR} (hR : mjC R d) (h1 : kc ≤ C) (h2 : ks ≤ S) : P_104_0 X (d + 1) C S kc ks (b_104_0 R) := by
  intro l0 l1 l2 hp q h
  unfold b_104_0 at h
  refine mjr_iload_n (x := l2) D_104_0 rfl ?_
  refine mjq_scI (As := [.int l2]) (rest := []) D_104_1 mr_7_97 V_105 rfl rfl rfl hR (Nat.le_refl _) h1 h2 h (fun v1 hp2 h => ?_)
  refine mjq_istore_n (lo' := [some (.ref l0), some (.int l1), some (.int l2), some (.int v1), none, none, none, none]) D_104_4 (Nat.le_of_ble_eq_true rfl) rfl ?_
  refine mjq_ic (v := (1 : Int32)) D_104_5 rfl ?_
  refine mjq_istore (lo' := [some (.ref l0), some (.int l1), some (.int l2), some (.int v1), some (.int (1 : Int32)), none, none, none]) D_104_6 (Nat.le_of_ble_eq_true rfl) rfl ?_
  refine mjq_ic (v := (1 : Int32)) D_104_8 rfl ?_
  refine mjq_istore (lo' := [some (.ref l0), some (.int l1), some (.int l2), some (.int v1), some (.int (1 : Int32)), some (.int (1 : Int32)), none, none]) D_104_9 (Nat.le_of_ble_eq_true rfl) rfl ?_
  exact (T_104_11 hR h1 h2 mjN) _ _ _ _ _ _ _ _ h
noncomputable def f_104 (R : mjR) (a0 : Nat) (a1 : Int32) (a2 : Int32) (hp : mjH) : mjU := b_104_0 R a0 a1 a2 hp
theorem c_104 {R : mjR} {d : Nat} (hR : mjC R d) {a0 : Nat} {a1 : Int32} {a2 : Int32} {hp : mjH} {q : Option Value × mjH} (h : f_104 R a0 a1 a2 hp = some q) : mjM (d + 1) 0 0 104 [.ref a0, .int a1, .int a2] hp (mjEq q) :=
  mjM_of Ja_104 (Nat.le_of_ble_eq_true rfl) (mjG.fg (lo' := [some (.ref a0), some (.int a1), some (.int a2), none, none, none, none, none]) (And.intro rfl (And.intro rfl (And.intro rfl True.intro))) ((t_104_0 hR (Nat.le_refl 0) (Nat.le_refl 0)) a0 a1 a2 hp q h))
def J_105 : mjI := (⟨"OwnerHeap$Program", "classOf", "(I)I"⟩, 7, prog_9_method_3_code, 1, (some .int), 1, true)
theorem Ja_105 : mjMt 105 = some J_105 := by rfl
theorem D_105_0 : decode J_105.2.2.1 0 = .ok (.iload_n 0, 1) := dzq_26 (by decide +kernel)
theorem D_105_1 : decode J_105.2.2.1 1 = .ok (.bipush 15, 2) := dzq_16 (by decide +kernel)
theorem D_105_3 : decode J_105.2.2.1 3 = .ok (.ishr, 1) := by decide +kernel
theorem D_105_4 : decode J_105.2.2.1 4 = .ok (.ireturn, 1) := dzq_172 (by decide +kernel)
def P_105_0 (X : mjX) (d C S kc ks : Nat) (k : Int32 → mjH → mjU) : Prop := ∀ (l0 : Int32) (hp : mjH) (q : Option Value × mjH), k l0 hp = some q → mjG X d C S J_105 (mjEq q) 0 [some (.int l0)] [] hp kc ks
noncomputable def b_105_0 (R : mjR) (l0 : Int32) (hp : mjH) : mjU := some (some (.int (l0 >>> ((15 : Int32) &&& 31))), hp)
theorem t_105_0 {X : mjX} {d C S kc ks : Nat} {R : mjR} (hR : mjC R d) (h1 : kc ≤ C) (h2 : ks ≤ S) : P_105_0 X (d + 1) C S kc ks (b_105_0 R) := by
  intro l0 hp q h
  unfold b_105_0 at h
  refine mjr_iload_n (x := l0) D_105_0 rfl ?_
  refine mjq_bi (v := (15 : Int32)) D_105_1 rfl ?_
  refine mjr_ishr D_105_3 ?_
  exact mjq_ret D_105_4 rfl h1 h2 h
noncomputable def f_105 (R : mjR) (a0 : Int32) (hp : mjH) : mjU := b_105_0 R a0 hp
theorem c_105 {R : mjR} {d : Nat} (hR : mjC R d) {a0 : Int32} {hp : mjH} {q : Option Value × mjH} (h : f_105 R a0 hp = some q) : mjM (d + 1) 0 0 105 [.int a0] hp (mjEq q) :=
  mjM_of Ja_105 (Nat.le_of_ble_eq_true rfl) (mjG.fg (lo' := [some (.int a0)]) (And.intro rfl True.intro) ((t_105_0 hR (Nat.le_refl 0) (Nat.le_refl 0)) a0 hp q h))
def J_106 : mjI := (⟨"OwnerHeap$Program", "ownerIn", "(II)I"⟩, 7, prog_9_method_4_code, 2, (some .int), 2, true)
theorem Ja_106 : mjMt 106 = some J_106 := by rfl
theorem D_106_0 : decode J_106.2.2.1 0 = .ok (.iload_n 0, 1) := dzq_26 (by decide +kernel)
theorem D_106_1 : decode J_106.2.2.1 1 = .ok (.iconst 3, 1) := dzq_6 (by decide +kernel)
theorem D_106_2 : decode J_106.2.2.1 2 = .ok (.iload_n 1, 1) := dzq_27 (by decide +kernel)
theorem D_106_3 : decode J_106.2.2.1 3 = .ok (.imul, 1) := dzq_104 (by decide +kernel)
theorem D_106_4 : decode J_106.2.2.1 4 = .ok (.ishr, 1) := by decide +kernel
theorem D_106_5 : decode J_106.2.2.1 5 = .ok (.bipush 7, 2) := dzq_16 (by decide +kernel)
theorem D_106_7 : decode J_106.2.2.1 7 = .ok (.iand, 1) := by decide +kernel
theorem D_106_8 : decode J_106.2.2.1 8 = .ok (.ireturn, 1) := dzq_172 (by decide +kernel)
def P_106_0 (X : mjX) (d C S kc ks : Nat) (k : Int32 → Int32 → mjH → mjU) : Prop := ∀ (l0 : Int32) (l1 : Int32) (hp : mjH) (q : Option Value × mjH), k l0 l1 hp = some q → mjG X d C S J_106 (mjEq q) 0 [some (.int l0), some (.int l1)] [] hp kc ks
noncomputable def b_106_0 (R : mjR) (l0 : Int32) (l1 : Int32) (hp : mjH) : mjU := some (some (.int ((l0 >>> (((3 : Int32) * l1) &&& 31)) &&& (7 : Int32))), hp)
theorem t_106_0 {X : mjX} {d C S kc ks : Nat} {R : mjR} (hR : mjC R d) (h1 : kc ≤ C) (h2 : ks ≤ S) : P_106_0 X (d + 1) C S kc ks (b_106_0 R) := by
  intro l0 l1 hp q h
  unfold b_106_0 at h
  refine mjr_iload_n (x := l0) D_106_0 rfl ?_
  refine mjq_ic (v := (3 : Int32)) D_106_1 rfl ?_
  refine mjr_iload_n (x := l1) D_106_2 rfl ?_
  refine mjr_imul D_106_3 ?_
  refine mjr_ishr D_106_4 ?_
  refine mjq_bi (v := (7 : Int32)) D_106_5 rfl ?_
  refine mjr_iand D_106_7 ?_
  exact mjq_ret D_106_8 rfl h1 h2 h
noncomputable def f_106 (R : mjR) (a0 : Int32) (a1 : Int32) (hp : mjH) : mjU := b_106_0 R a0 a1 hp
theorem c_106 {R : mjR} {d : Nat} (hR : mjC R d) {a0 : Int32} {a1 : Int32} {hp : mjH} {q : Option Value × mjH} (h : f_106 R a0 a1 hp = some q) : mjM (d + 1) 0 0 106 [.int a0, .int a1] hp (mjEq q) :=
  mjM_of Ja_106 (Nat.le_of_ble_eq_true rfl) (mjG.fg (lo' := [some (.int a0), some (.int a1)]) (And.intro rfl (And.intro rfl True.intro)) ((t_106_0 hR (Nat.le_refl 0) (Nat.le_refl 0)) a0 a1 hp q h))
def J_107 : mjI := (⟨"OwnerHeap$Program", "isKnown", "(III)Z"⟩, 7, prog_9_method_21_code, 4, (some .boolean), 3, false)
theorem Ja_107 : mjMt 107 = some J_107 := by rfl
theorem D_107_0 : decode J_107.2.2.1 0 = .ok (.iload_n 1, 1) := dzq_27 (by decide +kernel)
theorem D_107_1 : decode J_107.2.2.1 1 = .ok (.iconst (-1), 1) := dzq_2 (by decide +kernel)
theorem D_107_2 : decode J_107.2.2.1 2 = .ok (.if_icmp .ne 19, 3) := dzq_160 (by decide +kernel)
theorem D_107_5 : decode J_107.2.2.1 5 = .ok (.iload_n 2, 1) := dzq_28 (by decide +kernel)
theorem D_107_6 : decode J_107.2.2.1 6 = .ok (.iconst 5, 1) := dzq_8 (by decide +kernel)
theorem D_107_7 : decode J_107.2.2.1 7 = .ok (.if_icmp .ne 12, 3) := dzq_160 (by decide +kernel)
theorem D_107_10 : decode J_107.2.2.1 10 = .ok (.iload_n 3, 1) := dzq_29 (by decide +kernel)
theorem D_107_11 : decode J_107.2.2.1 11 = .ok (.iconst 5, 1) := dzq_8 (by decide +kernel)
theorem D_107_12 : decode J_107.2.2.1 12 = .ok (.if_icmp .ne 7, 3) := dzq_160 (by decide +kernel)
theorem D_107_15 : decode J_107.2.2.1 15 = .ok (.iconst 1, 1) := dzq_4 (by decide +kernel)
theorem D_107_16 : decode J_107.2.2.1 16 = .ok (.goto 4, 3) := dzq_167 (by decide +kernel)
theorem D_107_19 : decode J_107.2.2.1 19 = .ok (.iconst 0, 1) := dzq_3 (by decide +kernel)
theorem D_107_20 : decode J_107.2.2.1 20 = .ok (.ireturn, 1) := dzq_172 (by decide +kernel)
theorem D_107_21 : decode J_107.2.2.1 21 = .ok (.aload_n 0, 1) := dzq_42 (by decide +kernel)
theorem D_107_22 : decode J_107.2.2.1 22 = .ok (.getfield 42, 3) := dzq_180 (by decide +kernel)
theorem D_107_25 : decode J_107.2.2.1 25 = .ok (.iload_n 1, 1) := dzq_27 (by decide +kernel)
theorem D_107_26 : decode J_107.2.2.1 26 = .ok (.bipush 7, 2) := dzq_16 (by decide +kernel)
theorem D_107_28 : decode J_107.2.2.1 28 = .ok (.imul, 1) := dzq_104 (by decide +kernel)
theorem D_107_29 : decode J_107.2.2.1 29 = .ok (.iload_n 2, 1) := dzq_28 (by decide +kernel)
theorem D_107_30 : decode J_107.2.2.1 30 = .ok (.iadd, 1) := dzq_96 (by decide +kernel)
theorem D_107_31 : decode J_107.2.2.1 31 = .ok (.iaload, 1) := dzq_46 (by decide +kernel)
theorem D_107_32 : decode J_107.2.2.1 32 = .ok (.iload_n 3, 1) := dzq_29 (by decide +kernel)
theorem D_107_33 : decode J_107.2.2.1 33 = .ok (.ishr, 1) := by decide +kernel
theorem D_107_34 : decode J_107.2.2.1 34 = .ok (.iconst 1, 1) := dzq_4 (by decide +kernel)
theorem D_107_35 : decode J_107.2.2.1 35 = .ok (.iand, 1) := by decide +kernel
theorem D_107_36 : decode J_107.2.2.1 36 = .ok (.ifCond .eq 7, 3) := dzq_153 (by decide +kernel)
theorem D_107_39 : decode J_107.2.2.1 39 = .ok (.iconst 1, 1) := dzq_4 (by decide +kernel)
theorem D_107_40 : decode J_107.2.2.1 40 = .ok (.goto 4, 3) := dzq_167 (by decide +kernel)
theorem D_107_43 : decode J_107.2.2.1 43 = .ok (.iconst 0, 1) := dzq_3 (by decide +kernel)
theorem D_107_44 : decode J_107.2.2.1 44 = .ok (.ireturn, 1) := dzq_172 (by decide +kernel)
def P_107_19 (X : mjX) (d C S kc ks : Nat) (k : mjH → mjU) : Prop := ∀  (hp : mjH) (q : Option Value × mjH), k  hp = some q → mjG X d C S J_107 (mjEq q) 19 [none, none, none, none] [] hp kc ks
def P_107_0 (X : mjX) (d C S kc ks : Nat) (k : Nat → Int32 → Int32 → Int32 → mjH → mjU) : Prop := ∀ (l0 : Nat) (l1 : Int32) (l2 : Int32) (l3 : Int32) (hp : mjH) (q : Option Value × mjH), k l0 l1 l2 l3 hp = some q → mjG X d C S J_107 (mjEq q) 0 [some (.ref l0), some (.int l1), some (.int l2), some (.int l3)] [] hp kc ks
noncomputable def b_107_19 (R : mjR)  (hp : mjH) : mjU := some (some (.int (0 : Int32)), hp)
theorem t_107_19 {X : mjX} {d C S kc ks : Nat} {R : mjR} (hR : mjC R d) (h1 : kc ≤ C) (h2 : ks ≤ S) : P_107_19 X (d + 1) C S kc ks (b_107_19 R) := by
  intro  hp q h
  unfold b_107_19 at h
  refine mjq_ic (v := (0 : Int32)) D_107_19 rfl ?_
  exact mjr_ireturn D_107_20 rfl rfl h1 h2 (Option.some.inj h)
noncomputable def b_107_0 (R : mjR) (l0 : Nat) (l1 : Int32) (l2 : Int32) (l3 : Int32) (hp : mjH) : mjU := (if l1 = (-1 : Int32) then (if l2 = (5 : Int32) then (if l3 = (5 : Int32) then some (some (.int (1 : Int32)), hp) else b_107_19 R hp) else b_107_19 R hp) else gR hp l0 7 11 (fun v1 => aI hp v1 ((l1 * (7 : Int32)) + l2) (fun v2 => (if ((v2 >>> (l3 &&& 31)) &&& (1 : Int32)) = 0 then some (some (.int (0 : Int32)), hp) else some (some (.int (1 : Int32)), hp)))))
theorem t_107_0 {X : mjX} {d C S kc ks : Nat} {R : mjR} (hR : mjC R d) (h1 : kc ≤ C) (h2 : ks ≤ S) : P_107_0 X (d + 1) C S kc ks (b_107_0 R) := by
  intro l0 l1 l2 l3 hp q h
  unfold b_107_0 at h
  refine mjr_iload_n (x := l1) D_107_0 rfl ?_
  refine mjq_ic (v := (-1 : Int32)) D_107_1 rfl ?_
  refine mjq_icmp_ne (tgt := 21) D_107_2 rfl h (fun h => ?_) (fun h => ?_)
  · refine mjr_aload_n (x := l0) D_107_21 rfl ?_
    refine mjq_gR D_107_22 fr_7_42 h (fun v1 h => ?_)
    refine mjr_iload_n (x := l1) D_107_25 rfl ?_
    refine mjq_bi (v := (7 : Int32)) D_107_26 rfl ?_
    refine mjr_imul D_107_28 ?_
    refine mjr_iload_n (x := l2) D_107_29 rfl ?_
    refine mjr_iadd D_107_30 ?_
    refine mjq_aI D_107_31 h (fun v2 h => ?_)
    refine mjr_iload_n (x := l3) D_107_32 rfl ?_
    refine mjr_ishr D_107_33 ?_
    refine mjq_ic (v := (1 : Int32)) D_107_34 rfl ?_
    refine mjr_iand D_107_35 ?_
    refine mjq_if_eq (tgt := 43) D_107_36 rfl h (fun h => ?_) (fun h => ?_)
    · refine mjq_ic (v := (0 : Int32)) D_107_43 rfl ?_
      exact mjr_ireturn D_107_44 rfl rfl h1 h2 (Option.some.inj h)
    · refine mjq_ic (v := (1 : Int32)) D_107_39 rfl ?_
      refine mjr_goto (tgt := 44) D_107_40 rfl ?_
      exact mjr_ireturn D_107_44 rfl rfl h1 h2 (Option.some.inj h)
  · refine mjr_iload_n (x := l2) D_107_5 rfl ?_
    refine mjq_ic (v := (5 : Int32)) D_107_6 rfl ?_
    refine mjq_icmp_ne (tgt := 19) D_107_7 rfl h (fun h => ?_) (fun h => ?_)
    · exact mjG.fg (lo' := [none, none, none, none]) True.intro ((t_107_19 hR h1 h2) _ _ h)
    · refine mjr_iload_n (x := l3) D_107_10 rfl ?_
      refine mjq_ic (v := (5 : Int32)) D_107_11 rfl ?_
      refine mjq_icmp_ne (tgt := 19) D_107_12 rfl h (fun h => ?_) (fun h => ?_)
      · exact mjG.fg (lo' := [none, none, none, none]) True.intro ((t_107_19 hR h1 h2) _ _ h)
      · refine mjq_ic (v := (1 : Int32)) D_107_15 rfl ?_
        refine mjr_goto (tgt := 20) D_107_16 rfl ?_
        exact mjr_ireturn D_107_20 rfl rfl h1 h2 (Option.some.inj h)
noncomputable def f_107 (R : mjR) (a0 : Nat) (a1 : Int32) (a2 : Int32) (a3 : Int32) (hp : mjH) : mjU := b_107_0 R a0 a1 a2 a3 hp
theorem c_107 {R : mjR} {d : Nat} (hR : mjC R d) {a0 : Nat} {a1 : Int32} {a2 : Int32} {a3 : Int32} {hp : mjH} {q : Option Value × mjH} (h : f_107 R a0 a1 a2 a3 hp = some q) : mjM (d + 1) 0 0 107 [.ref a0, .int a1, .int a2, .int a3] hp (mjEq q) :=
  mjM_of Ja_107 (Nat.le_of_ble_eq_true rfl) (mjG.fg (lo' := [some (.ref a0), some (.int a1), some (.int a2), some (.int a3)]) (And.intro rfl (And.intro rfl (And.intro rfl (And.intro rfl True.intro)))) ((t_107_0 hR (Nat.le_refl 0) (Nat.le_refl 0)) a0 a1 a2 a3 hp q h))
def J_108 : mjI := (⟨"OwnerHeap$Program", "classAbove", "(I)I"⟩, 7, prog_9_method_10_code, 2, (some .int), 1, false)
theorem Ja_108 : mjMt 108 = some J_108 := by rfl
theorem D_108_0 : decode J_108.2.2.1 0 = .ok (.aload_n 0, 1) := dzq_42 (by decide +kernel)
theorem D_108_1 : decode J_108.2.2.1 1 = .ok (.getfield 24, 3) := dzq_180 (by decide +kernel)
theorem D_108_4 : decode J_108.2.2.1 4 = .ok (.iload_n 1, 1) := dzq_27 (by decide +kernel)
theorem D_108_5 : decode J_108.2.2.1 5 = .ok (.iaload, 1) := dzq_46 (by decide +kernel)
theorem D_108_6 : decode J_108.2.2.1 6 = .ok (.ifCond .ge 7, 3) := dzq_156 (by decide +kernel)
theorem D_108_9 : decode J_108.2.2.1 9 = .ok (.iconst (-1), 1) := dzq_2 (by decide +kernel)
theorem D_108_10 : decode J_108.2.2.1 10 = .ok (.goto 12, 3) := dzq_167 (by decide +kernel)
theorem D_108_13 : decode J_108.2.2.1 13 = .ok (.aload_n 0, 1) := dzq_42 (by decide +kernel)
theorem D_108_14 : decode J_108.2.2.1 14 = .ok (.getfield 24, 3) := dzq_180 (by decide +kernel)
theorem D_108_17 : decode J_108.2.2.1 17 = .ok (.iload_n 1, 1) := dzq_27 (by decide +kernel)
theorem D_108_18 : decode J_108.2.2.1 18 = .ok (.iaload, 1) := dzq_46 (by decide +kernel)
theorem D_108_19 : decode J_108.2.2.1 19 = .ok (.invokestatic 97, 3) := dzq_184 (by decide +kernel)
theorem D_108_22 : decode J_108.2.2.1 22 = .ok (.ireturn, 1) := dzq_172 (by decide +kernel)
def P_108_0 (X : mjX) (d C S kc ks : Nat) (k : Nat → Int32 → mjH → mjU) : Prop := ∀ (l0 : Nat) (l1 : Int32) (hp : mjH) (q : Option Value × mjH), k l0 l1 hp = some q → mjG X d C S J_108 (mjEq q) 0 [some (.ref l0), some (.int l1)] [] hp kc ks
noncomputable def b_108_0 (R : mjR) (l0 : Nat) (l1 : Int32) (hp : mjH) : mjU := gR hp l0 7 5 (fun v1 => aI hp v1 l1 (fun v2 => (if 0 ≤ v2 then gR hp l0 7 5 (fun v3 => aI hp v3 l1 (fun v4 => bI (R 105 [.int v4] hp) (fun v5 hp6 => some (some (.int v5), hp6)))) else some (some (.int (-1 : Int32)), hp))))
theorem t_108_0 {X : mjX} {d C S kc ks : Nat} {R : mjR} (hR : mjC R d) (h1 : kc ≤ C) (h2 : ks ≤ S) : P_108_0 X (d + 1) C S kc ks (b_108_0 R) := by
  intro l0 l1 hp q h
  unfold b_108_0 at h
  refine mjr_aload_n (x := l0) D_108_0 rfl ?_
  refine mjq_gR D_108_1 fr_7_24 h (fun v1 h => ?_)
  refine mjr_iload_n (x := l1) D_108_4 rfl ?_
  refine mjq_aI D_108_5 h (fun v2 h => ?_)
  refine mjq_if_ge (tgt := 13) D_108_6 rfl h (fun h => ?_) (fun h => ?_)
  · refine mjr_aload_n (x := l0) D_108_13 rfl ?_
    refine mjq_gR D_108_14 fr_7_24 h (fun v3 h => ?_)
    refine mjr_iload_n (x := l1) D_108_17 rfl ?_
    refine mjq_aI D_108_18 h (fun v4 h => ?_)
    refine mjq_scI (As := [.int v4]) (rest := []) D_108_19 mr_7_97 V_105 rfl rfl rfl hR (Nat.le_refl _) h1 h2 h (fun v5 hp6 h => ?_)
    exact mjq_ret D_108_22 rfl h1 h2 h
  · refine mjq_ic (v := (-1 : Int32)) D_108_9 rfl ?_
    refine mjr_goto (tgt := 22) D_108_10 rfl ?_
    exact mjq_ret D_108_22 rfl h1 h2 h
noncomputable def f_108 (R : mjR) (a0 : Nat) (a1 : Int32) (hp : mjH) : mjU := b_108_0 R a0 a1 hp
theorem c_108 {R : mjR} {d : Nat} (hR : mjC R d) {a0 : Nat} {a1 : Int32} {hp : mjH} {q : Option Value × mjH} (h : f_108 R a0 a1 hp = some q) : mjM (d + 1) 0 0 108 [.ref a0, .int a1] hp (mjEq q) :=
  mjM_of Ja_108 (Nat.le_of_ble_eq_true rfl) (mjG.fg (lo' := [some (.ref a0), some (.int a1)]) (And.intro rfl (And.intro rfl True.intro)) ((t_108_0 hR (Nat.le_refl 0) (Nat.le_refl 0)) a0 a1 hp q h))
def J_109 : mjI := (⟨"OwnerHeap$Program", "setIn", "(IIII)V"⟩, 7, prog_9_method_18_code, 5, none, 4, false)
theorem Ja_109 : mjMt 109 = some J_109 := by rfl
theorem D_109_0 : decode J_109.2.2.1 0 = .ok (.iload_n 3, 1) := dzq_29 (by decide +kernel)
theorem D_109_1 : decode J_109.2.2.1 1 = .ok (.iconst (-1), 1) := dzq_2 (by decide +kernel)
theorem D_109_2 : decode J_109.2.2.1 2 = .ok (.if_icmp .eq 27, 3) := dzq_159 (by decide +kernel)
theorem D_109_5 : decode J_109.2.2.1 5 = .ok (.iload 4, 2) := dzq_21 (by decide +kernel)
theorem D_109_7 : decode J_109.2.2.1 7 = .ok (.iconst (-1), 1) := dzq_2 (by decide +kernel)
theorem D_109_8 : decode J_109.2.2.1 8 = .ok (.if_icmp .eq 21, 3) := dzq_159 (by decide +kernel)
theorem D_109_11 : decode J_109.2.2.1 11 = .ok (.aload_n 0, 1) := dzq_42 (by decide +kernel)
theorem D_109_12 : decode J_109.2.2.1 12 = .ok (.getfield 21, 3) := dzq_180 (by decide +kernel)
theorem D_109_15 : decode J_109.2.2.1 15 = .ok (.iload_n 1, 1) := dzq_27 (by decide +kernel)
theorem D_109_16 : decode J_109.2.2.1 16 = .ok (.bipush 8, 2) := dzq_16 (by decide +kernel)
theorem D_109_18 : decode J_109.2.2.1 18 = .ok (.imul, 1) := dzq_104 (by decide +kernel)
theorem D_109_19 : decode J_109.2.2.1 19 = .ok (.iload_n 2, 1) := dzq_28 (by decide +kernel)
theorem D_109_20 : decode J_109.2.2.1 20 = .ok (.iadd, 1) := dzq_96 (by decide +kernel)
theorem D_109_21 : decode J_109.2.2.1 21 = .ok (.iload_n 3, 1) := dzq_29 (by decide +kernel)
theorem D_109_22 : decode J_109.2.2.1 22 = .ok (.bipush 7, 2) := dzq_16 (by decide +kernel)
theorem D_109_24 : decode J_109.2.2.1 24 = .ok (.imul, 1) := dzq_104 (by decide +kernel)
theorem D_109_25 : decode J_109.2.2.1 25 = .ok (.iload 4, 2) := dzq_21 (by decide +kernel)
theorem D_109_27 : decode J_109.2.2.1 27 = .ok (.iadd, 1) := dzq_96 (by decide +kernel)
theorem D_109_28 : decode J_109.2.2.1 28 = .ok (.iastore, 1) := dzq_79 (by decide +kernel)
theorem D_109_29 : decode J_109.2.2.1 29 = .ok (.return_, 1) := dzq_177 (by decide +kernel)
def P_109_0 (X : mjX) (d C S kc ks : Nat) (k : Nat → Int32 → Int32 → Int32 → Int32 → mjH → mjU) : Prop := ∀ (l0 : Nat) (l1 : Int32) (l2 : Int32) (l3 : Int32) (l4 : Int32) (hp : mjH) (q : Option Value × mjH), k l0 l1 l2 l3 l4 hp = some q → mjG X d C S J_109 (mjEq q) 0 [some (.ref l0), some (.int l1), some (.int l2), some (.int l3), some (.int l4)] [] hp kc ks
noncomputable def b_109_0 (R : mjR) (l0 : Nat) (l1 : Int32) (l2 : Int32) (l3 : Int32) (l4 : Int32) (hp : mjH) : mjU := (if l3 = (-1 : Int32) then some (none, hp) else (if l4 = (-1 : Int32) then some (none, hp) else gR hp l0 7 4 (fun v1 => sI hp v1 ((l1 * (8 : Int32)) + l2) ((l3 * (7 : Int32)) + l4) (fun hp2 => some (none, hp2)))))
theorem t_109_0 {X : mjX} {d C S kc ks : Nat} {R : mjR} (hR : mjC R d) (h1 : kc ≤ C) (h2 : ks ≤ S) : P_109_0 X (d + 1) C S kc ks (b_109_0 R) := by
  intro l0 l1 l2 l3 l4 hp q h
  unfold b_109_0 at h
  refine mjr_iload_n (x := l3) D_109_0 rfl ?_
  refine mjq_ic (v := (-1 : Int32)) D_109_1 rfl ?_
  refine mjq_icmp_eq (tgt := 29) D_109_2 rfl h (fun h => ?_) (fun h => ?_)
  · exact mjq_nret D_109_29 rfl h1 h2 h
  · refine mjr_iload (x := l4) D_109_5 rfl ?_
    refine mjq_ic (v := (-1 : Int32)) D_109_7 rfl ?_
    refine mjq_icmp_eq (tgt := 29) D_109_8 rfl h (fun h => ?_) (fun h => ?_)
    · exact mjq_nret D_109_29 rfl h1 h2 h
    · refine mjr_aload_n (x := l0) D_109_11 rfl ?_
      refine mjq_gR D_109_12 fr_7_21 h (fun v1 h => ?_)
      refine mjr_iload_n (x := l1) D_109_15 rfl ?_
      refine mjq_bi (v := (8 : Int32)) D_109_16 rfl ?_
      refine mjr_imul D_109_18 ?_
      refine mjr_iload_n (x := l2) D_109_19 rfl ?_
      refine mjr_iadd D_109_20 ?_
      refine mjr_iload_n (x := l3) D_109_21 rfl ?_
      refine mjq_bi (v := (7 : Int32)) D_109_22 rfl ?_
      refine mjr_imul D_109_24 ?_
      refine mjr_iload (x := l4) D_109_25 rfl ?_
      refine mjr_iadd D_109_27 ?_
      refine mjq_sI D_109_28 h (fun hp2 h => ?_)
      exact mjq_nret D_109_29 rfl h1 h2 h
noncomputable def f_109 (R : mjR) (a0 : Nat) (a1 : Int32) (a2 : Int32) (a3 : Int32) (a4 : Int32) (hp : mjH) : mjU := b_109_0 R a0 a1 a2 a3 a4 hp
theorem c_109 {R : mjR} {d : Nat} (hR : mjC R d) {a0 : Nat} {a1 : Int32} {a2 : Int32} {a3 : Int32} {a4 : Int32} {hp : mjH} {q : Option Value × mjH} (h : f_109 R a0 a1 a2 a3 a4 hp = some q) : mjM (d + 1) 0 0 109 [.ref a0, .int a1, .int a2, .int a3, .int a4] hp (mjEq q) :=
  mjM_of Ja_109 (Nat.le_of_ble_eq_true rfl) (mjG.fg (lo' := [some (.ref a0), some (.int a1), some (.int a2), some (.int a3), some (.int a4)]) (And.intro rfl (And.intro rfl (And.intro rfl (And.intro rfl (And.intro rfl True.intro))))) ((t_109_0 hR (Nat.le_refl 0) (Nat.le_refl 0)) a0 a1 a2 a3 a4 hp q h))
def J_110 : mjI := (⟨"OwnerHeap$Program", "fillViews", "()V"⟩, 7, prog_9_method_12_code, 5, none, 0, false)
theorem Ja_110 : mjMt 110 = some J_110 := by rfl
theorem D_110_0 : decode J_110.2.2.1 0 = .ok (.iconst 0, 1) := dzq_3 (by decide +kernel)
theorem D_110_1 : decode J_110.2.2.1 1 = .ok (.istore_n 1, 1) := dzq_60 (by decide +kernel)
theorem D_110_2 : decode J_110.2.2.1 2 = .ok (.iload_n 1, 1) := dzq_27 (by decide +kernel)
theorem D_110_3 : decode J_110.2.2.1 3 = .ok (.aload_n 0, 1) := dzq_42 (by decide +kernel)
theorem D_110_4 : decode J_110.2.2.1 4 = .ok (.getfield 66, 3) := dzq_180 (by decide +kernel)
theorem D_110_7 : decode J_110.2.2.1 7 = .ok (.if_icmp .ge 79, 3) := dzq_162 (by decide +kernel)
theorem D_110_10 : decode J_110.2.2.1 10 = .ok (.aload_n 0, 1) := dzq_42 (by decide +kernel)
theorem D_110_11 : decode J_110.2.2.1 11 = .ok (.iload_n 1, 1) := dzq_27 (by decide +kernel)
theorem D_110_12 : decode J_110.2.2.1 12 = .ok (.invokevirtual 100, 3) := dzq_182 (by decide +kernel)
theorem D_110_15 : decode J_110.2.2.1 15 = .ok (.istore_n 2, 1) := dzq_61 (by decide +kernel)
theorem D_110_16 : decode J_110.2.2.1 16 = .ok (.iconst 0, 1) := dzq_3 (by decide +kernel)
theorem D_110_17 : decode J_110.2.2.1 17 = .ok (.istore_n 3, 1) := dzq_62 (by decide +kernel)
theorem D_110_18 : decode J_110.2.2.1 18 = .ok (.iload_n 3, 1) := dzq_29 (by decide +kernel)
theorem D_110_19 : decode J_110.2.2.1 19 = .ok (.bipush 16, 2) := dzq_16 (by decide +kernel)
theorem D_110_21 : decode J_110.2.2.1 21 = .ok (.if_icmp .ge 59, 3) := dzq_162 (by decide +kernel)
theorem D_110_24 : decode J_110.2.2.1 24 = .ok (.iload_n 2, 1) := dzq_28 (by decide +kernel)
theorem D_110_25 : decode J_110.2.2.1 25 = .ok (.ifCond .lt 55, 3) := dzq_155 (by decide +kernel)
theorem D_110_28 : decode J_110.2.2.1 28 = .ok (.iload_n 2, 1) := dzq_28 (by decide +kernel)
theorem D_110_29 : decode J_110.2.2.1 29 = .ok (.invokestatic 97, 3) := dzq_184 (by decide +kernel)
theorem D_110_32 : decode J_110.2.2.1 32 = .ok (.istore 4, 2) := dzq_54 (by decide +kernel)
theorem D_110_34 : decode J_110.2.2.1 34 = .ok (.aload_n 0, 1) := dzq_42 (by decide +kernel)
theorem D_110_35 : decode J_110.2.2.1 35 = .ok (.getfield 45, 3) := dzq_180 (by decide +kernel)
theorem D_110_38 : decode J_110.2.2.1 38 = .ok (.iload_n 1, 1) := dzq_27 (by decide +kernel)
theorem D_110_39 : decode J_110.2.2.1 39 = .ok (.bipush 16, 2) := dzq_16 (by decide +kernel)
theorem D_110_41 : decode J_110.2.2.1 41 = .ok (.imul, 1) := dzq_104 (by decide +kernel)
theorem D_110_42 : decode J_110.2.2.1 42 = .ok (.iload 4, 2) := dzq_21 (by decide +kernel)
theorem D_110_44 : decode J_110.2.2.1 44 = .ok (.iadd, 1) := dzq_96 (by decide +kernel)
theorem D_110_45 : decode J_110.2.2.1 45 = .ok (.iload_n 2, 1) := dzq_28 (by decide +kernel)
theorem D_110_46 : decode J_110.2.2.1 46 = .ok (.iastore, 1) := dzq_79 (by decide +kernel)
theorem D_110_47 : decode J_110.2.2.1 47 = .ok (.aload_n 0, 1) := dzq_42 (by decide +kernel)
theorem D_110_48 : decode J_110.2.2.1 48 = .ok (.getfield 24, 3) := dzq_180 (by decide +kernel)
theorem D_110_51 : decode J_110.2.2.1 51 = .ok (.iload 4, 2) := dzq_21 (by decide +kernel)
theorem D_110_53 : decode J_110.2.2.1 53 = .ok (.iaload, 1) := dzq_46 (by decide +kernel)
theorem D_110_54 : decode J_110.2.2.1 54 = .ok (.ifCond .ge 7, 3) := dzq_156 (by decide +kernel)
theorem D_110_57 : decode J_110.2.2.1 57 = .ok (.iconst (-1), 1) := dzq_2 (by decide +kernel)
theorem D_110_58 : decode J_110.2.2.1 58 = .ok (.goto 15, 3) := dzq_167 (by decide +kernel)
theorem D_110_61 : decode J_110.2.2.1 61 = .ok (.aload_n 0, 1) := dzq_42 (by decide +kernel)
theorem D_110_62 : decode J_110.2.2.1 62 = .ok (.aload_n 0, 1) := dzq_42 (by decide +kernel)
theorem D_110_63 : decode J_110.2.2.1 63 = .ok (.getfield 24, 3) := dzq_180 (by decide +kernel)
theorem D_110_66 : decode J_110.2.2.1 66 = .ok (.iload 4, 2) := dzq_21 (by decide +kernel)
theorem D_110_68 : decode J_110.2.2.1 68 = .ok (.iaload, 1) := dzq_46 (by decide +kernel)
theorem D_110_69 : decode J_110.2.2.1 69 = .ok (.iload_n 2, 1) := dzq_28 (by decide +kernel)
theorem D_110_70 : decode J_110.2.2.1 70 = .ok (.invokevirtual 103, 3) := dzq_182 (by decide +kernel)
theorem D_110_73 : decode J_110.2.2.1 73 = .ok (.istore_n 2, 1) := dzq_61 (by decide +kernel)
theorem D_110_74 : decode J_110.2.2.1 74 = .ok (.iinc 3 1, 3) := dzq_132 (by decide +kernel)
theorem D_110_77 : decode J_110.2.2.1 77 = .ok (.goto (-59), 3) := dzq_167 (by decide +kernel)
theorem D_110_80 : decode J_110.2.2.1 80 = .ok (.iinc 1 1, 3) := dzq_132 (by decide +kernel)
theorem D_110_83 : decode J_110.2.2.1 83 = .ok (.goto (-81), 3) := dzq_167 (by decide +kernel)
theorem D_110_86 : decode J_110.2.2.1 86 = .ok (.return_, 1) := dzq_177 (by decide +kernel)
def P_110_80 (X : mjX) (d C S kc ks : Nat) (k : Nat → Int32 → mjH → mjU) : Prop := ∀ (l0 : Nat) (l1 : Int32) (hp : mjH) (q : Option Value × mjH), k l0 l1 hp = some q → mjG X d C S J_110 (mjEq q) 80 [some (.ref l0), some (.int l1), none, none, none] [] hp kc ks
def P_110_73 (X : mjX) (d C S kc ks : Nat) (k : Nat → Int32 → Int32 → Int32 → mjH → mjU) : Prop := ∀ (l0 : Nat) (l1 : Int32) (l3 : Int32) (s0 : Int32) (hp : mjH) (q : Option Value × mjH), k l0 l1 l3 s0 hp = some q → mjG X d C S J_110 (mjEq q) 73 [some (.ref l0), some (.int l1), none, some (.int l3), none] [.int s0] hp kc ks
def P_110_18 (X : mjX) (d C S kc ks : Nat) (k : Nat → Int32 → Int32 → Int32 → mjH → mjU) : Prop := ∀ (l0 : Nat) (l1 : Int32) (l2 : Int32) (l3 : Int32) (hp : mjH) (q : Option Value × mjH), k l0 l1 l2 l3 hp = some q → mjG X d C S J_110 (mjEq q) 18 [some (.ref l0), some (.int l1), some (.int l2), some (.int l3), none] [] hp kc ks
def P_110_2 (X : mjX) (d C S kc ks : Nat) (k : Nat → Int32 → mjH → mjU) : Prop := ∀ (l0 : Nat) (l1 : Int32) (hp : mjH) (q : Option Value × mjH), k l0 l1 hp = some q → mjG X d C S J_110 (mjEq q) 2 [some (.ref l0), some (.int l1), none, none, none] [] hp kc ks
def P_110_0 (X : mjX) (d C S kc ks : Nat) (k : Nat → mjH → mjU) : Prop := ∀ (l0 : Nat) (hp : mjH) (q : Option Value × mjH), k l0 hp = some q → mjG X d C S J_110 (mjEq q) 0 [some (.ref l0), none, none, none, none] [] hp kc ks
noncomputable def b_110_80 (R : mjR) (k2 : Nat → Int32 → mjH → mjU) (l0 : Nat) (l1 : Int32) (hp : mjH) : mjU := k2 l0 (l1 + (1 : Int32)) hp
theorem t_110_80 {X : mjX} {d C S kc ks : Nat} {R : mjR} (hR : mjC R d) (h1 : kc ≤ C) (h2 : ks ≤ S) {k2 : Nat → Int32 → mjH → mjU} (hk2 : P_110_2 X (d + 1) C S kc ks k2) : P_110_80 X (d + 1) C S kc ks (b_110_80 R k2) := by
  intro l0 l1 hp q h
  unfold b_110_80 at h
  refine mjq_iinc (x := l1) (c := (1 : Int32)) (lo' := [some (.ref l0), some (.int (l1 + (1 : Int32))), none, none, none]) D_110_80 rfl (Nat.le_of_ble_eq_true rfl) rfl rfl ?_
  refine mjr_goto (tgt := 2) D_110_83 rfl ?_
  exact hk2 _ _ _ _ h
noncomputable def b_110_73 (R : mjR) (k2 : Nat → Int32 → mjH → mjU) (k18 : Nat → Int32 → Int32 → Int32 → mjH → mjU) (l0 : Nat) (l1 : Int32) (l3 : Int32) (s0 : Int32) (hp : mjH) : mjU := k18 l0 l1 s0 (l3 + (1 : Int32)) hp
theorem t_110_73 {X : mjX} {d C S kc ks : Nat} {R : mjR} (hR : mjC R d) (h1 : kc ≤ C) (h2 : ks ≤ S) {k2 : Nat → Int32 → mjH → mjU} (hk2 : P_110_2 X (d + 1) C S kc ks k2) {k18 : Nat → Int32 → Int32 → Int32 → mjH → mjU} (hk18 : P_110_18 X (d + 1) C S kc ks k18) : P_110_73 X (d + 1) C S kc ks (b_110_73 R k2 k18) := by
  intro l0 l1 l3 s0 hp q h
  unfold b_110_73 at h
  refine mjq_istore_n (lo' := [some (.ref l0), some (.int l1), some (.int s0), some (.int l3), none]) D_110_73 (Nat.le_of_ble_eq_true rfl) rfl ?_
  refine mjq_iinc (x := l3) (c := (1 : Int32)) (lo' := [some (.ref l0), some (.int l1), some (.int s0), some (.int (l3 + (1 : Int32))), none]) D_110_74 rfl (Nat.le_of_ble_eq_true rfl) rfl rfl ?_
  refine mjr_goto (tgt := 18) D_110_77 rfl ?_
  exact hk18 _ _ _ _ _ _ h
noncomputable def b_110_18 (R : mjR) (k2 : Nat → Int32 → mjH → mjU) (k18 : Nat → Int32 → Int32 → Int32 → mjH → mjU) (l0 : Nat) (l1 : Int32) (l2 : Int32) (l3 : Int32) (hp : mjH) : mjU := (if (16 : Int32) ≤ l3 then b_110_80 R k2 l0 l1 hp else (if l2 < 0 then b_110_80 R k2 l0 l1 hp else bI (R 105 [.int l2] hp) (fun v1 hp2 => gR hp2 l0 7 12 (fun v3 => sI hp2 v3 ((l1 * (16 : Int32)) + v1) l2 (fun hp4 => gR hp4 l0 7 5 (fun v5 => aI hp4 v5 v1 (fun v6 => (if 0 ≤ v6 then gR hp4 l0 7 5 (fun v7 => aI hp4 v7 v1 (fun v8 => rV hp4 l0 7 (bI (R 112 [.ref l0, .int v8, .int l2] hp4) (fun v9 hp10 => b_110_73 R k2 k18 l0 l1 l3 v9 hp10)))) else b_110_73 R k2 k18 l0 l1 l3 (-1 : Int32) hp4))))))))
theorem t_110_18 {X : mjX} {d C S kc ks : Nat} {R : mjR} (hR : mjC R d) (h1 : kc ≤ C) (h2 : ks ≤ S) {k2 : Nat → Int32 → mjH → mjU} (hk2 : P_110_2 X (d + 1) C S kc ks k2) {k18 : Nat → Int32 → Int32 → Int32 → mjH → mjU} (hk18 : P_110_18 X (d + 1) C S kc ks k18) : P_110_18 X (d + 1) C S kc ks (b_110_18 R k2 k18) := by
  intro l0 l1 l2 l3 hp q h
  unfold b_110_18 at h
  refine mjr_iload_n (x := l3) D_110_18 rfl ?_
  refine mjq_bi (v := (16 : Int32)) D_110_19 rfl ?_
  refine mjq_icmp_ge (tgt := 80) D_110_21 rfl h (fun h => ?_) (fun h => ?_)
  · exact mjG.fg (lo' := [some (.ref l0), some (.int l1), none, none, none]) (And.intro rfl (And.intro rfl True.intro)) ((t_110_80 hR h1 h2 hk2) _ _ _ _ h)
  · refine mjr_iload_n (x := l2) D_110_24 rfl ?_
    refine mjq_if_lt (tgt := 80) D_110_25 rfl h (fun h => ?_) (fun h => ?_)
    · exact mjG.fg (lo' := [some (.ref l0), some (.int l1), none, none, none]) (And.intro rfl (And.intro rfl True.intro)) ((t_110_80 hR h1 h2 hk2) _ _ _ _ h)
    · refine mjr_iload_n (x := l2) D_110_28 rfl ?_
      refine mjq_scI (As := [.int l2]) (rest := []) D_110_29 mr_7_97 V_105 rfl rfl rfl hR (Nat.le_refl _) h1 h2 h (fun v1 hp2 h => ?_)
      refine mjq_istore (lo' := [some (.ref l0), some (.int l1), some (.int l2), some (.int l3), some (.int v1)]) D_110_32 (Nat.le_of_ble_eq_true rfl) rfl ?_
      refine mjr_aload_n (x := l0) D_110_34 rfl ?_
      refine mjq_gR D_110_35 fr_7_45 h (fun v3 h => ?_)
      refine mjr_iload_n (x := l1) D_110_38 rfl ?_
      refine mjq_bi (v := (16 : Int32)) D_110_39 rfl ?_
      refine mjr_imul D_110_41 ?_
      refine mjr_iload (x := v1) D_110_42 rfl ?_
      refine mjr_iadd D_110_44 ?_
      refine mjr_iload_n (x := l2) D_110_45 rfl ?_
      refine mjq_sI D_110_46 h (fun hp4 h => ?_)
      refine mjr_aload_n (x := l0) D_110_47 rfl ?_
      refine mjq_gR D_110_48 fr_7_24 h (fun v5 h => ?_)
      refine mjr_iload (x := v1) D_110_51 rfl ?_
      refine mjq_aI D_110_53 h (fun v6 h => ?_)
      refine mjq_if_ge (tgt := 61) D_110_54 rfl h (fun h => ?_) (fun h => ?_)
      · refine mjr_aload_n (x := l0) D_110_61 rfl ?_
        refine mjr_aload_n (x := l0) D_110_62 rfl ?_
        refine mjq_gR D_110_63 fr_7_24 h (fun v7 h => ?_)
        refine mjr_iload (x := v1) D_110_66 rfl ?_
        refine mjq_aI D_110_68 h (fun v8 h => ?_)
        refine mjr_iload_n (x := l2) D_110_69 rfl ?_
        refine mjq_vI (As := [.int v8, .int l2]) (rest := []) D_110_70 mr_7_103 V_112 rfl rfl rfl hR (Nat.le_refl _) h1 h2 h (fun v9 hp10 h => ?_)
        exact mjG.fg (lo' := [some (.ref l0), some (.int l1), none, some (.int l3), none]) (And.intro rfl (And.intro rfl (And.intro rfl True.intro))) ((t_110_73 hR h1 h2 hk2 hk18) _ _ _ _ _ _ h)
      · refine mjq_ic (v := (-1 : Int32)) D_110_57 rfl ?_
        refine mjr_goto (tgt := 73) D_110_58 rfl ?_
        exact mjG.fg (lo' := [some (.ref l0), some (.int l1), none, some (.int l3), none]) (And.intro rfl (And.intro rfl (And.intro rfl True.intro))) ((t_110_73 hR h1 h2 hk2 hk18) _ _ _ _ _ _ h)
noncomputable def L_110_18 (R : mjR) (k2 : Nat → Int32 → mjH → mjU) (n : Nat) : Nat → Int32 → Int32 → Int32 → mjH → mjU := Nat.rec (motive := fun _ => Nat → Int32 → Int32 → Int32 → mjH → mjU) (fun _ _ _ _ _ => none) (fun _ self => b_110_18 R k2 self) n
theorem T_110_18 {X : mjX} {d C S kc ks : Nat} {R : mjR} (hR : mjC R d) (h1 : kc ≤ C) (h2 : ks ≤ S) {k2 : Nat → Int32 → mjH → mjU} (hk2 : P_110_2 X (d + 1) C S kc ks k2) (n : Nat) : P_110_18 X (d + 1) C S kc ks (L_110_18 R k2 n) := by
  induction n with
  | zero => intro _ _ _ _ _ _ h; exact mj_no h
  | succ n ih => exact t_110_18 hR h1 h2 hk2 ih
noncomputable def b_110_2 (R : mjR) (k2 : Nat → Int32 → mjH → mjU) (l0 : Nat) (l1 : Int32) (hp : mjH) : mjU := gI hp l0 7 0 (fun v1 => (if v1 ≤ l1 then some (none, hp) else rV hp l0 7 (bI (R 111 [.ref l0, .int l1] hp) (fun v2 hp3 => L_110_18 R k2 mjN l0 l1 v2 (0 : Int32) hp3))))
theorem t_110_2 {X : mjX} {d C S kc ks : Nat} {R : mjR} (hR : mjC R d) (h1 : kc ≤ C) (h2 : ks ≤ S) {k2 : Nat → Int32 → mjH → mjU} (hk2 : P_110_2 X (d + 1) C S kc ks k2) : P_110_2 X (d + 1) C S kc ks (b_110_2 R k2) := by
  intro l0 l1 hp q h
  unfold b_110_2 at h
  refine mjr_iload_n (x := l1) D_110_2 rfl ?_
  refine mjr_aload_n (x := l0) D_110_3 rfl ?_
  refine mjq_gI D_110_4 fr_7_66 h (fun v1 h => ?_)
  refine mjq_icmp_ge (tgt := 86) D_110_7 rfl h (fun h => ?_) (fun h => ?_)
  · exact mjq_nret D_110_86 rfl h1 h2 h
  · refine mjr_aload_n (x := l0) D_110_10 rfl ?_
    refine mjr_iload_n (x := l1) D_110_11 rfl ?_
    refine mjq_vI (As := [.int l1]) (rest := []) D_110_12 mr_7_100 V_111 rfl rfl rfl hR (Nat.le_refl _) h1 h2 h (fun v2 hp3 h => ?_)
    refine mjq_istore_n (lo' := [some (.ref l0), some (.int l1), some (.int v2), none, none]) D_110_15 (Nat.le_of_ble_eq_true rfl) rfl ?_
    refine mjq_ic (v := (0 : Int32)) D_110_16 rfl ?_
    refine mjq_istore_n (lo' := [some (.ref l0), some (.int l1), some (.int v2), some (.int (0 : Int32)), none]) D_110_17 (Nat.le_of_ble_eq_true rfl) rfl ?_
    exact (T_110_18 hR h1 h2 hk2 mjN) _ _ _ _ _ _ h
noncomputable def L_110_2 (R : mjR) (n : Nat) : Nat → Int32 → mjH → mjU := Nat.rec (motive := fun _ => Nat → Int32 → mjH → mjU) (fun _ _ _ => none) (fun _ self => b_110_2 R self) n
theorem T_110_2 {X : mjX} {d C S kc ks : Nat} {R : mjR} (hR : mjC R d) (h1 : kc ≤ C) (h2 : ks ≤ S) (n : Nat) : P_110_2 X (d + 1) C S kc ks (L_110_2 R n) := by
  induction n with
  | zero => intro _ _ _ _ h; exact mj_no h
  | succ n ih => exact t_110_2 hR h1 h2 ih
noncomputable def b_110_0 (R : mjR) (l0 : Nat) (hp : mjH) : mjU := L_110_2 R mjN l0 (0 : Int32) hp
theorem t_110_0 {X : mjX} {d C S kc ks : Nat} {R : mjR} (hR : mjC R d) (h1 : kc ≤ C) (h2 : ks ≤ S) : P_110_0 X (d + 1) C S kc ks (b_110_0 R) := by
  intro l0 hp q h
  unfold b_110_0 at h
  refine mjq_ic (v := (0 : Int32)) D_110_0 rfl ?_
  refine mjq_istore_n (lo' := [some (.ref l0), some (.int (0 : Int32)), none, none, none]) D_110_1 (Nat.le_of_ble_eq_true rfl) rfl ?_
  exact (T_110_2 hR h1 h2 mjN) _ _ _ _ h
noncomputable def f_110 (R : mjR) (a0 : Nat) (hp : mjH) : mjU := b_110_0 R a0 hp
theorem c_110 {R : mjR} {d : Nat} (hR : mjC R d) {a0 : Nat} {hp : mjH} {q : Option Value × mjH} (h : f_110 R a0 hp = some q) : mjM (d + 1) 0 0 110 [.ref a0] hp (mjEq q) :=
  mjM_of Ja_110 (Nat.le_of_ble_eq_true rfl) (mjG.fg (lo' := [some (.ref a0), none, none, none, none]) (And.intro rfl True.intro) ((t_110_0 hR (Nat.le_refl 0) (Nat.le_refl 0)) a0 hp q h))
def J_111 : mjI := (⟨"OwnerHeap$Program", "ownKind", "(I)I"⟩, 7, prog_9_method_8_code, 4, (some .int), 1, false)
theorem Ja_111 : mjMt 111 = some J_111 := by rfl
theorem D_111_0 : decode J_111.2.2.1 0 = .ok (.iload_n 1, 1) := dzq_27 (by decide +kernel)
theorem D_111_1 : decode J_111.2.2.1 1 = .ok (.invokestatic 89, 3) := dzq_184 (by decide +kernel)
theorem D_111_4 : decode J_111.2.2.1 4 = .ok (.istore_n 2, 1) := dzq_61 (by decide +kernel)
theorem D_111_5 : decode J_111.2.2.1 5 = .ok (.iconst 0, 1) := dzq_3 (by decide +kernel)
theorem D_111_6 : decode J_111.2.2.1 6 = .ok (.istore_n 3, 1) := dzq_62 (by decide +kernel)
theorem D_111_7 : decode J_111.2.2.1 7 = .ok (.iload_n 3, 1) := dzq_29 (by decide +kernel)
theorem D_111_8 : decode J_111.2.2.1 8 = .ok (.aload_n 0, 1) := dzq_42 (by decide +kernel)
theorem D_111_9 : decode J_111.2.2.1 9 = .ok (.getfield 11, 3) := dzq_180 (by decide +kernel)
theorem D_111_12 : decode J_111.2.2.1 12 = .ok (.iload_n 1, 1) := dzq_27 (by decide +kernel)
theorem D_111_13 : decode J_111.2.2.1 13 = .ok (.iaload, 1) := dzq_46 (by decide +kernel)
theorem D_111_14 : decode J_111.2.2.1 14 = .ok (.if_icmp .ge 16, 3) := dzq_162 (by decide +kernel)
theorem D_111_17 : decode J_111.2.2.1 17 = .ok (.iload_n 2, 1) := dzq_28 (by decide +kernel)
theorem D_111_18 : decode J_111.2.2.1 18 = .ok (.iload_n 3, 1) := dzq_29 (by decide +kernel)
theorem D_111_19 : decode J_111.2.2.1 19 = .ok (.iload_n 3, 1) := dzq_29 (by decide +kernel)
theorem D_111_20 : decode J_111.2.2.1 20 = .ok (.invokestatic 93, 3) := dzq_184 (by decide +kernel)
theorem D_111_23 : decode J_111.2.2.1 23 = .ok (.istore_n 2, 1) := dzq_61 (by decide +kernel)
theorem D_111_24 : decode J_111.2.2.1 24 = .ok (.iinc 3 1, 3) := dzq_132 (by decide +kernel)
theorem D_111_27 : decode J_111.2.2.1 27 = .ok (.goto (-20), 3) := dzq_167 (by decide +kernel)
theorem D_111_30 : decode J_111.2.2.1 30 = .ok (.iload_n 2, 1) := dzq_28 (by decide +kernel)
theorem D_111_31 : decode J_111.2.2.1 31 = .ok (.ireturn, 1) := dzq_172 (by decide +kernel)
def P_111_7 (X : mjX) (d C S kc ks : Nat) (k : Nat → Int32 → Int32 → Int32 → mjH → mjU) : Prop := ∀ (l0 : Nat) (l1 : Int32) (l2 : Int32) (l3 : Int32) (hp : mjH) (q : Option Value × mjH), k l0 l1 l2 l3 hp = some q → mjG X d C S J_111 (mjEq q) 7 [some (.ref l0), some (.int l1), some (.int l2), some (.int l3)] [] hp kc ks
def P_111_0 (X : mjX) (d C S kc ks : Nat) (k : Nat → Int32 → mjH → mjU) : Prop := ∀ (l0 : Nat) (l1 : Int32) (hp : mjH) (q : Option Value × mjH), k l0 l1 hp = some q → mjG X d C S J_111 (mjEq q) 0 [some (.ref l0), some (.int l1), none, none] [] hp kc ks
noncomputable def b_111_7 (R : mjR) (k7 : Nat → Int32 → Int32 → Int32 → mjH → mjU) (l0 : Nat) (l1 : Int32) (l2 : Int32) (l3 : Int32) (hp : mjH) : mjU := gR hp l0 7 1 (fun v1 => aI hp v1 l1 (fun v2 => (if v2 ≤ l3 then some (some (.int l2), hp) else bI (R 103 [.int l2, .int l3, .int l3] hp) (fun v3 hp4 => k7 l0 l1 v3 (l3 + (1 : Int32)) hp4))))
theorem t_111_7 {X : mjX} {d C S kc ks : Nat} {R : mjR} (hR : mjC R d) (h1 : kc ≤ C) (h2 : ks ≤ S) {k7 : Nat → Int32 → Int32 → Int32 → mjH → mjU} (hk7 : P_111_7 X (d + 1) C S kc ks k7) : P_111_7 X (d + 1) C S kc ks (b_111_7 R k7) := by
  intro l0 l1 l2 l3 hp q h
  unfold b_111_7 at h
  refine mjr_iload_n (x := l3) D_111_7 rfl ?_
  refine mjr_aload_n (x := l0) D_111_8 rfl ?_
  refine mjq_gR D_111_9 fr_7_11 h (fun v1 h => ?_)
  refine mjr_iload_n (x := l1) D_111_12 rfl ?_
  refine mjq_aI D_111_13 h (fun v2 h => ?_)
  refine mjq_icmp_ge (tgt := 30) D_111_14 rfl h (fun h => ?_) (fun h => ?_)
  · refine mjr_iload_n (x := l2) D_111_30 rfl ?_
    exact mjq_ret D_111_31 rfl h1 h2 h
  · refine mjr_iload_n (x := l2) D_111_17 rfl ?_
    refine mjr_iload_n (x := l3) D_111_18 rfl ?_
    refine mjr_iload_n (x := l3) D_111_19 rfl ?_
    refine mjq_scI (As := [.int l2, .int l3, .int l3]) (rest := []) D_111_20 mr_7_93 V_103 rfl rfl rfl hR (Nat.le_refl _) h1 h2 h (fun v3 hp4 h => ?_)
    refine mjq_istore_n (lo' := [some (.ref l0), some (.int l1), some (.int v3), some (.int l3)]) D_111_23 (Nat.le_of_ble_eq_true rfl) rfl ?_
    refine mjq_iinc (x := l3) (c := (1 : Int32)) (lo' := [some (.ref l0), some (.int l1), some (.int v3), some (.int (l3 + (1 : Int32)))]) D_111_24 rfl (Nat.le_of_ble_eq_true rfl) rfl rfl ?_
    refine mjr_goto (tgt := 7) D_111_27 rfl ?_
    exact hk7 _ _ _ _ _ _ h
noncomputable def L_111_7 (R : mjR) (n : Nat) : Nat → Int32 → Int32 → Int32 → mjH → mjU := Nat.rec (motive := fun _ => Nat → Int32 → Int32 → Int32 → mjH → mjU) (fun _ _ _ _ _ => none) (fun _ self => b_111_7 R self) n
theorem T_111_7 {X : mjX} {d C S kc ks : Nat} {R : mjR} (hR : mjC R d) (h1 : kc ≤ C) (h2 : ks ≤ S) (n : Nat) : P_111_7 X (d + 1) C S kc ks (L_111_7 R n) := by
  induction n with
  | zero => intro _ _ _ _ _ _ h; exact mj_no h
  | succ n ih => exact t_111_7 hR h1 h2 ih
noncomputable def b_111_0 (R : mjR) (l0 : Nat) (l1 : Int32) (hp : mjH) : mjU := bI (R 102 [.int l1] hp) (fun v1 hp2 => L_111_7 R mjN l0 l1 v1 (0 : Int32) hp2)
theorem t_111_0 {X : mjX} {d C S kc ks : Nat} {R : mjR} (hR : mjC R d) (h1 : kc ≤ C) (h2 : ks ≤ S) : P_111_0 X (d + 1) C S kc ks (b_111_0 R) := by
  intro l0 l1 hp q h
  unfold b_111_0 at h
  refine mjr_iload_n (x := l1) D_111_0 rfl ?_
  refine mjq_scI (As := [.int l1]) (rest := []) D_111_1 mr_7_89 V_102 rfl rfl rfl hR (Nat.le_refl _) h1 h2 h (fun v1 hp2 h => ?_)
  refine mjq_istore_n (lo' := [some (.ref l0), some (.int l1), some (.int v1), none]) D_111_4 (Nat.le_of_ble_eq_true rfl) rfl ?_
  refine mjq_ic (v := (0 : Int32)) D_111_5 rfl ?_
  refine mjq_istore_n (lo' := [some (.ref l0), some (.int l1), some (.int v1), some (.int (0 : Int32))]) D_111_6 (Nat.le_of_ble_eq_true rfl) rfl ?_
  exact (T_111_7 hR h1 h2 mjN) _ _ _ _ _ _ h
noncomputable def f_111 (R : mjR) (a0 : Nat) (a1 : Int32) (hp : mjH) : mjU := b_111_0 R a0 a1 hp
theorem c_111 {R : mjR} {d : Nat} (hR : mjC R d) {a0 : Nat} {a1 : Int32} {hp : mjH} {q : Option Value × mjH} (h : f_111 R a0 a1 hp = some q) : mjM (d + 1) 0 0 111 [.ref a0, .int a1] hp (mjEq q) :=
  mjM_of Ja_111 (Nat.le_of_ble_eq_true rfl) (mjG.fg (lo' := [some (.ref a0), some (.int a1), none, none]) (And.intro rfl (And.intro rfl True.intro)) ((t_111_0 hR (Nat.le_refl 0) (Nat.le_refl 0)) a0 a1 hp q h))
def J_112 : mjI := (⟨"OwnerHeap$Program", "standing", "(II)I"⟩, 7, prog_9_method_9_code, 7, (some .int), 2, false)
theorem Ja_112 : mjMt 112 = some J_112 := by rfl
theorem D_112_0 : decode J_112.2.2.1 0 = .ok (.iload_n 1, 1) := dzq_27 (by decide +kernel)
theorem D_112_1 : decode J_112.2.2.1 1 = .ok (.ifCond .lt 7, 3) := dzq_155 (by decide +kernel)
theorem D_112_4 : decode J_112.2.2.1 4 = .ok (.iload_n 2, 1) := dzq_28 (by decide +kernel)
theorem D_112_5 : decode J_112.2.2.1 5 = .ok (.ifCond .ge 5, 3) := dzq_156 (by decide +kernel)
theorem D_112_8 : decode J_112.2.2.1 8 = .ok (.iload_n 1, 1) := dzq_27 (by decide +kernel)
theorem D_112_9 : decode J_112.2.2.1 9 = .ok (.ireturn, 1) := dzq_172 (by decide +kernel)
theorem D_112_10 : decode J_112.2.2.1 10 = .ok (.iload_n 1, 1) := dzq_27 (by decide +kernel)
theorem D_112_11 : decode J_112.2.2.1 11 = .ok (.invokestatic 97, 3) := dzq_184 (by decide +kernel)
theorem D_112_14 : decode J_112.2.2.1 14 = .ok (.istore_n 3, 1) := dzq_62 (by decide +kernel)
theorem D_112_15 : decode J_112.2.2.1 15 = .ok (.iload_n 3, 1) := dzq_29 (by decide +kernel)
theorem D_112_16 : decode J_112.2.2.1 16 = .ok (.invokestatic 89, 3) := dzq_184 (by decide +kernel)
theorem D_112_19 : decode J_112.2.2.1 19 = .ok (.istore 4, 2) := dzq_54 (by decide +kernel)
theorem D_112_21 : decode J_112.2.2.1 21 = .ok (.iconst 0, 1) := dzq_3 (by decide +kernel)
theorem D_112_22 : decode J_112.2.2.1 22 = .ok (.istore 5, 2) := dzq_54 (by decide +kernel)
theorem D_112_24 : decode J_112.2.2.1 24 = .ok (.iload 5, 2) := dzq_21 (by decide +kernel)
theorem D_112_26 : decode J_112.2.2.1 26 = .ok (.aload_n 0, 1) := dzq_42 (by decide +kernel)
theorem D_112_27 : decode J_112.2.2.1 27 = .ok (.getfield 11, 3) := dzq_180 (by decide +kernel)
theorem D_112_30 : decode J_112.2.2.1 30 = .ok (.iload_n 3, 1) := dzq_29 (by decide +kernel)
theorem D_112_31 : decode J_112.2.2.1 31 = .ok (.iaload, 1) := dzq_46 (by decide +kernel)
theorem D_112_32 : decode J_112.2.2.1 32 = .ok (.if_icmp .ge 43, 3) := dzq_162 (by decide +kernel)
theorem D_112_35 : decode J_112.2.2.1 35 = .ok (.iload_n 1, 1) := dzq_27 (by decide +kernel)
theorem D_112_36 : decode J_112.2.2.1 36 = .ok (.iload 5, 2) := dzq_21 (by decide +kernel)
theorem D_112_38 : decode J_112.2.2.1 38 = .ok (.invokestatic 85, 3) := dzq_184 (by decide +kernel)
theorem D_112_41 : decode J_112.2.2.1 41 = .ok (.istore 6, 2) := dzq_54 (by decide +kernel)
theorem D_112_43 : decode J_112.2.2.1 43 = .ok (.iload 4, 2) := dzq_21 (by decide +kernel)
theorem D_112_45 : decode J_112.2.2.1 45 = .ok (.iload 5, 2) := dzq_21 (by decide +kernel)
theorem D_112_47 : decode J_112.2.2.1 47 = .ok (.iload 6, 2) := dzq_21 (by decide +kernel)
theorem D_112_49 : decode J_112.2.2.1 49 = .ok (.iconst 5, 1) := dzq_8 (by decide +kernel)
theorem D_112_50 : decode J_112.2.2.1 50 = .ok (.if_icmp .ge 12, 3) := dzq_162 (by decide +kernel)
theorem D_112_53 : decode J_112.2.2.1 53 = .ok (.iload_n 2, 1) := dzq_28 (by decide +kernel)
theorem D_112_54 : decode J_112.2.2.1 54 = .ok (.iload 6, 2) := dzq_21 (by decide +kernel)
theorem D_112_56 : decode J_112.2.2.1 56 = .ok (.invokestatic 85, 3) := dzq_184 (by decide +kernel)
theorem D_112_59 : decode J_112.2.2.1 59 = .ok (.goto 5, 3) := dzq_167 (by decide +kernel)
theorem D_112_62 : decode J_112.2.2.1 62 = .ok (.iload 6, 2) := dzq_21 (by decide +kernel)
theorem D_112_64 : decode J_112.2.2.1 64 = .ok (.invokestatic 93, 3) := dzq_184 (by decide +kernel)
theorem D_112_67 : decode J_112.2.2.1 67 = .ok (.istore 4, 2) := dzq_54 (by decide +kernel)
theorem D_112_69 : decode J_112.2.2.1 69 = .ok (.iinc 5 1, 3) := dzq_132 (by decide +kernel)
theorem D_112_72 : decode J_112.2.2.1 72 = .ok (.goto (-48), 3) := dzq_167 (by decide +kernel)
theorem D_112_75 : decode J_112.2.2.1 75 = .ok (.iload 4, 2) := dzq_21 (by decide +kernel)
theorem D_112_77 : decode J_112.2.2.1 77 = .ok (.ireturn, 1) := dzq_172 (by decide +kernel)
def P_112_8 (X : mjX) (d C S kc ks : Nat) (k : Int32 → mjH → mjU) : Prop := ∀ (l1 : Int32) (hp : mjH) (q : Option Value × mjH), k l1 hp = some q → mjG X d C S J_112 (mjEq q) 8 [none, some (.int l1), none, none, none, none, none] [] hp kc ks
def P_112_64 (X : mjX) (d C S kc ks : Nat) (k : Nat → Int32 → Int32 → Int32 → Int32 → Int32 → Int32 → Int32 → mjH → mjU) : Prop := ∀ (l0 : Nat) (l1 : Int32) (l2 : Int32) (l3 : Int32) (l5 : Int32) (s0 : Int32) (s1 : Int32) (s2 : Int32) (hp : mjH) (q : Option Value × mjH), k l0 l1 l2 l3 l5 s0 s1 s2 hp = some q → mjG X d C S J_112 (mjEq q) 64 [some (.ref l0), some (.int l1), some (.int l2), some (.int l3), none, some (.int l5), none] [.int s2, .int s1, .int s0] hp kc ks
def P_112_24 (X : mjX) (d C S kc ks : Nat) (k : Nat → Int32 → Int32 → Int32 → Int32 → Int32 → mjH → mjU) : Prop := ∀ (l0 : Nat) (l1 : Int32) (l2 : Int32) (l3 : Int32) (l4 : Int32) (l5 : Int32) (hp : mjH) (q : Option Value × mjH), k l0 l1 l2 l3 l4 l5 hp = some q → mjG X d C S J_112 (mjEq q) 24 [some (.ref l0), some (.int l1), some (.int l2), some (.int l3), some (.int l4), some (.int l5), none] [] hp kc ks
def P_112_0 (X : mjX) (d C S kc ks : Nat) (k : Nat → Int32 → Int32 → mjH → mjU) : Prop := ∀ (l0 : Nat) (l1 : Int32) (l2 : Int32) (hp : mjH) (q : Option Value × mjH), k l0 l1 l2 hp = some q → mjG X d C S J_112 (mjEq q) 0 [some (.ref l0), some (.int l1), some (.int l2), none, none, none, none] [] hp kc ks
noncomputable def b_112_8 (R : mjR) (l1 : Int32) (hp : mjH) : mjU := some (some (.int l1), hp)
theorem t_112_8 {X : mjX} {d C S kc ks : Nat} {R : mjR} (hR : mjC R d) (h1 : kc ≤ C) (h2 : ks ≤ S) : P_112_8 X (d + 1) C S kc ks (b_112_8 R) := by
  intro l1 hp q h
  unfold b_112_8 at h
  refine mjr_iload_n (x := l1) D_112_8 rfl ?_
  exact mjq_ret D_112_9 rfl h1 h2 h
noncomputable def b_112_64 (R : mjR) (k24 : Nat → Int32 → Int32 → Int32 → Int32 → Int32 → mjH → mjU) (l0 : Nat) (l1 : Int32) (l2 : Int32) (l3 : Int32) (l5 : Int32) (s0 : Int32) (s1 : Int32) (s2 : Int32) (hp : mjH) : mjU := bI (R 103 [.int s0, .int s1, .int s2] hp) (fun v1 hp2 => k24 l0 l1 l2 l3 v1 (l5 + (1 : Int32)) hp2)
theorem t_112_64 {X : mjX} {d C S kc ks : Nat} {R : mjR} (hR : mjC R d) (h1 : kc ≤ C) (h2 : ks ≤ S) {k24 : Nat → Int32 → Int32 → Int32 → Int32 → Int32 → mjH → mjU} (hk24 : P_112_24 X (d + 1) C S kc ks k24) : P_112_64 X (d + 1) C S kc ks (b_112_64 R k24) := by
  intro l0 l1 l2 l3 l5 s0 s1 s2 hp q h
  unfold b_112_64 at h
  refine mjq_scI (As := [.int s0, .int s1, .int s2]) (rest := []) D_112_64 mr_7_93 V_103 rfl rfl rfl hR (Nat.le_refl _) h1 h2 h (fun v1 hp2 h => ?_)
  refine mjq_istore (lo' := [some (.ref l0), some (.int l1), some (.int l2), some (.int l3), some (.int v1), some (.int l5), none]) D_112_67 (Nat.le_of_ble_eq_true rfl) rfl ?_
  refine mjq_iinc (x := l5) (c := (1 : Int32)) (lo' := [some (.ref l0), some (.int l1), some (.int l2), some (.int l3), some (.int v1), some (.int (l5 + (1 : Int32))), none]) D_112_69 rfl (Nat.le_of_ble_eq_true rfl) rfl rfl ?_
  refine mjr_goto (tgt := 24) D_112_72 rfl ?_
  exact hk24 _ _ _ _ _ _ _ _ h
noncomputable def b_112_24 (R : mjR) (k24 : Nat → Int32 → Int32 → Int32 → Int32 → Int32 → mjH → mjU) (l0 : Nat) (l1 : Int32) (l2 : Int32) (l3 : Int32) (l4 : Int32) (l5 : Int32) (hp : mjH) : mjU := gR hp l0 7 1 (fun v1 => aI hp v1 l3 (fun v2 => (if v2 ≤ l5 then some (some (.int l4), hp) else bI (R 106 [.int l1, .int l5] hp) (fun v3 hp4 => (if (5 : Int32) ≤ v3 then b_112_64 R k24 l0 l1 l2 l3 l5 l4 l5 v3 hp4 else bI (R 106 [.int l2, .int v3] hp4) (fun v5 hp6 => b_112_64 R k24 l0 l1 l2 l3 l5 l4 l5 v5 hp6))))))
theorem t_112_24 {X : mjX} {d C S kc ks : Nat} {R : mjR} (hR : mjC R d) (h1 : kc ≤ C) (h2 : ks ≤ S) {k24 : Nat → Int32 → Int32 → Int32 → Int32 → Int32 → mjH → mjU} (hk24 : P_112_24 X (d + 1) C S kc ks k24) : P_112_24 X (d + 1) C S kc ks (b_112_24 R k24) := by
  intro l0 l1 l2 l3 l4 l5 hp q h
  unfold b_112_24 at h
  refine mjr_iload (x := l5) D_112_24 rfl ?_
  refine mjr_aload_n (x := l0) D_112_26 rfl ?_
  refine mjq_gR D_112_27 fr_7_11 h (fun v1 h => ?_)
  refine mjr_iload_n (x := l3) D_112_30 rfl ?_
  refine mjq_aI D_112_31 h (fun v2 h => ?_)
  refine mjq_icmp_ge (tgt := 75) D_112_32 rfl h (fun h => ?_) (fun h => ?_)
  · refine mjr_iload (x := l4) D_112_75 rfl ?_
    exact mjq_ret D_112_77 rfl h1 h2 h
  · refine mjr_iload_n (x := l1) D_112_35 rfl ?_
    refine mjr_iload (x := l5) D_112_36 rfl ?_
    refine mjq_scI (As := [.int l1, .int l5]) (rest := []) D_112_38 mr_7_85 V_106 rfl rfl rfl hR (Nat.le_refl _) h1 h2 h (fun v3 hp4 h => ?_)
    refine mjq_istore (lo' := [some (.ref l0), some (.int l1), some (.int l2), some (.int l3), some (.int l4), some (.int l5), some (.int v3)]) D_112_41 (Nat.le_of_ble_eq_true rfl) rfl ?_
    refine mjr_iload (x := l4) D_112_43 rfl ?_
    refine mjr_iload (x := l5) D_112_45 rfl ?_
    refine mjr_iload (x := v3) D_112_47 rfl ?_
    refine mjq_ic (v := (5 : Int32)) D_112_49 rfl ?_
    refine mjq_icmp_ge (tgt := 62) D_112_50 rfl h (fun h => ?_) (fun h => ?_)
    · refine mjr_iload (x := v3) D_112_62 rfl ?_
      exact mjG.fg (lo' := [some (.ref l0), some (.int l1), some (.int l2), some (.int l3), none, some (.int l5), none]) (And.intro rfl (And.intro rfl (And.intro rfl (And.intro rfl (And.intro rfl True.intro))))) ((t_112_64 hR h1 h2 hk24) _ _ _ _ _ _ _ _ _ _ h)
    · refine mjr_iload_n (x := l2) D_112_53 rfl ?_
      refine mjr_iload (x := v3) D_112_54 rfl ?_
      refine mjq_scI (As := [.int l2, .int v3]) (rest := [.int l5, .int l4]) D_112_56 mr_7_85 V_106 rfl rfl rfl hR (Nat.le_refl _) h1 h2 h (fun v5 hp6 h => ?_)
      refine mjr_goto (tgt := 64) D_112_59 rfl ?_
      exact mjG.fg (lo' := [some (.ref l0), some (.int l1), some (.int l2), some (.int l3), none, some (.int l5), none]) (And.intro rfl (And.intro rfl (And.intro rfl (And.intro rfl (And.intro rfl True.intro))))) ((t_112_64 hR h1 h2 hk24) _ _ _ _ _ _ _ _ _ _ h)
noncomputable def L_112_24 (R : mjR) (n : Nat) : Nat → Int32 → Int32 → Int32 → Int32 → Int32 → mjH → mjU := Nat.rec (motive := fun _ => Nat → Int32 → Int32 → Int32 → Int32 → Int32 → mjH → mjU) (fun _ _ _ _ _ _ _ => none) (fun _ self => b_112_24 R self) n
theorem T_112_24 {X : mjX} {d C S kc ks : Nat} {R : mjR} (hR : mjC R d) (h1 : kc ≤ C) (h2 : ks ≤ S) (n : Nat) : P_112_24 X (d + 1) C S kc ks (L_112_24 R n) := by
  induction n with
  | zero => intro _ _ _ _ _ _ _ _ h; exact mj_no h
  | succ n ih => exact t_112_24 hR h1 h2 ih
noncomputable def b_112_0 (R : mjR) (l0 : Nat) (l1 : Int32) (l2 : Int32) (hp : mjH) : mjU := (if l1 < 0 then b_112_8 R l1 hp else (if 0 ≤ l2 then bI (R 105 [.int l1] hp) (fun v1 hp2 => bI (R 102 [.int v1] hp2) (fun v3 hp4 => L_112_24 R mjN l0 l1 l2 v1 v3 (0 : Int32) hp4)) else b_112_8 R l1 hp))
theorem t_112_0 {X : mjX} {d C S kc ks : Nat} {R : mjR} (hR : mjC R d) (h1 : kc ≤ C) (h2 : ks ≤ S) : P_112_0 X (d + 1) C S kc ks (b_112_0 R) := by
  intro l0 l1 l2 hp q h
  unfold b_112_0 at h
  refine mjr_iload_n (x := l1) D_112_0 rfl ?_
  refine mjq_if_lt (tgt := 8) D_112_1 rfl h (fun h => ?_) (fun h => ?_)
  · exact mjG.fg (lo' := [none, some (.int l1), none, none, none, none, none]) (And.intro rfl True.intro) ((t_112_8 hR h1 h2) _ _ _ h)
  · refine mjr_iload_n (x := l2) D_112_4 rfl ?_
    refine mjq_if_ge (tgt := 10) D_112_5 rfl h (fun h => ?_) (fun h => ?_)
    · refine mjr_iload_n (x := l1) D_112_10 rfl ?_
      refine mjq_scI (As := [.int l1]) (rest := []) D_112_11 mr_7_97 V_105 rfl rfl rfl hR (Nat.le_refl _) h1 h2 h (fun v1 hp2 h => ?_)
      refine mjq_istore_n (lo' := [some (.ref l0), some (.int l1), some (.int l2), some (.int v1), none, none, none]) D_112_14 (Nat.le_of_ble_eq_true rfl) rfl ?_
      refine mjr_iload_n (x := v1) D_112_15 rfl ?_
      refine mjq_scI (As := [.int v1]) (rest := []) D_112_16 mr_7_89 V_102 rfl rfl rfl hR (Nat.le_refl _) h1 h2 h (fun v3 hp4 h => ?_)
      refine mjq_istore (lo' := [some (.ref l0), some (.int l1), some (.int l2), some (.int v1), some (.int v3), none, none]) D_112_19 (Nat.le_of_ble_eq_true rfl) rfl ?_
      refine mjq_ic (v := (0 : Int32)) D_112_21 rfl ?_
      refine mjq_istore (lo' := [some (.ref l0), some (.int l1), some (.int l2), some (.int v1), some (.int v3), some (.int (0 : Int32)), none]) D_112_22 (Nat.le_of_ble_eq_true rfl) rfl ?_
      exact (T_112_24 hR h1 h2 mjN) _ _ _ _ _ _ _ _ h
    · exact mjG.fg (lo' := [none, some (.int l1), none, none, none, none, none]) (And.intro rfl True.intro) ((t_112_8 hR h1 h2) _ _ _ h)
noncomputable def f_112 (R : mjR) (a0 : Nat) (a1 : Int32) (a2 : Int32) (hp : mjH) : mjU := b_112_0 R a0 a1 a2 hp
theorem c_112 {R : mjR} {d : Nat} (hR : mjC R d) {a0 : Nat} {a1 : Int32} {a2 : Int32} {hp : mjH} {q : Option Value × mjH} (h : f_112 R a0 a1 a2 hp = some q) : mjM (d + 1) 0 0 112 [.ref a0, .int a1, .int a2] hp (mjEq q) :=
  mjM_of Ja_112 (Nat.le_of_ble_eq_true rfl) (mjG.fg (lo' := [some (.ref a0), some (.int a1), some (.int a2), none, none, none, none]) (And.intro rfl (And.intro rfl (And.intro rfl True.intro))) ((t_112_0 hR (Nat.le_refl 0) (Nat.le_refl 0)) a0 a1 a2 hp q h))
def J_113 : mjI := (⟨"OwnerHeap$Program", "fillFields", "()V"⟩, 7, prog_9_method_13_code, 3, none, 0, false)
theorem Ja_113 : mjMt 113 = some J_113 := by rfl
theorem D_113_0 : decode J_113.2.2.1 0 = .ok (.iconst 0, 1) := dzq_3 (by decide +kernel)
theorem D_113_1 : decode J_113.2.2.1 1 = .ok (.istore_n 1, 1) := dzq_60 (by decide +kernel)
theorem D_113_2 : decode J_113.2.2.1 2 = .ok (.iload_n 1, 1) := dzq_27 (by decide +kernel)
theorem D_113_3 : decode J_113.2.2.1 3 = .ok (.aload_n 0, 1) := dzq_42 (by decide +kernel)
theorem D_113_4 : decode J_113.2.2.1 4 = .ok (.getfield 66, 3) := dzq_180 (by decide +kernel)
theorem D_113_7 : decode J_113.2.2.1 7 = .ok (.if_icmp .ge 53, 3) := dzq_162 (by decide +kernel)
theorem D_113_10 : decode J_113.2.2.1 10 = .ok (.iconst 0, 1) := dzq_3 (by decide +kernel)
theorem D_113_11 : decode J_113.2.2.1 11 = .ok (.istore_n 2, 1) := dzq_61 (by decide +kernel)
theorem D_113_12 : decode J_113.2.2.1 12 = .ok (.iload_n 2, 1) := dzq_28 (by decide +kernel)
theorem D_113_13 : decode J_113.2.2.1 13 = .ok (.aload_n 0, 1) := dzq_42 (by decide +kernel)
theorem D_113_14 : decode J_113.2.2.1 14 = .ok (.getfield 66, 3) := dzq_180 (by decide +kernel)
theorem D_113_17 : decode J_113.2.2.1 17 = .ok (.if_icmp .ge 37, 3) := dzq_162 (by decide +kernel)
theorem D_113_20 : decode J_113.2.2.1 20 = .ok (.aload_n 0, 1) := dzq_42 (by decide +kernel)
theorem D_113_21 : decode J_113.2.2.1 21 = .ok (.getfield 33, 3) := dzq_180 (by decide +kernel)
theorem D_113_24 : decode J_113.2.2.1 24 = .ok (.iload_n 1, 1) := dzq_27 (by decide +kernel)
theorem D_113_25 : decode J_113.2.2.1 25 = .ok (.dup2, 1) := by decide +kernel
theorem D_113_26 : decode J_113.2.2.1 26 = .ok (.iaload, 1) := dzq_46 (by decide +kernel)
theorem D_113_27 : decode J_113.2.2.1 27 = .ok (.aload_n 0, 1) := dzq_42 (by decide +kernel)
theorem D_113_28 : decode J_113.2.2.1 28 = .ok (.iload_n 1, 1) := dzq_27 (by decide +kernel)
theorem D_113_29 : decode J_113.2.2.1 29 = .ok (.iload_n 2, 1) := dzq_28 (by decide +kernel)
theorem D_113_30 : decode J_113.2.2.1 30 = .ok (.invokevirtual 106, 3) := dzq_182 (by decide +kernel)
theorem D_113_33 : decode J_113.2.2.1 33 = .ok (.ifCond .ge 7, 3) := dzq_156 (by decide +kernel)
theorem D_113_36 : decode J_113.2.2.1 36 = .ok (.iconst 0, 1) := dzq_3 (by decide +kernel)
theorem D_113_37 : decode J_113.2.2.1 37 = .ok (.goto 9, 3) := dzq_167 (by decide +kernel)
theorem D_113_40 : decode J_113.2.2.1 40 = .ok (.aload_n 0, 1) := dzq_42 (by decide +kernel)
theorem D_113_41 : decode J_113.2.2.1 41 = .ok (.getfield 30, 3) := dzq_180 (by decide +kernel)
theorem D_113_44 : decode J_113.2.2.1 44 = .ok (.iload_n 2, 1) := dzq_28 (by decide +kernel)
theorem D_113_45 : decode J_113.2.2.1 45 = .ok (.iaload, 1) := dzq_46 (by decide +kernel)
theorem D_113_46 : decode J_113.2.2.1 46 = .ok (.iadd, 1) := dzq_96 (by decide +kernel)
theorem D_113_47 : decode J_113.2.2.1 47 = .ok (.iastore, 1) := dzq_79 (by decide +kernel)
theorem D_113_48 : decode J_113.2.2.1 48 = .ok (.iinc 2 1, 3) := dzq_132 (by decide +kernel)
theorem D_113_51 : decode J_113.2.2.1 51 = .ok (.goto (-39), 3) := dzq_167 (by decide +kernel)
theorem D_113_54 : decode J_113.2.2.1 54 = .ok (.iinc 1 1, 3) := dzq_132 (by decide +kernel)
theorem D_113_57 : decode J_113.2.2.1 57 = .ok (.goto (-55), 3) := dzq_167 (by decide +kernel)
theorem D_113_60 : decode J_113.2.2.1 60 = .ok (.iconst 0, 1) := dzq_3 (by decide +kernel)
theorem D_113_61 : decode J_113.2.2.1 61 = .ok (.istore_n 1, 1) := dzq_60 (by decide +kernel)
theorem D_113_62 : decode J_113.2.2.1 62 = .ok (.iload_n 1, 1) := dzq_27 (by decide +kernel)
theorem D_113_63 : decode J_113.2.2.1 63 = .ok (.aload_n 0, 1) := dzq_42 (by decide +kernel)
theorem D_113_64 : decode J_113.2.2.1 64 = .ok (.getfield 55, 3) := dzq_180 (by decide +kernel)
theorem D_113_67 : decode J_113.2.2.1 67 = .ok (.getfield 109, 3) := dzq_180 (by decide +kernel)
theorem D_113_70 : decode J_113.2.2.1 70 = .ok (.if_icmp .ge 60, 3) := dzq_162 (by decide +kernel)
theorem D_113_73 : decode J_113.2.2.1 73 = .ok (.aload_n 0, 1) := dzq_42 (by decide +kernel)
theorem D_113_74 : decode J_113.2.2.1 74 = .ok (.getfield 55, 3) := dzq_180 (by decide +kernel)
theorem D_113_77 : decode J_113.2.2.1 77 = .ok (.getfield 112, 3) := dzq_180 (by decide +kernel)
theorem D_113_80 : decode J_113.2.2.1 80 = .ok (.iload_n 1, 1) := dzq_27 (by decide +kernel)
theorem D_113_81 : decode J_113.2.2.1 81 = .ok (.iaload, 1) := dzq_46 (by decide +kernel)
theorem D_113_82 : decode J_113.2.2.1 82 = .ok (.istore_n 2, 1) := dzq_61 (by decide +kernel)
theorem D_113_83 : decode J_113.2.2.1 83 = .ok (.aload_n 0, 1) := dzq_42 (by decide +kernel)
theorem D_113_84 : decode J_113.2.2.1 84 = .ok (.getfield 55, 3) := dzq_180 (by decide +kernel)
theorem D_113_87 : decode J_113.2.2.1 87 = .ok (.getfield 115, 3) := dzq_180 (by decide +kernel)
theorem D_113_90 : decode J_113.2.2.1 90 = .ok (.iload_n 1, 1) := dzq_27 (by decide +kernel)
theorem D_113_91 : decode J_113.2.2.1 91 = .ok (.dup2, 1) := by decide +kernel
theorem D_113_92 : decode J_113.2.2.1 92 = .ok (.iaload, 1) := dzq_46 (by decide +kernel)
theorem D_113_93 : decode J_113.2.2.1 93 = .ok (.aload_n 0, 1) := dzq_42 (by decide +kernel)
theorem D_113_94 : decode J_113.2.2.1 94 = .ok (.getfield 55, 3) := dzq_180 (by decide +kernel)
theorem D_113_97 : decode J_113.2.2.1 97 = .ok (.getfield 118, 3) := dzq_180 (by decide +kernel)
theorem D_113_100 : decode J_113.2.2.1 100 = .ok (.iload_n 1, 1) := dzq_27 (by decide +kernel)
theorem D_113_101 : decode J_113.2.2.1 101 = .ok (.baload, 1) := dzq_51 (by decide +kernel)
theorem D_113_102 : decode J_113.2.2.1 102 = .ok (.ifCond .eq 7, 3) := dzq_153 (by decide +kernel)
theorem D_113_105 : decode J_113.2.2.1 105 = .ok (.iconst 0, 1) := dzq_3 (by decide +kernel)
theorem D_113_106 : decode J_113.2.2.1 106 = .ok (.goto 16, 3) := dzq_167 (by decide +kernel)
theorem D_113_109 : decode J_113.2.2.1 109 = .ok (.aload_n 0, 1) := dzq_42 (by decide +kernel)
theorem D_113_110 : decode J_113.2.2.1 110 = .ok (.getfield 33, 3) := dzq_180 (by decide +kernel)
theorem D_113_113 : decode J_113.2.2.1 113 = .ok (.iload_n 2, 1) := dzq_28 (by decide +kernel)
theorem D_113_114 : decode J_113.2.2.1 114 = .ok (.iaload, 1) := dzq_46 (by decide +kernel)
theorem D_113_115 : decode J_113.2.2.1 115 = .ok (.aload_n 0, 1) := dzq_42 (by decide +kernel)
theorem D_113_116 : decode J_113.2.2.1 116 = .ok (.getfield 30, 3) := dzq_180 (by decide +kernel)
theorem D_113_119 : decode J_113.2.2.1 119 = .ok (.iload_n 2, 1) := dzq_28 (by decide +kernel)
theorem D_113_120 : decode J_113.2.2.1 120 = .ok (.iaload, 1) := dzq_46 (by decide +kernel)
theorem D_113_121 : decode J_113.2.2.1 121 = .ok (.isub, 1) := dzq_100 (by decide +kernel)
theorem D_113_122 : decode J_113.2.2.1 122 = .ok (.iadd, 1) := dzq_96 (by decide +kernel)
theorem D_113_123 : decode J_113.2.2.1 123 = .ok (.iastore, 1) := dzq_79 (by decide +kernel)
theorem D_113_124 : decode J_113.2.2.1 124 = .ok (.iinc 1 1, 3) := dzq_132 (by decide +kernel)
theorem D_113_127 : decode J_113.2.2.1 127 = .ok (.goto (-65), 3) := dzq_167 (by decide +kernel)
theorem D_113_130 : decode J_113.2.2.1 130 = .ok (.return_, 1) := dzq_177 (by decide +kernel)
def P_113_122 (X : mjX) (d C S kc ks : Nat) (k : Nat → Int32 → Nat → Int32 → Int32 → Int32 → mjH → mjU) : Prop := ∀ (l0 : Nat) (l1 : Int32) (s0 : Nat) (s1 : Int32) (s2 : Int32) (s3 : Int32) (hp : mjH) (q : Option Value × mjH), k l0 l1 s0 s1 s2 s3 hp = some q → mjG X d C S J_113 (mjEq q) 122 [some (.ref l0), some (.int l1), none] [.int s3, .int s2, .int s1, .ref s0] hp kc ks
def P_113_62 (X : mjX) (d C S kc ks : Nat) (k : Nat → Int32 → mjH → mjU) : Prop := ∀ (l0 : Nat) (l1 : Int32) (hp : mjH) (q : Option Value × mjH), k l0 l1 hp = some q → mjG X d C S J_113 (mjEq q) 62 [some (.ref l0), some (.int l1), none] [] hp kc ks
def P_113_46 (X : mjX) (d C S kc ks : Nat) (k : Nat → Int32 → Int32 → Nat → Int32 → Int32 → Int32 → mjH → mjU) : Prop := ∀ (l0 : Nat) (l1 : Int32) (l2 : Int32) (s0 : Nat) (s1 : Int32) (s2 : Int32) (s3 : Int32) (hp : mjH) (q : Option Value × mjH), k l0 l1 l2 s0 s1 s2 s3 hp = some q → mjG X d C S J_113 (mjEq q) 46 [some (.ref l0), some (.int l1), some (.int l2)] [.int s3, .int s2, .int s1, .ref s0] hp kc ks
def P_113_12 (X : mjX) (d C S kc ks : Nat) (k : Nat → Int32 → Int32 → mjH → mjU) : Prop := ∀ (l0 : Nat) (l1 : Int32) (l2 : Int32) (hp : mjH) (q : Option Value × mjH), k l0 l1 l2 hp = some q → mjG X d C S J_113 (mjEq q) 12 [some (.ref l0), some (.int l1), some (.int l2)] [] hp kc ks
def P_113_2 (X : mjX) (d C S kc ks : Nat) (k : Nat → Int32 → mjH → mjU) : Prop := ∀ (l0 : Nat) (l1 : Int32) (hp : mjH) (q : Option Value × mjH), k l0 l1 hp = some q → mjG X d C S J_113 (mjEq q) 2 [some (.ref l0), some (.int l1), none] [] hp kc ks
def P_113_0 (X : mjX) (d C S kc ks : Nat) (k : Nat → mjH → mjU) : Prop := ∀ (l0 : Nat) (hp : mjH) (q : Option Value × mjH), k l0 hp = some q → mjG X d C S J_113 (mjEq q) 0 [some (.ref l0), none, none] [] hp kc ks
noncomputable def b_113_122 (R : mjR) (k62 : Nat → Int32 → mjH → mjU) (l0 : Nat) (l1 : Int32) (s0 : Nat) (s1 : Int32) (s2 : Int32) (s3 : Int32) (hp : mjH) : mjU := sI hp s0 s1 (s2 + s3) (fun hp1 => k62 l0 (l1 + (1 : Int32)) hp1)
theorem t_113_122 {X : mjX} {d C S kc ks : Nat} {R : mjR} (hR : mjC R d) (h1 : kc ≤ C) (h2 : ks ≤ S) {k62 : Nat → Int32 → mjH → mjU} (hk62 : P_113_62 X (d + 1) C S kc ks k62) : P_113_122 X (d + 1) C S kc ks (b_113_122 R k62) := by
  intro l0 l1 s0 s1 s2 s3 hp q h
  unfold b_113_122 at h
  refine mjr_iadd D_113_122 ?_
  refine mjq_sI D_113_123 h (fun hp1 h => ?_)
  refine mjq_iinc (x := l1) (c := (1 : Int32)) (lo' := [some (.ref l0), some (.int (l1 + (1 : Int32))), none]) D_113_124 rfl (Nat.le_of_ble_eq_true rfl) rfl rfl ?_
  refine mjr_goto (tgt := 62) D_113_127 rfl ?_
  exact hk62 _ _ _ _ h
noncomputable def b_113_62 (R : mjR) (k62 : Nat → Int32 → mjH → mjU) (l0 : Nat) (l1 : Int32) (hp : mjH) : mjU := gR hp l0 7 14 (fun v1 => gI hp v1 6 0 (fun v2 => (if v2 ≤ l1 then some (none, hp) else gR hp l0 7 14 (fun v3 => gR hp v3 6 2 (fun v4 => aI hp v4 l1 (fun v5 => gR hp l0 7 14 (fun v6 => gR hp v6 6 5 (fun v7 => aI hp v7 l1 (fun v8 => gR hp l0 7 14 (fun v9 => gR hp v9 6 4 (fun v10 => aB hp v10 l1 (fun v11 => (if v11 = 0 then gR hp l0 7 8 (fun v12 => aI hp v12 v5 (fun v13 => gR hp l0 7 7 (fun v14 => aI hp v14 v5 (fun v15 => b_113_122 R k62 l0 l1 v7 l1 v8 (v13 - v15) hp)))) else b_113_122 R k62 l0 l1 v7 l1 v8 (0 : Int32) hp)))))))))))))
theorem t_113_62 {X : mjX} {d C S kc ks : Nat} {R : mjR} (hR : mjC R d) (h1 : kc ≤ C) (h2 : ks ≤ S) {k62 : Nat → Int32 → mjH → mjU} (hk62 : P_113_62 X (d + 1) C S kc ks k62) : P_113_62 X (d + 1) C S kc ks (b_113_62 R k62) := by
  intro l0 l1 hp q h
  unfold b_113_62 at h
  refine mjr_iload_n (x := l1) D_113_62 rfl ?_
  refine mjr_aload_n (x := l0) D_113_63 rfl ?_
  refine mjq_gR D_113_64 fr_7_55 h (fun v1 h => ?_)
  refine mjq_gI D_113_67 fr_7_109 h (fun v2 h => ?_)
  refine mjq_icmp_ge (tgt := 130) D_113_70 rfl h (fun h => ?_) (fun h => ?_)
  · exact mjq_nret D_113_130 rfl h1 h2 h
  · refine mjr_aload_n (x := l0) D_113_73 rfl ?_
    refine mjq_gR D_113_74 fr_7_55 h (fun v3 h => ?_)
    refine mjq_gR D_113_77 fr_7_112 h (fun v4 h => ?_)
    refine mjr_iload_n (x := l1) D_113_80 rfl ?_
    refine mjq_aI D_113_81 h (fun v5 h => ?_)
    refine mjq_istore_n (lo' := [some (.ref l0), some (.int l1), some (.int v5)]) D_113_82 (Nat.le_of_ble_eq_true rfl) rfl ?_
    refine mjr_aload_n (x := l0) D_113_83 rfl ?_
    refine mjq_gR D_113_84 fr_7_55 h (fun v6 h => ?_)
    refine mjq_gR D_113_87 fr_7_115 h (fun v7 h => ?_)
    refine mjr_iload_n (x := l1) D_113_90 rfl ?_
    refine mjr_dup2 D_113_91 rfl rfl ?_
    refine mjq_aI D_113_92 h (fun v8 h => ?_)
    refine mjr_aload_n (x := l0) D_113_93 rfl ?_
    refine mjq_gR D_113_94 fr_7_55 h (fun v9 h => ?_)
    refine mjq_gR D_113_97 fr_7_118 h (fun v10 h => ?_)
    refine mjr_iload_n (x := l1) D_113_100 rfl ?_
    refine mjq_aB D_113_101 h (fun v11 h => ?_)
    refine mjq_if_eq (tgt := 109) D_113_102 rfl h (fun h => ?_) (fun h => ?_)
    · refine mjr_aload_n (x := l0) D_113_109 rfl ?_
      refine mjq_gR D_113_110 fr_7_33 h (fun v12 h => ?_)
      refine mjr_iload_n (x := v5) D_113_113 rfl ?_
      refine mjq_aI D_113_114 h (fun v13 h => ?_)
      refine mjr_aload_n (x := l0) D_113_115 rfl ?_
      refine mjq_gR D_113_116 fr_7_30 h (fun v14 h => ?_)
      refine mjr_iload_n (x := v5) D_113_119 rfl ?_
      refine mjq_aI D_113_120 h (fun v15 h => ?_)
      refine mjr_isub D_113_121 ?_
      exact mjG.fg (lo' := [some (.ref l0), some (.int l1), none]) (And.intro rfl (And.intro rfl True.intro)) ((t_113_122 hR h1 h2 hk62) _ _ _ _ _ _ _ _ h)
    · refine mjq_ic (v := (0 : Int32)) D_113_105 rfl ?_
      refine mjr_goto (tgt := 122) D_113_106 rfl ?_
      exact mjG.fg (lo' := [some (.ref l0), some (.int l1), none]) (And.intro rfl (And.intro rfl True.intro)) ((t_113_122 hR h1 h2 hk62) _ _ _ _ _ _ _ _ h)
noncomputable def L_113_62 (R : mjR) (n : Nat) : Nat → Int32 → mjH → mjU := Nat.rec (motive := fun _ => Nat → Int32 → mjH → mjU) (fun _ _ _ => none) (fun _ self => b_113_62 R self) n
theorem T_113_62 {X : mjX} {d C S kc ks : Nat} {R : mjR} (hR : mjC R d) (h1 : kc ≤ C) (h2 : ks ≤ S) (n : Nat) : P_113_62 X (d + 1) C S kc ks (L_113_62 R n) := by
  induction n with
  | zero => intro _ _ _ _ h; exact mj_no h
  | succ n ih => exact t_113_62 hR h1 h2 ih
noncomputable def b_113_46 (R : mjR) (k2 : Nat → Int32 → mjH → mjU) (k12 : Nat → Int32 → Int32 → mjH → mjU) (l0 : Nat) (l1 : Int32) (l2 : Int32) (s0 : Nat) (s1 : Int32) (s2 : Int32) (s3 : Int32) (hp : mjH) : mjU := sI hp s0 s1 (s2 + s3) (fun hp1 => k12 l0 l1 (l2 + (1 : Int32)) hp1)
theorem t_113_46 {X : mjX} {d C S kc ks : Nat} {R : mjR} (hR : mjC R d) (h1 : kc ≤ C) (h2 : ks ≤ S) {k2 : Nat → Int32 → mjH → mjU} (hk2 : P_113_2 X (d + 1) C S kc ks k2) {k12 : Nat → Int32 → Int32 → mjH → mjU} (hk12 : P_113_12 X (d + 1) C S kc ks k12) : P_113_46 X (d + 1) C S kc ks (b_113_46 R k2 k12) := by
  intro l0 l1 l2 s0 s1 s2 s3 hp q h
  unfold b_113_46 at h
  refine mjr_iadd D_113_46 ?_
  refine mjq_sI D_113_47 h (fun hp1 h => ?_)
  refine mjq_iinc (x := l2) (c := (1 : Int32)) (lo' := [some (.ref l0), some (.int l1), some (.int (l2 + (1 : Int32)))]) D_113_48 rfl (Nat.le_of_ble_eq_true rfl) rfl rfl ?_
  refine mjr_goto (tgt := 12) D_113_51 rfl ?_
  exact hk12 _ _ _ _ _ h
noncomputable def b_113_12 (R : mjR) (k2 : Nat → Int32 → mjH → mjU) (k12 : Nat → Int32 → Int32 → mjH → mjU) (l0 : Nat) (l1 : Int32) (l2 : Int32) (hp : mjH) : mjU := gI hp l0 7 0 (fun v1 => (if v1 ≤ l2 then k2 l0 (l1 + (1 : Int32)) hp else gR hp l0 7 8 (fun v2 => aI hp v2 l1 (fun v3 => rV hp l0 7 (bI (R 114 [.ref l0, .int l1, .int l2] hp) (fun v4 hp5 => (if 0 ≤ v4 then gR hp5 l0 7 7 (fun v6 => aI hp5 v6 l2 (fun v7 => b_113_46 R k2 k12 l0 l1 l2 v2 l1 v3 v7 hp5)) else b_113_46 R k2 k12 l0 l1 l2 v2 l1 v3 (0 : Int32) hp5)))))))
theorem t_113_12 {X : mjX} {d C S kc ks : Nat} {R : mjR} (hR : mjC R d) (h1 : kc ≤ C) (h2 : ks ≤ S) {k2 : Nat → Int32 → mjH → mjU} (hk2 : P_113_2 X (d + 1) C S kc ks k2) {k12 : Nat → Int32 → Int32 → mjH → mjU} (hk12 : P_113_12 X (d + 1) C S kc ks k12) : P_113_12 X (d + 1) C S kc ks (b_113_12 R k2 k12) := by
  intro l0 l1 l2 hp q h
  unfold b_113_12 at h
  refine mjr_iload_n (x := l2) D_113_12 rfl ?_
  refine mjr_aload_n (x := l0) D_113_13 rfl ?_
  refine mjq_gI D_113_14 fr_7_66 h (fun v1 h => ?_)
  refine mjq_icmp_ge (tgt := 54) D_113_17 rfl h (fun h => ?_) (fun h => ?_)
  · refine mjq_iinc (x := l1) (c := (1 : Int32)) (lo' := [some (.ref l0), some (.int (l1 + (1 : Int32))), some (.int l2)]) D_113_54 rfl (Nat.le_of_ble_eq_true rfl) rfl rfl ?_
    refine mjr_goto (tgt := 2) D_113_57 rfl ?_
    exact mjG.fg (lo' := [some (.ref l0), some (.int (l1 + (1 : Int32))), none]) (And.intro rfl (And.intro rfl True.intro)) (hk2 _ _ _ _ h)
  · refine mjr_aload_n (x := l0) D_113_20 rfl ?_
    refine mjq_gR D_113_21 fr_7_33 h (fun v2 h => ?_)
    refine mjr_iload_n (x := l1) D_113_24 rfl ?_
    refine mjr_dup2 D_113_25 rfl rfl ?_
    refine mjq_aI D_113_26 h (fun v3 h => ?_)
    refine mjr_aload_n (x := l0) D_113_27 rfl ?_
    refine mjr_iload_n (x := l1) D_113_28 rfl ?_
    refine mjr_iload_n (x := l2) D_113_29 rfl ?_
    refine mjq_vI (As := [.int l1, .int l2]) (rest := [.int v3, .int l1, .ref v2]) D_113_30 mr_7_106 V_114 rfl rfl rfl hR (Nat.le_refl _) h1 h2 h (fun v4 hp5 h => ?_)
    refine mjq_if_ge (tgt := 40) D_113_33 rfl h (fun h => ?_) (fun h => ?_)
    · refine mjr_aload_n (x := l0) D_113_40 rfl ?_
      refine mjq_gR D_113_41 fr_7_30 h (fun v6 h => ?_)
      refine mjr_iload_n (x := l2) D_113_44 rfl ?_
      refine mjq_aI D_113_45 h (fun v7 h => ?_)
      exact (t_113_46 hR h1 h2 hk2 hk12) _ _ _ _ _ _ _ _ _ h
    · refine mjq_ic (v := (0 : Int32)) D_113_36 rfl ?_
      refine mjr_goto (tgt := 46) D_113_37 rfl ?_
      exact (t_113_46 hR h1 h2 hk2 hk12) _ _ _ _ _ _ _ _ _ h
noncomputable def L_113_12 (R : mjR) (k2 : Nat → Int32 → mjH → mjU) (n : Nat) : Nat → Int32 → Int32 → mjH → mjU := Nat.rec (motive := fun _ => Nat → Int32 → Int32 → mjH → mjU) (fun _ _ _ _ => none) (fun _ self => b_113_12 R k2 self) n
theorem T_113_12 {X : mjX} {d C S kc ks : Nat} {R : mjR} (hR : mjC R d) (h1 : kc ≤ C) (h2 : ks ≤ S) {k2 : Nat → Int32 → mjH → mjU} (hk2 : P_113_2 X (d + 1) C S kc ks k2) (n : Nat) : P_113_12 X (d + 1) C S kc ks (L_113_12 R k2 n) := by
  induction n with
  | zero => intro _ _ _ _ _ h; exact mj_no h
  | succ n ih => exact t_113_12 hR h1 h2 hk2 ih
noncomputable def b_113_2 (R : mjR) (k2 : Nat → Int32 → mjH → mjU) (l0 : Nat) (l1 : Int32) (hp : mjH) : mjU := gI hp l0 7 0 (fun v1 => (if v1 ≤ l1 then L_113_62 R mjN l0 (0 : Int32) hp else L_113_12 R k2 mjN l0 l1 (0 : Int32) hp))
theorem t_113_2 {X : mjX} {d C S kc ks : Nat} {R : mjR} (hR : mjC R d) (h1 : kc ≤ C) (h2 : ks ≤ S) {k2 : Nat → Int32 → mjH → mjU} (hk2 : P_113_2 X (d + 1) C S kc ks k2) : P_113_2 X (d + 1) C S kc ks (b_113_2 R k2) := by
  intro l0 l1 hp q h
  unfold b_113_2 at h
  refine mjr_iload_n (x := l1) D_113_2 rfl ?_
  refine mjr_aload_n (x := l0) D_113_3 rfl ?_
  refine mjq_gI D_113_4 fr_7_66 h (fun v1 h => ?_)
  refine mjq_icmp_ge (tgt := 60) D_113_7 rfl h (fun h => ?_) (fun h => ?_)
  · refine mjq_ic (v := (0 : Int32)) D_113_60 rfl ?_
    refine mjq_istore_n (lo' := [some (.ref l0), some (.int (0 : Int32)), none]) D_113_61 (Nat.le_of_ble_eq_true rfl) rfl ?_
    exact (T_113_62 hR h1 h2 mjN) _ _ _ _ h
  · refine mjq_ic (v := (0 : Int32)) D_113_10 rfl ?_
    refine mjq_istore_n (lo' := [some (.ref l0), some (.int l1), some (.int (0 : Int32))]) D_113_11 (Nat.le_of_ble_eq_true rfl) rfl ?_
    exact (T_113_12 hR h1 h2 hk2 mjN) _ _ _ _ _ h
noncomputable def L_113_2 (R : mjR) (n : Nat) : Nat → Int32 → mjH → mjU := Nat.rec (motive := fun _ => Nat → Int32 → mjH → mjU) (fun _ _ _ => none) (fun _ self => b_113_2 R self) n
theorem T_113_2 {X : mjX} {d C S kc ks : Nat} {R : mjR} (hR : mjC R d) (h1 : kc ≤ C) (h2 : ks ≤ S) (n : Nat) : P_113_2 X (d + 1) C S kc ks (L_113_2 R n) := by
  induction n with
  | zero => intro _ _ _ _ h; exact mj_no h
  | succ n ih => exact t_113_2 hR h1 h2 ih
noncomputable def b_113_0 (R : mjR) (l0 : Nat) (hp : mjH) : mjU := L_113_2 R mjN l0 (0 : Int32) hp
theorem t_113_0 {X : mjX} {d C S kc ks : Nat} {R : mjR} (hR : mjC R d) (h1 : kc ≤ C) (h2 : ks ≤ S) : P_113_0 X (d + 1) C S kc ks (b_113_0 R) := by
  intro l0 hp q h
  unfold b_113_0 at h
  refine mjq_ic (v := (0 : Int32)) D_113_0 rfl ?_
  refine mjq_istore_n (lo' := [some (.ref l0), some (.int (0 : Int32)), none]) D_113_1 (Nat.le_of_ble_eq_true rfl) rfl ?_
  exact (T_113_2 hR h1 h2 mjN) _ _ _ _ h
noncomputable def f_113 (R : mjR) (a0 : Nat) (hp : mjH) : mjU := b_113_0 R a0 hp
theorem c_113 {R : mjR} {d : Nat} (hR : mjC R d) {a0 : Nat} {hp : mjH} {q : Option Value × mjH} (h : f_113 R a0 hp = some q) : mjM (d + 1) 0 0 113 [.ref a0] hp (mjEq q) :=
  mjM_of Ja_113 (Nat.le_of_ble_eq_true rfl) (mjG.fg (lo' := [some (.ref a0), none, none]) (And.intro rfl True.intro) ((t_113_0 hR (Nat.le_refl 0) (Nat.le_refl 0)) a0 hp q h))
def J_114 : mjI := (⟨"OwnerHeap$Program", "viewOf", "(II)I"⟩, 7, prog_9_method_11_code, 3, (some .int), 2, false)
theorem Ja_114 : mjMt 114 = some J_114 := by rfl
theorem D_114_0 : decode J_114.2.2.1 0 = .ok (.aload_n 0, 1) := dzq_42 (by decide +kernel)
theorem D_114_1 : decode J_114.2.2.1 1 = .ok (.getfield 45, 3) := dzq_180 (by decide +kernel)
theorem D_114_4 : decode J_114.2.2.1 4 = .ok (.iload_n 1, 1) := dzq_27 (by decide +kernel)
theorem D_114_5 : decode J_114.2.2.1 5 = .ok (.bipush 16, 2) := dzq_16 (by decide +kernel)
theorem D_114_7 : decode J_114.2.2.1 7 = .ok (.imul, 1) := dzq_104 (by decide +kernel)
theorem D_114_8 : decode J_114.2.2.1 8 = .ok (.iload_n 2, 1) := dzq_28 (by decide +kernel)
theorem D_114_9 : decode J_114.2.2.1 9 = .ok (.iadd, 1) := dzq_96 (by decide +kernel)
theorem D_114_10 : decode J_114.2.2.1 10 = .ok (.iaload, 1) := dzq_46 (by decide +kernel)
theorem D_114_11 : decode J_114.2.2.1 11 = .ok (.ireturn, 1) := dzq_172 (by decide +kernel)
def P_114_0 (X : mjX) (d C S kc ks : Nat) (k : Nat → Int32 → Int32 → mjH → mjU) : Prop := ∀ (l0 : Nat) (l1 : Int32) (l2 : Int32) (hp : mjH) (q : Option Value × mjH), k l0 l1 l2 hp = some q → mjG X d C S J_114 (mjEq q) 0 [some (.ref l0), some (.int l1), some (.int l2)] [] hp kc ks
noncomputable def b_114_0 (R : mjR) (l0 : Nat) (l1 : Int32) (l2 : Int32) (hp : mjH) : mjU := gR hp l0 7 12 (fun v1 => aI hp v1 ((l1 * (16 : Int32)) + l2) (fun v2 => some (some (.int v2), hp)))
theorem t_114_0 {X : mjX} {d C S kc ks : Nat} {R : mjR} (hR : mjC R d) (h1 : kc ≤ C) (h2 : ks ≤ S) : P_114_0 X (d + 1) C S kc ks (b_114_0 R) := by
  intro l0 l1 l2 hp q h
  unfold b_114_0 at h
  refine mjr_aload_n (x := l0) D_114_0 rfl ?_
  refine mjq_gR D_114_1 fr_7_45 h (fun v1 h => ?_)
  refine mjr_iload_n (x := l1) D_114_4 rfl ?_
  refine mjq_bi (v := (16 : Int32)) D_114_5 rfl ?_
  refine mjr_imul D_114_7 ?_
  refine mjr_iload_n (x := l2) D_114_8 rfl ?_
  refine mjr_iadd D_114_9 ?_
  refine mjq_aI D_114_10 h (fun v2 h => ?_)
  exact mjq_ret D_114_11 rfl h1 h2 h
noncomputable def f_114 (R : mjR) (a0 : Nat) (a1 : Int32) (a2 : Int32) (hp : mjH) : mjU := b_114_0 R a0 a1 a2 hp
theorem c_114 {R : mjR} {d : Nat} (hR : mjC R d) {a0 : Nat} {a1 : Int32} {a2 : Int32} {hp : mjH} {q : Option Value × mjH} (h : f_114 R a0 a1 a2 hp = some q) : mjM (d + 1) 0 0 114 [.ref a0, .int a1, .int a2] hp (mjEq q) :=
  mjM_of Ja_114 (Nat.le_of_ble_eq_true rfl) (mjG.fg (lo' := [some (.ref a0), some (.int a1), some (.int a2)]) (And.intro rfl (And.intro rfl (And.intro rfl True.intro))) ((t_114_0 hR (Nat.le_refl 0) (Nat.le_refl 0)) a0 a1 a2 hp q h))
def J_115 : mjI := (⟨"OwnerHeap$Program", "fillKnown", "()V"⟩, 7, prog_9_method_16_code, 2, none, 0, false)
theorem Ja_115 : mjMt 115 = some J_115 := by rfl
theorem D_115_0 : decode J_115.2.2.1 0 = .ok (.iconst 0, 1) := dzq_3 (by decide +kernel)
theorem D_115_1 : decode J_115.2.2.1 1 = .ok (.istore_n 1, 1) := dzq_60 (by decide +kernel)
theorem D_115_2 : decode J_115.2.2.1 2 = .ok (.iload_n 1, 1) := dzq_27 (by decide +kernel)
theorem D_115_3 : decode J_115.2.2.1 3 = .ok (.aload_n 0, 1) := dzq_42 (by decide +kernel)
theorem D_115_4 : decode J_115.2.2.1 4 = .ok (.getfield 66, 3) := dzq_180 (by decide +kernel)
theorem D_115_7 : decode J_115.2.2.1 7 = .ok (.if_icmp .ge 19, 3) := dzq_162 (by decide +kernel)
theorem D_115_10 : decode J_115.2.2.1 10 = .ok (.aload_n 0, 1) := dzq_42 (by decide +kernel)
theorem D_115_11 : decode J_115.2.2.1 11 = .ok (.iload_n 1, 1) := dzq_27 (by decide +kernel)
theorem D_115_12 : decode J_115.2.2.1 12 = .ok (.invokevirtual 125, 3) := dzq_182 (by decide +kernel)
theorem D_115_15 : decode J_115.2.2.1 15 = .ok (.aload_n 0, 1) := dzq_42 (by decide +kernel)
theorem D_115_16 : decode J_115.2.2.1 16 = .ok (.iload_n 1, 1) := dzq_27 (by decide +kernel)
theorem D_115_17 : decode J_115.2.2.1 17 = .ok (.invokevirtual 129, 3) := dzq_182 (by decide +kernel)
theorem D_115_20 : decode J_115.2.2.1 20 = .ok (.iinc 1 1, 3) := dzq_132 (by decide +kernel)
theorem D_115_23 : decode J_115.2.2.1 23 = .ok (.goto (-21), 3) := dzq_167 (by decide +kernel)
theorem D_115_26 : decode J_115.2.2.1 26 = .ok (.return_, 1) := dzq_177 (by decide +kernel)
def P_115_2 (X : mjX) (d C S kc ks : Nat) (k : Nat → Int32 → mjH → mjU) : Prop := ∀ (l0 : Nat) (l1 : Int32) (hp : mjH) (q : Option Value × mjH), k l0 l1 hp = some q → mjG X d C S J_115 (mjEq q) 2 [some (.ref l0), some (.int l1)] [] hp kc ks
def P_115_0 (X : mjX) (d C S kc ks : Nat) (k : Nat → mjH → mjU) : Prop := ∀ (l0 : Nat) (hp : mjH) (q : Option Value × mjH), k l0 hp = some q → mjG X d C S J_115 (mjEq q) 0 [some (.ref l0), none] [] hp kc ks
noncomputable def b_115_2 (R : mjR) (k2 : Nat → Int32 → mjH → mjU) (l0 : Nat) (l1 : Int32) (hp : mjH) : mjU := gI hp l0 7 0 (fun v1 => (if v1 ≤ l1 then some (none, hp) else rV hp l0 7 (bN (R 116 [.ref l0, .int l1] hp) (fun  hp2 => rV hp2 l0 7 (bN (R 118 [.ref l0, .int l1] hp2) (fun  hp3 => k2 l0 (l1 + (1 : Int32)) hp3))))))
theorem t_115_2 {X : mjX} {d C S kc ks : Nat} {R : mjR} (hR : mjC R d) (h1 : kc ≤ C) (h2 : ks ≤ S) {k2 : Nat → Int32 → mjH → mjU} (hk2 : P_115_2 X (d + 1) C S kc ks k2) : P_115_2 X (d + 1) C S kc ks (b_115_2 R k2) := by
  intro l0 l1 hp q h
  unfold b_115_2 at h
  refine mjr_iload_n (x := l1) D_115_2 rfl ?_
  refine mjr_aload_n (x := l0) D_115_3 rfl ?_
  refine mjq_gI D_115_4 fr_7_66 h (fun v1 h => ?_)
  refine mjq_icmp_ge (tgt := 26) D_115_7 rfl h (fun h => ?_) (fun h => ?_)
  · exact mjq_nret D_115_26 rfl h1 h2 h
  · refine mjr_aload_n (x := l0) D_115_10 rfl ?_
    refine mjr_iload_n (x := l1) D_115_11 rfl ?_
    refine mjq_vN (As := [.int l1]) (rest := []) D_115_12 mr_7_125 V_116 rfl rfl rfl hR (Nat.le_refl _) h1 h2 h (fun  hp2 h => ?_)
    refine mjr_aload_n (x := l0) D_115_15 rfl ?_
    refine mjr_iload_n (x := l1) D_115_16 rfl ?_
    refine mjq_vN (As := [.int l1]) (rest := []) D_115_17 mr_7_129 V_118 rfl rfl rfl hR (Nat.le_refl _) h1 h2 h (fun  hp3 h => ?_)
    refine mjq_iinc (x := l1) (c := (1 : Int32)) (lo' := [some (.ref l0), some (.int (l1 + (1 : Int32)))]) D_115_20 rfl (Nat.le_of_ble_eq_true rfl) rfl rfl ?_
    refine mjr_goto (tgt := 2) D_115_23 rfl ?_
    exact hk2 _ _ _ _ h
noncomputable def L_115_2 (R : mjR) (n : Nat) : Nat → Int32 → mjH → mjU := Nat.rec (motive := fun _ => Nat → Int32 → mjH → mjU) (fun _ _ _ => none) (fun _ self => b_115_2 R self) n
theorem T_115_2 {X : mjX} {d C S kc ks : Nat} {R : mjR} (hR : mjC R d) (h1 : kc ≤ C) (h2 : ks ≤ S) (n : Nat) : P_115_2 X (d + 1) C S kc ks (L_115_2 R n) := by
  induction n with
  | zero => intro _ _ _ _ h; exact mj_no h
  | succ n ih => exact t_115_2 hR h1 h2 ih
noncomputable def b_115_0 (R : mjR) (l0 : Nat) (hp : mjH) : mjU := L_115_2 R mjN l0 (0 : Int32) hp
theorem t_115_0 {X : mjX} {d C S kc ks : Nat} {R : mjR} (hR : mjC R d) (h1 : kc ≤ C) (h2 : ks ≤ S) : P_115_0 X (d + 1) C S kc ks (b_115_0 R) := by
  intro l0 hp q h
  unfold b_115_0 at h
  refine mjq_ic (v := (0 : Int32)) D_115_0 rfl ?_
  refine mjq_istore_n (lo' := [some (.ref l0), some (.int (0 : Int32))]) D_115_1 (Nat.le_of_ble_eq_true rfl) rfl ?_
  exact (T_115_2 hR h1 h2 mjN) _ _ _ _ h
noncomputable def f_115 (R : mjR) (a0 : Nat) (hp : mjH) : mjU := b_115_0 R a0 hp
theorem c_115 {R : mjR} {d : Nat} (hR : mjC R d) {a0 : Nat} {hp : mjH} {q : Option Value × mjH} (h : f_115 R a0 hp = some q) : mjM (d + 1) 0 0 115 [.ref a0] hp (mjEq q) :=
  mjM_of Ja_115 (Nat.le_of_ble_eq_true rfl) (mjG.fg (lo' := [some (.ref a0), none]) (And.intro rfl True.intro) ((t_115_0 hR (Nat.le_refl 0) (Nat.le_refl 0)) a0 hp q h))
def J_116 : mjI := (⟨"OwnerHeap$Program", "fillToldKnown", "(I)V"⟩, 7, prog_9_method_17_code, 4, none, 1, false)
theorem Ja_116 : mjMt 116 = some J_116 := by rfl
theorem D_116_0 : decode J_116.2.2.1 0 = .ok (.iconst 0, 1) := dzq_3 (by decide +kernel)
theorem D_116_1 : decode J_116.2.2.1 1 = .ok (.istore_n 2, 1) := dzq_61 (by decide +kernel)
theorem D_116_2 : decode J_116.2.2.1 2 = .ok (.iload_n 2, 1) := dzq_28 (by decide +kernel)
theorem D_116_3 : decode J_116.2.2.1 3 = .ok (.bipush 7, 2) := dzq_16 (by decide +kernel)
theorem D_116_5 : decode J_116.2.2.1 5 = .ok (.if_icmp .ge 23, 3) := dzq_162 (by decide +kernel)
theorem D_116_8 : decode J_116.2.2.1 8 = .ok (.aload_n 0, 1) := dzq_42 (by decide +kernel)
theorem D_116_9 : decode J_116.2.2.1 9 = .ok (.iload_n 1, 1) := dzq_27 (by decide +kernel)
theorem D_116_10 : decode J_116.2.2.1 10 = .ok (.iload_n 2, 1) := dzq_28 (by decide +kernel)
theorem D_116_11 : decode J_116.2.2.1 11 = .ok (.iload_n 2, 1) := dzq_28 (by decide +kernel)
theorem D_116_12 : decode J_116.2.2.1 12 = .ok (.invokevirtual 132, 3) := dzq_182 (by decide +kernel)
theorem D_116_15 : decode J_116.2.2.1 15 = .ok (.aload_n 0, 1) := dzq_42 (by decide +kernel)
theorem D_116_16 : decode J_116.2.2.1 16 = .ok (.iload_n 1, 1) := dzq_27 (by decide +kernel)
theorem D_116_17 : decode J_116.2.2.1 17 = .ok (.iload_n 2, 1) := dzq_28 (by decide +kernel)
theorem D_116_18 : decode J_116.2.2.1 18 = .ok (.iconst 5, 1) := dzq_8 (by decide +kernel)
theorem D_116_19 : decode J_116.2.2.1 19 = .ok (.invokevirtual 132, 3) := dzq_182 (by decide +kernel)
theorem D_116_22 : decode J_116.2.2.1 22 = .ok (.iinc 2 1, 3) := dzq_132 (by decide +kernel)
theorem D_116_25 : decode J_116.2.2.1 25 = .ok (.goto (-23), 3) := dzq_167 (by decide +kernel)
theorem D_116_28 : decode J_116.2.2.1 28 = .ok (.aload_n 0, 1) := dzq_42 (by decide +kernel)
theorem D_116_29 : decode J_116.2.2.1 29 = .ok (.iload_n 1, 1) := dzq_27 (by decide +kernel)
theorem D_116_30 : decode J_116.2.2.1 30 = .ok (.bipush 6, 2) := dzq_16 (by decide +kernel)
theorem D_116_32 : decode J_116.2.2.1 32 = .ok (.iconst 0, 1) := dzq_3 (by decide +kernel)
theorem D_116_33 : decode J_116.2.2.1 33 = .ok (.invokevirtual 132, 3) := dzq_182 (by decide +kernel)
theorem D_116_36 : decode J_116.2.2.1 36 = .ok (.iconst 0, 1) := dzq_3 (by decide +kernel)
theorem D_116_37 : decode J_116.2.2.1 37 = .ok (.istore_n 2, 1) := dzq_61 (by decide +kernel)
theorem D_116_38 : decode J_116.2.2.1 38 = .ok (.iload_n 2, 1) := dzq_28 (by decide +kernel)
theorem D_116_39 : decode J_116.2.2.1 39 = .ok (.aload_n 0, 1) := dzq_42 (by decide +kernel)
theorem D_116_40 : decode J_116.2.2.1 40 = .ok (.getfield 11, 3) := dzq_180 (by decide +kernel)
theorem D_116_43 : decode J_116.2.2.1 43 = .ok (.iload_n 1, 1) := dzq_27 (by decide +kernel)
theorem D_116_44 : decode J_116.2.2.1 44 = .ok (.iaload, 1) := dzq_46 (by decide +kernel)
theorem D_116_45 : decode J_116.2.2.1 45 = .ok (.if_icmp .ge 16, 3) := dzq_162 (by decide +kernel)
theorem D_116_48 : decode J_116.2.2.1 48 = .ok (.aload_n 0, 1) := dzq_42 (by decide +kernel)
theorem D_116_49 : decode J_116.2.2.1 49 = .ok (.iload_n 1, 1) := dzq_27 (by decide +kernel)
theorem D_116_50 : decode J_116.2.2.1 50 = .ok (.iconst 0, 1) := dzq_3 (by decide +kernel)
theorem D_116_51 : decode J_116.2.2.1 51 = .ok (.iload_n 2, 1) := dzq_28 (by decide +kernel)
theorem D_116_52 : decode J_116.2.2.1 52 = .ok (.invokevirtual 132, 3) := dzq_182 (by decide +kernel)
theorem D_116_55 : decode J_116.2.2.1 55 = .ok (.iinc 2 1, 3) := dzq_132 (by decide +kernel)
theorem D_116_58 : decode J_116.2.2.1 58 = .ok (.goto (-20), 3) := dzq_167 (by decide +kernel)
theorem D_116_61 : decode J_116.2.2.1 61 = .ok (.iconst 0, 1) := dzq_3 (by decide +kernel)
theorem D_116_62 : decode J_116.2.2.1 62 = .ok (.istore_n 2, 1) := dzq_61 (by decide +kernel)
theorem D_116_63 : decode J_116.2.2.1 63 = .ok (.iload_n 2, 1) := dzq_28 (by decide +kernel)
theorem D_116_64 : decode J_116.2.2.1 64 = .ok (.aload_n 0, 1) := dzq_42 (by decide +kernel)
theorem D_116_65 : decode J_116.2.2.1 65 = .ok (.getfield 18, 3) := dzq_180 (by decide +kernel)
theorem D_116_68 : decode J_116.2.2.1 68 = .ok (.iload_n 1, 1) := dzq_27 (by decide +kernel)
theorem D_116_69 : decode J_116.2.2.1 69 = .ok (.iaload, 1) := dzq_46 (by decide +kernel)
theorem D_116_70 : decode J_116.2.2.1 70 = .ok (.if_icmp .ge 34, 3) := dzq_162 (by decide +kernel)
theorem D_116_73 : decode J_116.2.2.1 73 = .ok (.aload_n 0, 1) := dzq_42 (by decide +kernel)
theorem D_116_74 : decode J_116.2.2.1 74 = .ok (.getfield 21, 3) := dzq_180 (by decide +kernel)
theorem D_116_77 : decode J_116.2.2.1 77 = .ok (.iload_n 1, 1) := dzq_27 (by decide +kernel)
theorem D_116_78 : decode J_116.2.2.1 78 = .ok (.bipush 8, 2) := dzq_16 (by decide +kernel)
theorem D_116_80 : decode J_116.2.2.1 80 = .ok (.imul, 1) := dzq_104 (by decide +kernel)
theorem D_116_81 : decode J_116.2.2.1 81 = .ok (.iload_n 2, 1) := dzq_28 (by decide +kernel)
theorem D_116_82 : decode J_116.2.2.1 82 = .ok (.iadd, 1) := dzq_96 (by decide +kernel)
theorem D_116_83 : decode J_116.2.2.1 83 = .ok (.iaload, 1) := dzq_46 (by decide +kernel)
theorem D_116_84 : decode J_116.2.2.1 84 = .ok (.istore_n 3, 1) := dzq_62 (by decide +kernel)
theorem D_116_85 : decode J_116.2.2.1 85 = .ok (.aload_n 0, 1) := dzq_42 (by decide +kernel)
theorem D_116_86 : decode J_116.2.2.1 86 = .ok (.iload_n 1, 1) := dzq_27 (by decide +kernel)
theorem D_116_87 : decode J_116.2.2.1 87 = .ok (.iload_n 3, 1) := dzq_29 (by decide +kernel)
theorem D_116_88 : decode J_116.2.2.1 88 = .ok (.bipush 7, 2) := dzq_16 (by decide +kernel)
theorem D_116_90 : decode J_116.2.2.1 90 = .ok (.idiv, 1) := by decide +kernel
theorem D_116_91 : decode J_116.2.2.1 91 = .ok (.iload_n 3, 1) := dzq_29 (by decide +kernel)
theorem D_116_92 : decode J_116.2.2.1 92 = .ok (.bipush 7, 2) := dzq_16 (by decide +kernel)
theorem D_116_94 : decode J_116.2.2.1 94 = .ok (.irem, 1) := by decide +kernel
theorem D_116_95 : decode J_116.2.2.1 95 = .ok (.invokevirtual 132, 3) := dzq_182 (by decide +kernel)
theorem D_116_98 : decode J_116.2.2.1 98 = .ok (.iinc 2 1, 3) := dzq_132 (by decide +kernel)
theorem D_116_101 : decode J_116.2.2.1 101 = .ok (.goto (-38), 3) := dzq_167 (by decide +kernel)
theorem D_116_104 : decode J_116.2.2.1 104 = .ok (.return_, 1) := dzq_177 (by decide +kernel)
def P_116_63 (X : mjX) (d C S kc ks : Nat) (k : Nat → Int32 → Int32 → mjH → mjU) : Prop := ∀ (l0 : Nat) (l1 : Int32) (l2 : Int32) (hp : mjH) (q : Option Value × mjH), k l0 l1 l2 hp = some q → mjG X d C S J_116 (mjEq q) 63 [some (.ref l0), some (.int l1), some (.int l2), none] [] hp kc ks
def P_116_38 (X : mjX) (d C S kc ks : Nat) (k : Nat → Int32 → Int32 → mjH → mjU) : Prop := ∀ (l0 : Nat) (l1 : Int32) (l2 : Int32) (hp : mjH) (q : Option Value × mjH), k l0 l1 l2 hp = some q → mjG X d C S J_116 (mjEq q) 38 [some (.ref l0), some (.int l1), some (.int l2), none] [] hp kc ks
def P_116_2 (X : mjX) (d C S kc ks : Nat) (k : Nat → Int32 → Int32 → mjH → mjU) : Prop := ∀ (l0 : Nat) (l1 : Int32) (l2 : Int32) (hp : mjH) (q : Option Value × mjH), k l0 l1 l2 hp = some q → mjG X d C S J_116 (mjEq q) 2 [some (.ref l0), some (.int l1), some (.int l2), none] [] hp kc ks
def P_116_0 (X : mjX) (d C S kc ks : Nat) (k : Nat → Int32 → mjH → mjU) : Prop := ∀ (l0 : Nat) (l1 : Int32) (hp : mjH) (q : Option Value × mjH), k l0 l1 hp = some q → mjG X d C S J_116 (mjEq q) 0 [some (.ref l0), some (.int l1), none, none] [] hp kc ks
noncomputable def b_116_63 (R : mjR) (k63 : Nat → Int32 → Int32 → mjH → mjU) (l0 : Nat) (l1 : Int32) (l2 : Int32) (hp : mjH) : mjU := gR hp l0 7 3 (fun v1 => aI hp v1 l1 (fun v2 => (if v2 ≤ l2 then some (none, hp) else gR hp l0 7 4 (fun v3 => aI hp v3 ((l1 * (8 : Int32)) + l2) (fun v4 => rV hp l0 7 (bN (R 117 [.ref l0, .int l1, .int (v4 / (7 : Int32)), .int (v4 - v4 / (7 : Int32) * (7 : Int32))] hp) (fun  hp5 => k63 l0 l1 (l2 + (1 : Int32)) hp5)))))))
theorem t_116_63 {X : mjX} {d C S kc ks : Nat} {R : mjR} (hR : mjC R d) (h1 : kc ≤ C) (h2 : ks ≤ S) {k63 : Nat → Int32 → Int32 → mjH → mjU} (hk63 : P_116_63 X (d + 1) C S kc ks k63) : P_116_63 X (d + 1) C S kc ks (b_116_63 R k63) := by
  intro l0 l1 l2 hp q h
  unfold b_116_63 at h
  refine mjr_iload_n (x := l2) D_116_63 rfl ?_
  refine mjr_aload_n (x := l0) D_116_64 rfl ?_
  refine mjq_gR D_116_65 fr_7_18 h (fun v1 h => ?_)
  refine mjr_iload_n (x := l1) D_116_68 rfl ?_
  refine mjq_aI D_116_69 h (fun v2 h => ?_)
  refine mjq_icmp_ge (tgt := 104) D_116_70 rfl h (fun h => ?_) (fun h => ?_)
  · exact mjq_nret D_116_104 rfl h1 h2 h
  · refine mjr_aload_n (x := l0) D_116_73 rfl ?_
    refine mjq_gR D_116_74 fr_7_21 h (fun v3 h => ?_)
    refine mjr_iload_n (x := l1) D_116_77 rfl ?_
    refine mjq_bi (v := (8 : Int32)) D_116_78 rfl ?_
    refine mjr_imul D_116_80 ?_
    refine mjr_iload_n (x := l2) D_116_81 rfl ?_
    refine mjr_iadd D_116_82 ?_
    refine mjq_aI D_116_83 h (fun v4 h => ?_)
    refine mjq_istore_n (lo' := [some (.ref l0), some (.int l1), some (.int l2), some (.int v4)]) D_116_84 (Nat.le_of_ble_eq_true rfl) rfl ?_
    refine mjr_aload_n (x := l0) D_116_85 rfl ?_
    refine mjr_iload_n (x := l1) D_116_86 rfl ?_
    refine mjr_iload_n (x := v4) D_116_87 rfl ?_
    refine mjq_bi (v := (7 : Int32)) D_116_88 rfl ?_
    refine mjr_idiv D_116_90 (by decide) ?_
    refine mjr_iload_n (x := v4) D_116_91 rfl ?_
    refine mjq_bi (v := (7 : Int32)) D_116_92 rfl ?_
    refine mjr_irem D_116_94 (by decide) ?_
    refine mjq_vN (As := [.int l1, .int (v4 / (7 : Int32)), .int (v4 - v4 / (7 : Int32) * (7 : Int32))]) (rest := []) D_116_95 mr_7_132 V_117 rfl rfl rfl hR (Nat.le_refl _) h1 h2 h (fun  hp5 h => ?_)
    refine mjq_iinc (x := l2) (c := (1 : Int32)) (lo' := [some (.ref l0), some (.int l1), some (.int (l2 + (1 : Int32))), some (.int v4)]) D_116_98 rfl (Nat.le_of_ble_eq_true rfl) rfl rfl ?_
    refine mjr_goto (tgt := 63) D_116_101 rfl ?_
    exact mjG.fg (lo' := [some (.ref l0), some (.int l1), some (.int (l2 + (1 : Int32))), none]) (And.intro rfl (And.intro rfl (And.intro rfl True.intro))) (hk63 _ _ _ _ _ h)
noncomputable def L_116_63 (R : mjR) (n : Nat) : Nat → Int32 → Int32 → mjH → mjU := Nat.rec (motive := fun _ => Nat → Int32 → Int32 → mjH → mjU) (fun _ _ _ _ => none) (fun _ self => b_116_63 R self) n
theorem T_116_63 {X : mjX} {d C S kc ks : Nat} {R : mjR} (hR : mjC R d) (h1 : kc ≤ C) (h2 : ks ≤ S) (n : Nat) : P_116_63 X (d + 1) C S kc ks (L_116_63 R n) := by
  induction n with
  | zero => intro _ _ _ _ _ h; exact mj_no h
  | succ n ih => exact t_116_63 hR h1 h2 ih
noncomputable def b_116_38 (R : mjR) (k38 : Nat → Int32 → Int32 → mjH → mjU) (l0 : Nat) (l1 : Int32) (l2 : Int32) (hp : mjH) : mjU := gR hp l0 7 1 (fun v1 => aI hp v1 l1 (fun v2 => (if v2 ≤ l2 then L_116_63 R mjN l0 l1 (0 : Int32) hp else rV hp l0 7 (bN (R 117 [.ref l0, .int l1, .int (0 : Int32), .int l2] hp) (fun  hp3 => k38 l0 l1 (l2 + (1 : Int32)) hp3)))))
theorem t_116_38 {X : mjX} {d C S kc ks : Nat} {R : mjR} (hR : mjC R d) (h1 : kc ≤ C) (h2 : ks ≤ S) {k38 : Nat → Int32 → Int32 → mjH → mjU} (hk38 : P_116_38 X (d + 1) C S kc ks k38) : P_116_38 X (d + 1) C S kc ks (b_116_38 R k38) := by
  intro l0 l1 l2 hp q h
  unfold b_116_38 at h
  refine mjr_iload_n (x := l2) D_116_38 rfl ?_
  refine mjr_aload_n (x := l0) D_116_39 rfl ?_
  refine mjq_gR D_116_40 fr_7_11 h (fun v1 h => ?_)
  refine mjr_iload_n (x := l1) D_116_43 rfl ?_
  refine mjq_aI D_116_44 h (fun v2 h => ?_)
  refine mjq_icmp_ge (tgt := 61) D_116_45 rfl h (fun h => ?_) (fun h => ?_)
  · refine mjq_ic (v := (0 : Int32)) D_116_61 rfl ?_
    refine mjq_istore_n (lo' := [some (.ref l0), some (.int l1), some (.int (0 : Int32)), none]) D_116_62 (Nat.le_of_ble_eq_true rfl) rfl ?_
    exact (T_116_63 hR h1 h2 mjN) _ _ _ _ _ h
  · refine mjr_aload_n (x := l0) D_116_48 rfl ?_
    refine mjr_iload_n (x := l1) D_116_49 rfl ?_
    refine mjq_ic (v := (0 : Int32)) D_116_50 rfl ?_
    refine mjr_iload_n (x := l2) D_116_51 rfl ?_
    refine mjq_vN (As := [.int l1, .int (0 : Int32), .int l2]) (rest := []) D_116_52 mr_7_132 V_117 rfl rfl rfl hR (Nat.le_refl _) h1 h2 h (fun  hp3 h => ?_)
    refine mjq_iinc (x := l2) (c := (1 : Int32)) (lo' := [some (.ref l0), some (.int l1), some (.int (l2 + (1 : Int32))), none]) D_116_55 rfl (Nat.le_of_ble_eq_true rfl) rfl rfl ?_
    refine mjr_goto (tgt := 38) D_116_58 rfl ?_
    exact hk38 _ _ _ _ _ h
noncomputable def L_116_38 (R : mjR) (n : Nat) : Nat → Int32 → Int32 → mjH → mjU := Nat.rec (motive := fun _ => Nat → Int32 → Int32 → mjH → mjU) (fun _ _ _ _ => none) (fun _ self => b_116_38 R self) n
theorem T_116_38 {X : mjX} {d C S kc ks : Nat} {R : mjR} (hR : mjC R d) (h1 : kc ≤ C) (h2 : ks ≤ S) (n : Nat) : P_116_38 X (d + 1) C S kc ks (L_116_38 R n) := by
  induction n with
  | zero => intro _ _ _ _ _ h; exact mj_no h
  | succ n ih => exact t_116_38 hR h1 h2 ih
noncomputable def b_116_2 (R : mjR) (k2 : Nat → Int32 → Int32 → mjH → mjU) (l0 : Nat) (l1 : Int32) (l2 : Int32) (hp : mjH) : mjU := (if (7 : Int32) ≤ l2 then rV hp l0 7 (bN (R 117 [.ref l0, .int l1, .int (6 : Int32), .int (0 : Int32)] hp) (fun  hp1 => L_116_38 R mjN l0 l1 (0 : Int32) hp1)) else rV hp l0 7 (bN (R 117 [.ref l0, .int l1, .int l2, .int l2] hp) (fun  hp2 => rV hp2 l0 7 (bN (R 117 [.ref l0, .int l1, .int l2, .int (5 : Int32)] hp2) (fun  hp3 => k2 l0 l1 (l2 + (1 : Int32)) hp3)))))
theorem t_116_2 {X : mjX} {d C S kc ks : Nat} {R : mjR} (hR : mjC R d) (h1 : kc ≤ C) (h2 : ks ≤ S) {k2 : Nat → Int32 → Int32 → mjH → mjU} (hk2 : P_116_2 X (d + 1) C S kc ks k2) : P_116_2 X (d + 1) C S kc ks (b_116_2 R k2) := by
  intro l0 l1 l2 hp q h
  unfold b_116_2 at h
  refine mjr_iload_n (x := l2) D_116_2 rfl ?_
  refine mjq_bi (v := (7 : Int32)) D_116_3 rfl ?_
  refine mjq_icmp_ge (tgt := 28) D_116_5 rfl h (fun h => ?_) (fun h => ?_)
  · refine mjr_aload_n (x := l0) D_116_28 rfl ?_
    refine mjr_iload_n (x := l1) D_116_29 rfl ?_
    refine mjq_bi (v := (6 : Int32)) D_116_30 rfl ?_
    refine mjq_ic (v := (0 : Int32)) D_116_32 rfl ?_
    refine mjq_vN (As := [.int l1, .int (6 : Int32), .int (0 : Int32)]) (rest := []) D_116_33 mr_7_132 V_117 rfl rfl rfl hR (Nat.le_refl _) h1 h2 h (fun  hp1 h => ?_)
    refine mjq_ic (v := (0 : Int32)) D_116_36 rfl ?_
    refine mjq_istore_n (lo' := [some (.ref l0), some (.int l1), some (.int (0 : Int32)), none]) D_116_37 (Nat.le_of_ble_eq_true rfl) rfl ?_
    exact (T_116_38 hR h1 h2 mjN) _ _ _ _ _ h
  · refine mjr_aload_n (x := l0) D_116_8 rfl ?_
    refine mjr_iload_n (x := l1) D_116_9 rfl ?_
    refine mjr_iload_n (x := l2) D_116_10 rfl ?_
    refine mjr_iload_n (x := l2) D_116_11 rfl ?_
    refine mjq_vN (As := [.int l1, .int l2, .int l2]) (rest := []) D_116_12 mr_7_132 V_117 rfl rfl rfl hR (Nat.le_refl _) h1 h2 h (fun  hp2 h => ?_)
    refine mjr_aload_n (x := l0) D_116_15 rfl ?_
    refine mjr_iload_n (x := l1) D_116_16 rfl ?_
    refine mjr_iload_n (x := l2) D_116_17 rfl ?_
    refine mjq_ic (v := (5 : Int32)) D_116_18 rfl ?_
    refine mjq_vN (As := [.int l1, .int l2, .int (5 : Int32)]) (rest := []) D_116_19 mr_7_132 V_117 rfl rfl rfl hR (Nat.le_refl _) h1 h2 h (fun  hp3 h => ?_)
    refine mjq_iinc (x := l2) (c := (1 : Int32)) (lo' := [some (.ref l0), some (.int l1), some (.int (l2 + (1 : Int32))), none]) D_116_22 rfl (Nat.le_of_ble_eq_true rfl) rfl rfl ?_
    refine mjr_goto (tgt := 2) D_116_25 rfl ?_
    exact hk2 _ _ _ _ _ h
noncomputable def L_116_2 (R : mjR) (n : Nat) : Nat → Int32 → Int32 → mjH → mjU := Nat.rec (motive := fun _ => Nat → Int32 → Int32 → mjH → mjU) (fun _ _ _ _ => none) (fun _ self => b_116_2 R self) n
theorem T_116_2 {X : mjX} {d C S kc ks : Nat} {R : mjR} (hR : mjC R d) (h1 : kc ≤ C) (h2 : ks ≤ S) (n : Nat) : P_116_2 X (d + 1) C S kc ks (L_116_2 R n) := by
  induction n with
  | zero => intro _ _ _ _ _ h; exact mj_no h
  | succ n ih => exact t_116_2 hR h1 h2 ih
noncomputable def b_116_0 (R : mjR) (l0 : Nat) (l1 : Int32) (hp : mjH) : mjU := L_116_2 R mjN l0 l1 (0 : Int32) hp
theorem t_116_0 {X : mjX} {d C S kc ks : Nat} {R : mjR} (hR : mjC R d) (h1 : kc ≤ C) (h2 : ks ≤ S) : P_116_0 X (d + 1) C S kc ks (b_116_0 R) := by
  intro l0 l1 hp q h
  unfold b_116_0 at h
  refine mjq_ic (v := (0 : Int32)) D_116_0 rfl ?_
  refine mjq_istore_n (lo' := [some (.ref l0), some (.int l1), some (.int (0 : Int32)), none]) D_116_1 (Nat.le_of_ble_eq_true rfl) rfl ?_
  exact (T_116_2 hR h1 h2 mjN) _ _ _ _ _ h
noncomputable def f_116 (R : mjR) (a0 : Nat) (a1 : Int32) (hp : mjH) : mjU := b_116_0 R a0 a1 hp
theorem c_116 {R : mjR} {d : Nat} (hR : mjC R d) {a0 : Nat} {a1 : Int32} {hp : mjH} {q : Option Value × mjH} (h : f_116 R a0 a1 hp = some q) : mjM (d + 1) 0 0 116 [.ref a0, .int a1] hp (mjEq q) :=
  mjM_of Ja_116 (Nat.le_of_ble_eq_true rfl) (mjG.fg (lo' := [some (.ref a0), some (.int a1), none, none]) (And.intro rfl (And.intro rfl True.intro)) ((t_116_0 hR (Nat.le_refl 0) (Nat.le_refl 0)) a0 a1 hp q h))
def J_117 : mjI := (⟨"OwnerHeap$Program", "know", "(III)V"⟩, 7, prog_9_method_19_code, 4, none, 3, false)
theorem Ja_117 : mjMt 117 = some J_117 := by rfl
theorem D_117_0 : decode J_117.2.2.1 0 = .ok (.aload_n 0, 1) := dzq_42 (by decide +kernel)
theorem D_117_1 : decode J_117.2.2.1 1 = .ok (.getfield 42, 3) := dzq_180 (by decide +kernel)
theorem D_117_4 : decode J_117.2.2.1 4 = .ok (.iload_n 1, 1) := dzq_27 (by decide +kernel)
theorem D_117_5 : decode J_117.2.2.1 5 = .ok (.bipush 7, 2) := dzq_16 (by decide +kernel)
theorem D_117_7 : decode J_117.2.2.1 7 = .ok (.imul, 1) := dzq_104 (by decide +kernel)
theorem D_117_8 : decode J_117.2.2.1 8 = .ok (.iload_n 2, 1) := dzq_28 (by decide +kernel)
theorem D_117_9 : decode J_117.2.2.1 9 = .ok (.iadd, 1) := dzq_96 (by decide +kernel)
theorem D_117_10 : decode J_117.2.2.1 10 = .ok (.dup2, 1) := by decide +kernel
theorem D_117_11 : decode J_117.2.2.1 11 = .ok (.iaload, 1) := dzq_46 (by decide +kernel)
theorem D_117_12 : decode J_117.2.2.1 12 = .ok (.iconst 1, 1) := dzq_4 (by decide +kernel)
theorem D_117_13 : decode J_117.2.2.1 13 = .ok (.iload_n 3, 1) := dzq_29 (by decide +kernel)
theorem D_117_14 : decode J_117.2.2.1 14 = .ok (.ishl, 1) := by decide +kernel
theorem D_117_15 : decode J_117.2.2.1 15 = .ok (.ior, 1) := by decide +kernel
theorem D_117_16 : decode J_117.2.2.1 16 = .ok (.iastore, 1) := dzq_79 (by decide +kernel)
theorem D_117_17 : decode J_117.2.2.1 17 = .ok (.return_, 1) := dzq_177 (by decide +kernel)
def P_117_0 (X : mjX) (d C S kc ks : Nat) (k : Nat → Int32 → Int32 → Int32 → mjH → mjU) : Prop := ∀ (l0 : Nat) (l1 : Int32) (l2 : Int32) (l3 : Int32) (hp : mjH) (q : Option Value × mjH), k l0 l1 l2 l3 hp = some q → mjG X d C S J_117 (mjEq q) 0 [some (.ref l0), some (.int l1), some (.int l2), some (.int l3)] [] hp kc ks
noncomputable def b_117_0 (R : mjR) (l0 : Nat) (l1 : Int32) (l2 : Int32) (l3 : Int32) (hp : mjH) : mjU := gR hp l0 7 11 (fun v1 => aI hp v1 ((l1 * (7 : Int32)) + l2) (fun v2 => sI hp v1 ((l1 * (7 : Int32)) + l2) (v2 ||| ((1 : Int32) <<< (l3 &&& 31))) (fun hp3 => some (none, hp3))))
theorem t_117_0 {X : mjX} {d C S kc ks : Nat} {R : mjR} (hR : mjC R d) (h1 : kc ≤ C) (h2 : ks ≤ S) : P_117_0 X (d + 1) C S kc ks (b_117_0 R) := by
  intro l0 l1 l2 l3 hp q h
  unfold b_117_0 at h
  refine mjr_aload_n (x := l0) D_117_0 rfl ?_
  refine mjq_gR D_117_1 fr_7_42 h (fun v1 h => ?_)
  refine mjr_iload_n (x := l1) D_117_4 rfl ?_
  refine mjq_bi (v := (7 : Int32)) D_117_5 rfl ?_
  refine mjr_imul D_117_7 ?_
  refine mjr_iload_n (x := l2) D_117_8 rfl ?_
  refine mjr_iadd D_117_9 ?_
  refine mjr_dup2 D_117_10 rfl rfl ?_
  refine mjq_aI D_117_11 h (fun v2 h => ?_)
  refine mjq_ic (v := (1 : Int32)) D_117_12 rfl ?_
  refine mjr_iload_n (x := l3) D_117_13 rfl ?_
  refine mjr_ishl D_117_14 ?_
  refine mjr_ior D_117_15 ?_
  refine mjq_sI D_117_16 h (fun hp3 h => ?_)
  exact mjq_nret D_117_17 rfl h1 h2 h
noncomputable def f_117 (R : mjR) (a0 : Nat) (a1 : Int32) (a2 : Int32) (a3 : Int32) (hp : mjH) : mjU := b_117_0 R a0 a1 a2 a3 hp
theorem c_117 {R : mjR} {d : Nat} (hR : mjC R d) {a0 : Nat} {a1 : Int32} {a2 : Int32} {a3 : Int32} {hp : mjH} {q : Option Value × mjH} (h : f_117 R a0 a1 a2 a3 hp = some q) : mjM (d + 1) 0 0 117 [.ref a0, .int a1, .int a2, .int a3] hp (mjEq q) :=
  mjM_of Ja_117 (Nat.le_of_ble_eq_true rfl) (mjG.fg (lo' := [some (.ref a0), some (.int a1), some (.int a2), some (.int a3)]) (And.intro rfl (And.intro rfl (And.intro rfl (And.intro rfl True.intro)))) ((t_117_0 hR (Nat.le_refl 0) (Nat.le_refl 0)) a0 a1 a2 a3 hp q h))
def J_118 : mjI := (⟨"OwnerHeap$Program", "closeKnown", "(I)V"⟩, 7, prog_9_method_20_code, 4, none, 1, false)
theorem Ja_118 : mjMt 118 = some J_118 := by rfl
theorem D_118_0 : decode J_118.2.2.1 0 = .ok (.iconst 0, 1) := dzq_3 (by decide +kernel)
theorem D_118_1 : decode J_118.2.2.1 1 = .ok (.istore_n 2, 1) := dzq_61 (by decide +kernel)
theorem D_118_2 : decode J_118.2.2.1 2 = .ok (.iload_n 2, 1) := dzq_28 (by decide +kernel)
theorem D_118_3 : decode J_118.2.2.1 3 = .ok (.bipush 7, 2) := dzq_16 (by decide +kernel)
theorem D_118_5 : decode J_118.2.2.1 5 = .ok (.if_icmp .ge 58, 3) := dzq_162 (by decide +kernel)
theorem D_118_8 : decode J_118.2.2.1 8 = .ok (.iconst 0, 1) := dzq_3 (by decide +kernel)
theorem D_118_9 : decode J_118.2.2.1 9 = .ok (.istore_n 3, 1) := dzq_62 (by decide +kernel)
theorem D_118_10 : decode J_118.2.2.1 10 = .ok (.iload_n 3, 1) := dzq_29 (by decide +kernel)
theorem D_118_11 : decode J_118.2.2.1 11 = .ok (.bipush 7, 2) := dzq_16 (by decide +kernel)
theorem D_118_13 : decode J_118.2.2.1 13 = .ok (.if_icmp .ge 44, 3) := dzq_162 (by decide +kernel)
theorem D_118_16 : decode J_118.2.2.1 16 = .ok (.aload_n 0, 1) := dzq_42 (by decide +kernel)
theorem D_118_17 : decode J_118.2.2.1 17 = .ok (.iload_n 1, 1) := dzq_27 (by decide +kernel)
theorem D_118_18 : decode J_118.2.2.1 18 = .ok (.iload_n 3, 1) := dzq_29 (by decide +kernel)
theorem D_118_19 : decode J_118.2.2.1 19 = .ok (.iload_n 2, 1) := dzq_28 (by decide +kernel)
theorem D_118_20 : decode J_118.2.2.1 20 = .ok (.invokevirtual 136, 3) := dzq_182 (by decide +kernel)
theorem D_118_23 : decode J_118.2.2.1 23 = .ok (.ifCond .eq 28, 3) := dzq_153 (by decide +kernel)
theorem D_118_26 : decode J_118.2.2.1 26 = .ok (.aload_n 0, 1) := dzq_42 (by decide +kernel)
theorem D_118_27 : decode J_118.2.2.1 27 = .ok (.getfield 42, 3) := dzq_180 (by decide +kernel)
theorem D_118_30 : decode J_118.2.2.1 30 = .ok (.iload_n 1, 1) := dzq_27 (by decide +kernel)
theorem D_118_31 : decode J_118.2.2.1 31 = .ok (.bipush 7, 2) := dzq_16 (by decide +kernel)
theorem D_118_33 : decode J_118.2.2.1 33 = .ok (.imul, 1) := dzq_104 (by decide +kernel)
theorem D_118_34 : decode J_118.2.2.1 34 = .ok (.iload_n 3, 1) := dzq_29 (by decide +kernel)
theorem D_118_35 : decode J_118.2.2.1 35 = .ok (.iadd, 1) := dzq_96 (by decide +kernel)
theorem D_118_36 : decode J_118.2.2.1 36 = .ok (.dup2, 1) := by decide +kernel
theorem D_118_37 : decode J_118.2.2.1 37 = .ok (.iaload, 1) := dzq_46 (by decide +kernel)
theorem D_118_38 : decode J_118.2.2.1 38 = .ok (.aload_n 0, 1) := dzq_42 (by decide +kernel)
theorem D_118_39 : decode J_118.2.2.1 39 = .ok (.getfield 42, 3) := dzq_180 (by decide +kernel)
theorem D_118_42 : decode J_118.2.2.1 42 = .ok (.iload_n 1, 1) := dzq_27 (by decide +kernel)
theorem D_118_43 : decode J_118.2.2.1 43 = .ok (.bipush 7, 2) := dzq_16 (by decide +kernel)
theorem D_118_45 : decode J_118.2.2.1 45 = .ok (.imul, 1) := dzq_104 (by decide +kernel)
theorem D_118_46 : decode J_118.2.2.1 46 = .ok (.iload_n 2, 1) := dzq_28 (by decide +kernel)
theorem D_118_47 : decode J_118.2.2.1 47 = .ok (.iadd, 1) := dzq_96 (by decide +kernel)
theorem D_118_48 : decode J_118.2.2.1 48 = .ok (.iaload, 1) := dzq_46 (by decide +kernel)
theorem D_118_49 : decode J_118.2.2.1 49 = .ok (.ior, 1) := by decide +kernel
theorem D_118_50 : decode J_118.2.2.1 50 = .ok (.iastore, 1) := dzq_79 (by decide +kernel)
theorem D_118_51 : decode J_118.2.2.1 51 = .ok (.iinc 3 1, 3) := dzq_132 (by decide +kernel)
theorem D_118_54 : decode J_118.2.2.1 54 = .ok (.goto (-44), 3) := dzq_167 (by decide +kernel)
theorem D_118_57 : decode J_118.2.2.1 57 = .ok (.iinc 2 1, 3) := dzq_132 (by decide +kernel)
theorem D_118_60 : decode J_118.2.2.1 60 = .ok (.goto (-58), 3) := dzq_167 (by decide +kernel)
theorem D_118_63 : decode J_118.2.2.1 63 = .ok (.return_, 1) := dzq_177 (by decide +kernel)
def P_118_51 (X : mjX) (d C S kc ks : Nat) (k : Nat → Int32 → Int32 → Int32 → mjH → mjU) : Prop := ∀ (l0 : Nat) (l1 : Int32) (l2 : Int32) (l3 : Int32) (hp : mjH) (q : Option Value × mjH), k l0 l1 l2 l3 hp = some q → mjG X d C S J_118 (mjEq q) 51 [some (.ref l0), some (.int l1), some (.int l2), some (.int l3)] [] hp kc ks
def P_118_10 (X : mjX) (d C S kc ks : Nat) (k : Nat → Int32 → Int32 → Int32 → mjH → mjU) : Prop := ∀ (l0 : Nat) (l1 : Int32) (l2 : Int32) (l3 : Int32) (hp : mjH) (q : Option Value × mjH), k l0 l1 l2 l3 hp = some q → mjG X d C S J_118 (mjEq q) 10 [some (.ref l0), some (.int l1), some (.int l2), some (.int l3)] [] hp kc ks
def P_118_2 (X : mjX) (d C S kc ks : Nat) (k : Nat → Int32 → Int32 → mjH → mjU) : Prop := ∀ (l0 : Nat) (l1 : Int32) (l2 : Int32) (hp : mjH) (q : Option Value × mjH), k l0 l1 l2 hp = some q → mjG X d C S J_118 (mjEq q) 2 [some (.ref l0), some (.int l1), some (.int l2), none] [] hp kc ks
def P_118_0 (X : mjX) (d C S kc ks : Nat) (k : Nat → Int32 → mjH → mjU) : Prop := ∀ (l0 : Nat) (l1 : Int32) (hp : mjH) (q : Option Value × mjH), k l0 l1 hp = some q → mjG X d C S J_118 (mjEq q) 0 [some (.ref l0), some (.int l1), none, none] [] hp kc ks
noncomputable def b_118_51 (R : mjR) (k2 : Nat → Int32 → Int32 → mjH → mjU) (k10 : Nat → Int32 → Int32 → Int32 → mjH → mjU) (l0 : Nat) (l1 : Int32) (l2 : Int32) (l3 : Int32) (hp : mjH) : mjU := k10 l0 l1 l2 (l3 + (1 : Int32)) hp
theorem t_118_51 {X : mjX} {d C S kc ks : Nat} {R : mjR} (hR : mjC R d) (h1 : kc ≤ C) (h2 : ks ≤ S) {k2 : Nat → Int32 → Int32 → mjH → mjU} (hk2 : P_118_2 X (d + 1) C S kc ks k2) {k10 : Nat → Int32 → Int32 → Int32 → mjH → mjU} (hk10 : P_118_10 X (d + 1) C S kc ks k10) : P_118_51 X (d + 1) C S kc ks (b_118_51 R k2 k10) := by
  intro l0 l1 l2 l3 hp q h
  unfold b_118_51 at h
  refine mjq_iinc (x := l3) (c := (1 : Int32)) (lo' := [some (.ref l0), some (.int l1), some (.int l2), some (.int (l3 + (1 : Int32)))]) D_118_51 rfl (Nat.le_of_ble_eq_true rfl) rfl rfl ?_
  refine mjr_goto (tgt := 10) D_118_54 rfl ?_
  exact hk10 _ _ _ _ _ _ h
noncomputable def b_118_10 (R : mjR) (k2 : Nat → Int32 → Int32 → mjH → mjU) (k10 : Nat → Int32 → Int32 → Int32 → mjH → mjU) (l0 : Nat) (l1 : Int32) (l2 : Int32) (l3 : Int32) (hp : mjH) : mjU := (if (7 : Int32) ≤ l3 then k2 l0 l1 (l2 + (1 : Int32)) hp else rV hp l0 7 (bI (R 107 [.ref l0, .int l1, .int l3, .int l2] hp) (fun v1 hp2 => (if v1 = 0 then b_118_51 R k2 k10 l0 l1 l2 l3 hp2 else gR hp2 l0 7 11 (fun v3 => aI hp2 v3 ((l1 * (7 : Int32)) + l3) (fun v4 => gR hp2 l0 7 11 (fun v5 => aI hp2 v5 ((l1 * (7 : Int32)) + l2) (fun v6 => sI hp2 v3 ((l1 * (7 : Int32)) + l3) (v4 ||| v6) (fun hp7 => b_118_51 R k2 k10 l0 l1 l2 l3 hp7)))))))))
theorem t_118_10 {X : mjX} {d C S kc ks : Nat} {R : mjR} (hR : mjC R d) (h1 : kc ≤ C) (h2 : ks ≤ S) {k2 : Nat → Int32 → Int32 → mjH → mjU} (hk2 : P_118_2 X (d + 1) C S kc ks k2) {k10 : Nat → Int32 → Int32 → Int32 → mjH → mjU} (hk10 : P_118_10 X (d + 1) C S kc ks k10) : P_118_10 X (d + 1) C S kc ks (b_118_10 R k2 k10) := by
  intro l0 l1 l2 l3 hp q h
  unfold b_118_10 at h
  refine mjr_iload_n (x := l3) D_118_10 rfl ?_
  refine mjq_bi (v := (7 : Int32)) D_118_11 rfl ?_
  refine mjq_icmp_ge (tgt := 57) D_118_13 rfl h (fun h => ?_) (fun h => ?_)
  · refine mjq_iinc (x := l2) (c := (1 : Int32)) (lo' := [some (.ref l0), some (.int l1), some (.int (l2 + (1 : Int32))), some (.int l3)]) D_118_57 rfl (Nat.le_of_ble_eq_true rfl) rfl rfl ?_
    refine mjr_goto (tgt := 2) D_118_60 rfl ?_
    exact mjG.fg (lo' := [some (.ref l0), some (.int l1), some (.int (l2 + (1 : Int32))), none]) (And.intro rfl (And.intro rfl (And.intro rfl True.intro))) (hk2 _ _ _ _ _ h)
  · refine mjr_aload_n (x := l0) D_118_16 rfl ?_
    refine mjr_iload_n (x := l1) D_118_17 rfl ?_
    refine mjr_iload_n (x := l3) D_118_18 rfl ?_
    refine mjr_iload_n (x := l2) D_118_19 rfl ?_
    refine mjq_vI (As := [.int l1, .int l3, .int l2]) (rest := []) D_118_20 mr_7_136 V_107 rfl rfl rfl hR (Nat.le_refl _) h1 h2 h (fun v1 hp2 h => ?_)
    refine mjq_if_eq (tgt := 51) D_118_23 rfl h (fun h => ?_) (fun h => ?_)
    · exact (t_118_51 hR h1 h2 hk2 hk10) _ _ _ _ _ _ h
    · refine mjr_aload_n (x := l0) D_118_26 rfl ?_
      refine mjq_gR D_118_27 fr_7_42 h (fun v3 h => ?_)
      refine mjr_iload_n (x := l1) D_118_30 rfl ?_
      refine mjq_bi (v := (7 : Int32)) D_118_31 rfl ?_
      refine mjr_imul D_118_33 ?_
      refine mjr_iload_n (x := l3) D_118_34 rfl ?_
      refine mjr_iadd D_118_35 ?_
      refine mjr_dup2 D_118_36 rfl rfl ?_
      refine mjq_aI D_118_37 h (fun v4 h => ?_)
      refine mjr_aload_n (x := l0) D_118_38 rfl ?_
      refine mjq_gR D_118_39 fr_7_42 h (fun v5 h => ?_)
      refine mjr_iload_n (x := l1) D_118_42 rfl ?_
      refine mjq_bi (v := (7 : Int32)) D_118_43 rfl ?_
      refine mjr_imul D_118_45 ?_
      refine mjr_iload_n (x := l2) D_118_46 rfl ?_
      refine mjr_iadd D_118_47 ?_
      refine mjq_aI D_118_48 h (fun v6 h => ?_)
      refine mjr_ior D_118_49 ?_
      refine mjq_sI D_118_50 h (fun hp7 h => ?_)
      exact (t_118_51 hR h1 h2 hk2 hk10) _ _ _ _ _ _ h
noncomputable def L_118_10 (R : mjR) (k2 : Nat → Int32 → Int32 → mjH → mjU) (n : Nat) : Nat → Int32 → Int32 → Int32 → mjH → mjU := Nat.rec (motive := fun _ => Nat → Int32 → Int32 → Int32 → mjH → mjU) (fun _ _ _ _ _ => none) (fun _ self => b_118_10 R k2 self) n
theorem T_118_10 {X : mjX} {d C S kc ks : Nat} {R : mjR} (hR : mjC R d) (h1 : kc ≤ C) (h2 : ks ≤ S) {k2 : Nat → Int32 → Int32 → mjH → mjU} (hk2 : P_118_2 X (d + 1) C S kc ks k2) (n : Nat) : P_118_10 X (d + 1) C S kc ks (L_118_10 R k2 n) := by
  induction n with
  | zero => intro _ _ _ _ _ _ h; exact mj_no h
  | succ n ih => exact t_118_10 hR h1 h2 hk2 ih
noncomputable def b_118_2 (R : mjR) (k2 : Nat → Int32 → Int32 → mjH → mjU) (l0 : Nat) (l1 : Int32) (l2 : Int32) (hp : mjH) : mjU := (if (7 : Int32) ≤ l2 then some (none, hp) else L_118_10 R k2 mjN l0 l1 l2 (0 : Int32) hp)
theorem t_118_2 {X : mjX} {d C S kc ks : Nat} {R : mjR} (hR : mjC R d) (h1 : kc ≤ C) (h2 : ks ≤ S) {k2 : Nat → Int32 → Int32 → mjH → mjU} (hk2 : P_118_2 X (d + 1) C S kc ks k2) : P_118_2 X (d + 1) C S kc ks (b_118_2 R k2) := by
  intro l0 l1 l2 hp q h
  unfold b_118_2 at h
  refine mjr_iload_n (x := l2) D_118_2 rfl ?_
  refine mjq_bi (v := (7 : Int32)) D_118_3 rfl ?_
  refine mjq_icmp_ge (tgt := 63) D_118_5 rfl h (fun h => ?_) (fun h => ?_)
  · exact mjq_nret D_118_63 rfl h1 h2 h
  · refine mjq_ic (v := (0 : Int32)) D_118_8 rfl ?_
    refine mjq_istore_n (lo' := [some (.ref l0), some (.int l1), some (.int l2), some (.int (0 : Int32))]) D_118_9 (Nat.le_of_ble_eq_true rfl) rfl ?_
    exact (T_118_10 hR h1 h2 hk2 mjN) _ _ _ _ _ _ h
noncomputable def L_118_2 (R : mjR) (n : Nat) : Nat → Int32 → Int32 → mjH → mjU := Nat.rec (motive := fun _ => Nat → Int32 → Int32 → mjH → mjU) (fun _ _ _ _ => none) (fun _ self => b_118_2 R self) n
theorem T_118_2 {X : mjX} {d C S kc ks : Nat} {R : mjR} (hR : mjC R d) (h1 : kc ≤ C) (h2 : ks ≤ S) (n : Nat) : P_118_2 X (d + 1) C S kc ks (L_118_2 R n) := by
  induction n with
  | zero => intro _ _ _ _ _ h; exact mj_no h
  | succ n ih => exact t_118_2 hR h1 h2 ih
noncomputable def b_118_0 (R : mjR) (l0 : Nat) (l1 : Int32) (hp : mjH) : mjU := L_118_2 R mjN l0 l1 (0 : Int32) hp
theorem t_118_0 {X : mjX} {d C S kc ks : Nat} {R : mjR} (hR : mjC R d) (h1 : kc ≤ C) (h2 : ks ≤ S) : P_118_0 X (d + 1) C S kc ks (b_118_0 R) := by
  intro l0 l1 hp q h
  unfold b_118_0 at h
  refine mjq_ic (v := (0 : Int32)) D_118_0 rfl ?_
  refine mjq_istore_n (lo' := [some (.ref l0), some (.int l1), some (.int (0 : Int32)), none]) D_118_1 (Nat.le_of_ble_eq_true rfl) rfl ?_
  exact (T_118_2 hR h1 h2 mjN) _ _ _ _ _ h
noncomputable def f_118 (R : mjR) (a0 : Nat) (a1 : Int32) (hp : mjH) : mjU := b_118_0 R a0 a1 hp
theorem c_118 {R : mjR} {d : Nat} (hR : mjC R d) {a0 : Nat} {a1 : Int32} {hp : mjH} {q : Option Value × mjH} (h : f_118 R a0 a1 hp = some q) : mjM (d + 1) 0 0 118 [.ref a0, .int a1] hp (mjEq q) :=
  mjM_of Ja_118 (Nat.le_of_ble_eq_true rfl) (mjG.fg (lo' := [some (.ref a0), some (.int a1), none, none]) (And.intro rfl (And.intro rfl True.intro)) ((t_118_0 hR (Nat.le_refl 0) (Nat.le_refl 0)) a0 a1 hp q h))
def J_119 : mjI := (⟨"OwnerHeap$Program", "ownMemberNamed", "(IJ)I"⟩, 7, prog_9_method_25_code, 6, (some .int), 2, false)
theorem Ja_119 : mjMt 119 = some J_119 := by rfl
theorem D_119_0 : decode J_119.2.2.1 0 = .ok (.aload_n 0, 1) := dzq_42 (by decide +kernel)
theorem D_119_1 : decode J_119.2.2.1 1 = .ok (.getfield 36, 3) := dzq_180 (by decide +kernel)
theorem D_119_4 : decode J_119.2.2.1 4 = .ok (.iload_n 1, 1) := dzq_27 (by decide +kernel)
theorem D_119_5 : decode J_119.2.2.1 5 = .ok (.iaload, 1) := dzq_46 (by decide +kernel)
theorem D_119_6 : decode J_119.2.2.1 6 = .ok (.istore 4, 2) := dzq_54 (by decide +kernel)
theorem D_119_8 : decode J_119.2.2.1 8 = .ok (.iload 4, 2) := dzq_21 (by decide +kernel)
theorem D_119_10 : decode J_119.2.2.1 10 = .ok (.istore 5, 2) := dzq_54 (by decide +kernel)
theorem D_119_12 : decode J_119.2.2.1 12 = .ok (.iload 5, 2) := dzq_21 (by decide +kernel)
theorem D_119_14 : decode J_119.2.2.1 14 = .ok (.iload 4, 2) := dzq_21 (by decide +kernel)
theorem D_119_16 : decode J_119.2.2.1 16 = .ok (.aload_n 0, 1) := dzq_42 (by decide +kernel)
theorem D_119_17 : decode J_119.2.2.1 17 = .ok (.getfield 39, 3) := dzq_180 (by decide +kernel)
theorem D_119_20 : decode J_119.2.2.1 20 = .ok (.iload_n 1, 1) := dzq_27 (by decide +kernel)
theorem D_119_21 : decode J_119.2.2.1 21 = .ok (.iaload, 1) := dzq_46 (by decide +kernel)
theorem D_119_22 : decode J_119.2.2.1 22 = .ok (.iadd, 1) := dzq_96 (by decide +kernel)
theorem D_119_23 : decode J_119.2.2.1 23 = .ok (.if_icmp .ge 27, 3) := dzq_162 (by decide +kernel)
theorem D_119_26 : decode J_119.2.2.1 26 = .ok (.aload_n 0, 1) := dzq_42 (by decide +kernel)
theorem D_119_27 : decode J_119.2.2.1 27 = .ok (.getfield 55, 3) := dzq_180 (by decide +kernel)
theorem D_119_30 : decode J_119.2.2.1 30 = .ok (.getfield 147, 3) := dzq_180 (by decide +kernel)
theorem D_119_33 : decode J_119.2.2.1 33 = .ok (.iload 5, 2) := dzq_21 (by decide +kernel)
theorem D_119_35 : decode J_119.2.2.1 35 = .ok (.laload, 1) := dzq_47 (by decide +kernel)
theorem D_119_36 : decode J_119.2.2.1 36 = .ok (.lload_n 2, 1) := dzq_32 (by decide +kernel)
theorem D_119_37 : decode J_119.2.2.1 37 = .ok (.lcmp, 1) := by decide +kernel
theorem D_119_38 : decode J_119.2.2.1 38 = .ok (.ifCond .ne 6, 3) := dzq_154 (by decide +kernel)
theorem D_119_41 : decode J_119.2.2.1 41 = .ok (.iload 5, 2) := dzq_21 (by decide +kernel)
theorem D_119_43 : decode J_119.2.2.1 43 = .ok (.ireturn, 1) := dzq_172 (by decide +kernel)
theorem D_119_44 : decode J_119.2.2.1 44 = .ok (.iinc 5 1, 3) := dzq_132 (by decide +kernel)
theorem D_119_47 : decode J_119.2.2.1 47 = .ok (.goto (-35), 3) := dzq_167 (by decide +kernel)
theorem D_119_50 : decode J_119.2.2.1 50 = .ok (.iconst (-1), 1) := dzq_2 (by decide +kernel)
theorem D_119_51 : decode J_119.2.2.1 51 = .ok (.ireturn, 1) := dzq_172 (by decide +kernel)
def P_119_12 (X : mjX) (d C S kc ks : Nat) (k : Nat → Int32 → Int64 → Int32 → Int32 → mjH → mjU) : Prop := ∀ (l0 : Nat) (l1 : Int32) (l2 : Int64) (l4 : Int32) (l5 : Int32) (hp : mjH) (q : Option Value × mjH), k l0 l1 l2 l4 l5 hp = some q → mjG X d C S J_119 (mjEq q) 12 [some (.ref l0), some (.int l1), some (.long l2), none, some (.int l4), some (.int l5)] [] hp kc ks
def P_119_0 (X : mjX) (d C S kc ks : Nat) (k : Nat → Int32 → Int64 → mjH → mjU) : Prop := ∀ (l0 : Nat) (l1 : Int32) (l2 : Int64) (hp : mjH) (q : Option Value × mjH), k l0 l1 l2 hp = some q → mjG X d C S J_119 (mjEq q) 0 [some (.ref l0), some (.int l1), some (.long l2), none, none, none] [] hp kc ks
noncomputable def b_119_12 (R : mjR) (k12 : Nat → Int32 → Int64 → Int32 → Int32 → mjH → mjU) (l0 : Nat) (l1 : Int32) (l2 : Int64) (l4 : Int32) (l5 : Int32) (hp : mjH) : mjU := gR hp l0 7 10 (fun v1 => aI hp v1 l1 (fun v2 => (if (l4 + v2) ≤ l5 then some (some (.int (-1 : Int32)), hp) else gR hp l0 7 14 (fun v3 => gR hp v3 6 1 (fun v4 => aL hp v4 l5 (fun v5 => (if (lg_cmp v5 l2) = 0 then some (some (.int l5), hp) else k12 l0 l1 l2 l4 (l5 + (1 : Int32)) hp)))))))
theorem t_119_12 {X : mjX} {d C S kc ks : Nat} {R : mjR} (hR : mjC R d) (h1 : kc ≤ C) (h2 : ks ≤ S) {k12 : Nat → Int32 → Int64 → Int32 → Int32 → mjH → mjU} (hk12 : P_119_12 X (d + 1) C S kc ks k12) : P_119_12 X (d + 1) C S kc ks (b_119_12 R k12) := by
  intro l0 l1 l2 l4 l5 hp q h
  unfold b_119_12 at h
  refine mjr_iload (x := l5) D_119_12 rfl ?_
  refine mjr_iload (x := l4) D_119_14 rfl ?_
  refine mjr_aload_n (x := l0) D_119_16 rfl ?_
  refine mjq_gR D_119_17 fr_7_39 h (fun v1 h => ?_)
  refine mjr_iload_n (x := l1) D_119_20 rfl ?_
  refine mjq_aI D_119_21 h (fun v2 h => ?_)
  refine mjr_iadd D_119_22 ?_
  refine mjq_icmp_ge (tgt := 50) D_119_23 rfl h (fun h => ?_) (fun h => ?_)
  · refine mjq_ic (v := (-1 : Int32)) D_119_50 rfl ?_
    exact mjq_ret D_119_51 rfl h1 h2 h
  · refine mjr_aload_n (x := l0) D_119_26 rfl ?_
    refine mjq_gR D_119_27 fr_7_55 h (fun v3 h => ?_)
    refine mjq_gR D_119_30 fr_7_147 h (fun v4 h => ?_)
    refine mjr_iload (x := l5) D_119_33 rfl ?_
    refine mjq_aL D_119_35 h (fun v5 h => ?_)
    refine mjr_lload_n (x := l2) D_119_36 rfl ?_
    refine mjr_lcmp D_119_37 ?_
    refine mjq_if_ne (tgt := 44) D_119_38 rfl h (fun h => ?_) (fun h => ?_)
    · refine mjq_iinc (x := l5) (c := (1 : Int32)) (lo' := [some (.ref l0), some (.int l1), some (.long l2), none, some (.int l4), some (.int (l5 + (1 : Int32)))]) D_119_44 rfl (Nat.le_of_ble_eq_true rfl) rfl rfl ?_
      refine mjr_goto (tgt := 12) D_119_47 rfl ?_
      exact hk12 _ _ _ _ _ _ _ h
    · refine mjr_iload (x := l5) D_119_41 rfl ?_
      exact mjq_ret D_119_43 rfl h1 h2 h
noncomputable def L_119_12 (R : mjR) (n : Nat) : Nat → Int32 → Int64 → Int32 → Int32 → mjH → mjU := Nat.rec (motive := fun _ => Nat → Int32 → Int64 → Int32 → Int32 → mjH → mjU) (fun _ _ _ _ _ _ => none) (fun _ self => b_119_12 R self) n
theorem T_119_12 {X : mjX} {d C S kc ks : Nat} {R : mjR} (hR : mjC R d) (h1 : kc ≤ C) (h2 : ks ≤ S) (n : Nat) : P_119_12 X (d + 1) C S kc ks (L_119_12 R n) := by
  induction n with
  | zero => intro _ _ _ _ _ _ _ h; exact mj_no h
  | succ n ih => exact t_119_12 hR h1 h2 ih
noncomputable def b_119_0 (R : mjR) (l0 : Nat) (l1 : Int32) (l2 : Int64) (hp : mjH) : mjU := gR hp l0 7 9 (fun v1 => aI hp v1 l1 (fun v2 => L_119_12 R mjN l0 l1 l2 v2 v2 hp))
theorem t_119_0 {X : mjX} {d C S kc ks : Nat} {R : mjR} (hR : mjC R d) (h1 : kc ≤ C) (h2 : ks ≤ S) : P_119_0 X (d + 1) C S kc ks (b_119_0 R) := by
  intro l0 l1 l2 hp q h
  unfold b_119_0 at h
  refine mjr_aload_n (x := l0) D_119_0 rfl ?_
  refine mjq_gR D_119_1 fr_7_36 h (fun v1 h => ?_)
  refine mjr_iload_n (x := l1) D_119_4 rfl ?_
  refine mjq_aI D_119_5 h (fun v2 h => ?_)
  refine mjq_istore (lo' := [some (.ref l0), some (.int l1), some (.long l2), none, some (.int v2), none]) D_119_6 (Nat.le_of_ble_eq_true rfl) rfl ?_
  refine mjr_iload (x := v2) D_119_8 rfl ?_
  refine mjq_istore (lo' := [some (.ref l0), some (.int l1), some (.long l2), none, some (.int v2), some (.int v2)]) D_119_10 (Nat.le_of_ble_eq_true rfl) rfl ?_
  exact (T_119_12 hR h1 h2 mjN) _ _ _ _ _ _ _ h
noncomputable def f_119 (R : mjR) (a0 : Nat) (a1 : Int32) (a2 : Int64) (hp : mjH) : mjU := b_119_0 R a0 a1 a2 hp
theorem c_119 {R : mjR} {d : Nat} (hR : mjC R d) {a0 : Nat} {a1 : Int32} {a2 : Int64} {hp : mjH} {q : Option Value × mjH} (h : f_119 R a0 a1 a2 hp = some q) : mjM (d + 1) 0 0 119 [.ref a0, .int a1, .long a2] hp (mjEq q) :=
  mjM_of Ja_119 (Nat.le_of_ble_eq_true rfl) (mjG.fg (lo' := [some (.ref a0), some (.int a1), some (.long a2), none, none, none]) (And.intro rfl (And.intro rfl (And.intro rfl True.intro))) ((t_119_0 hR (Nat.le_refl 0) (Nat.le_refl 0)) a0 a1 a2 hp q h))
