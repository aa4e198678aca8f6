def J_207 : mjI := (⟨"OwnerHeap", "type", "(II)I"⟩, 11, prog_1_method_7_code, 3, (some .int), 2, false)
theorem Ja_207 : mjMt 207 = some J_207 := by rfl
theorem D_207_0 : decode J_207.2.2.1 0 = .ok (.aload_n 0, 1) := dzq_42 (by decide +kernel)
theorem D_207_1 : decode J_207.2.2.1 1 = .ok (.getfield 121, 3) := dzq_180 (by decide +kernel)
theorem D_207_4 : decode J_207.2.2.1 4 = .ok (.ifCond .eq 18, 3) := dzq_153 (by decide +kernel)
theorem D_207_7 : decode J_207.2.2.1 7 = .ok (.iload_n 1, 1) := dzq_27 (by decide +kernel)
theorem D_207_8 : decode J_207.2.2.1 8 = .ok (.ifCond .lt 14, 3) := dzq_155 (by decide +kernel)
theorem D_207_11 : decode J_207.2.2.1 11 = .ok (.iload_n 1, 1) := dzq_27 (by decide +kernel)
theorem D_207_12 : decode J_207.2.2.1 12 = .ok (.aload_n 0, 1) := dzq_42 (by decide +kernel)
theorem D_207_13 : decode J_207.2.2.1 13 = .ok (.getfield 16, 3) := dzq_180 (by decide +kernel)
theorem D_207_16 : decode J_207.2.2.1 16 = .ok (.getfield 131, 3) := dzq_180 (by decide +kernel)
theorem D_207_19 : decode J_207.2.2.1 19 = .ok (.if_icmp .lt 5, 3) := dzq_161 (by decide +kernel)
theorem D_207_22 : decode J_207.2.2.1 22 = .ok (.iconst (-1), 1) := dzq_2 (by decide +kernel)
theorem D_207_23 : decode J_207.2.2.1 23 = .ok (.ireturn, 1) := dzq_172 (by decide +kernel)
theorem D_207_24 : decode J_207.2.2.1 24 = .ok (.iload_n 2, 1) := dzq_28 (by decide +kernel)
theorem D_207_25 : decode J_207.2.2.1 25 = .ok (.tableswitch 98 0 5 #[39, 49, 58, 68, 78, 88], 39) := by decide +kernel
theorem D_207_64 : decode J_207.2.2.1 64 = .ok (.aload_n 0, 1) := dzq_42 (by decide +kernel)
theorem D_207_65 : decode J_207.2.2.1 65 = .ok (.getfield 16, 3) := dzq_180 (by decide +kernel)
theorem D_207_68 : decode J_207.2.2.1 68 = .ok (.getfield 134, 3) := dzq_180 (by decide +kernel)
theorem D_207_71 : decode J_207.2.2.1 71 = .ok (.iload_n 1, 1) := dzq_27 (by decide +kernel)
theorem D_207_72 : decode J_207.2.2.1 72 = .ok (.iaload, 1) := dzq_46 (by decide +kernel)
theorem D_207_73 : decode J_207.2.2.1 73 = .ok (.ireturn, 1) := dzq_172 (by decide +kernel)
theorem D_207_74 : decode J_207.2.2.1 74 = .ok (.aload_n 0, 1) := dzq_42 (by decide +kernel)
theorem D_207_75 : decode J_207.2.2.1 75 = .ok (.getfield 16, 3) := dzq_180 (by decide +kernel)
theorem D_207_78 : decode J_207.2.2.1 78 = .ok (.iload_n 1, 1) := dzq_27 (by decide +kernel)
theorem D_207_79 : decode J_207.2.2.1 79 = .ok (.invokevirtual 138, 3) := dzq_182 (by decide +kernel)
theorem D_207_82 : decode J_207.2.2.1 82 = .ok (.ireturn, 1) := dzq_172 (by decide +kernel)
theorem D_207_83 : decode J_207.2.2.1 83 = .ok (.aload_n 0, 1) := dzq_42 (by decide +kernel)
theorem D_207_84 : decode J_207.2.2.1 84 = .ok (.getfield 16, 3) := dzq_180 (by decide +kernel)
theorem D_207_87 : decode J_207.2.2.1 87 = .ok (.getfield 142, 3) := dzq_180 (by decide +kernel)
theorem D_207_90 : decode J_207.2.2.1 90 = .ok (.iload_n 1, 1) := dzq_27 (by decide +kernel)
theorem D_207_91 : decode J_207.2.2.1 91 = .ok (.iaload, 1) := dzq_46 (by decide +kernel)
theorem D_207_92 : decode J_207.2.2.1 92 = .ok (.ireturn, 1) := dzq_172 (by decide +kernel)
theorem D_207_93 : decode J_207.2.2.1 93 = .ok (.aload_n 0, 1) := dzq_42 (by decide +kernel)
theorem D_207_94 : decode J_207.2.2.1 94 = .ok (.getfield 16, 3) := dzq_180 (by decide +kernel)
theorem D_207_97 : decode J_207.2.2.1 97 = .ok (.getfield 145, 3) := dzq_180 (by decide +kernel)
theorem D_207_100 : decode J_207.2.2.1 100 = .ok (.iload_n 1, 1) := dzq_27 (by decide +kernel)
theorem D_207_101 : decode J_207.2.2.1 101 = .ok (.iaload, 1) := dzq_46 (by decide +kernel)
theorem D_207_102 : decode J_207.2.2.1 102 = .ok (.ireturn, 1) := dzq_172 (by decide +kernel)
theorem D_207_103 : decode J_207.2.2.1 103 = .ok (.aload_n 0, 1) := dzq_42 (by decide +kernel)
theorem D_207_104 : decode J_207.2.2.1 104 = .ok (.getfield 16, 3) := dzq_180 (by decide +kernel)
theorem D_207_107 : decode J_207.2.2.1 107 = .ok (.getfield 148, 3) := dzq_180 (by decide +kernel)
theorem D_207_110 : decode J_207.2.2.1 110 = .ok (.iload_n 1, 1) := dzq_27 (by decide +kernel)
theorem D_207_111 : decode J_207.2.2.1 111 = .ok (.iaload, 1) := dzq_46 (by decide +kernel)
theorem D_207_112 : decode J_207.2.2.1 112 = .ok (.ireturn, 1) := dzq_172 (by decide +kernel)
theorem D_207_113 : decode J_207.2.2.1 113 = .ok (.aload_n 0, 1) := dzq_42 (by decide +kernel)
theorem D_207_114 : decode J_207.2.2.1 114 = .ok (.getfield 16, 3) := dzq_180 (by decide +kernel)
theorem D_207_117 : decode J_207.2.2.1 117 = .ok (.getfield 151, 3) := dzq_180 (by decide +kernel)
theorem D_207_120 : decode J_207.2.2.1 120 = .ok (.iload_n 1, 1) := dzq_27 (by decide +kernel)
theorem D_207_121 : decode J_207.2.2.1 121 = .ok (.iaload, 1) := dzq_46 (by decide +kernel)
theorem D_207_122 : decode J_207.2.2.1 122 = .ok (.ireturn, 1) := dzq_172 (by decide +kernel)
theorem D_207_123 : decode J_207.2.2.1 123 = .ok (.iconst (-1), 1) := dzq_2 (by decide +kernel)
theorem D_207_124 : decode J_207.2.2.1 124 = .ok (.ireturn, 1) := dzq_172 (by decide +kernel)
def P_207_22 (X : mjX) (d C S kc ks : Nat) (k : mjH → mjU) : Prop := ∀  (hp : mjH) (q : Option Value × mjH), k  hp = some q → mjG X d C S J_207 (mjEq q) 22 [none, none, none] [] hp kc ks
def P_207_0 (X : mjX) (d C S kc ks : Nat) (k : Nat → Int32 → Int32 → mjH → mjU) : Prop := ∀ (l0 : Nat) (l1 : Int32) (l2 : Int32) (hp : mjH) (q : Option Value × mjH), k l0 l1 l2 hp = some q → mjG X d C S J_207 (mjEq q) 0 [some (.ref l0), some (.int l1), some (.int l2)] [] hp kc ks
noncomputable def b_207_22 (R : mjR)  (hp : mjH) : mjU := some (some (.int (-1 : Int32)), hp)
theorem t_207_22 {X : mjX} {d C S kc ks : Nat} {R : mjR} (hR : mjC R d) (h1 : kc ≤ C) (h2 : ks ≤ S) : P_207_22 X (d + 1) C S kc ks (b_207_22 R) := by
  intro  hp q h
  unfold b_207_22 at h
  refine mjq_ic (v := (-1 : Int32)) D_207_22 rfl ?_
  exact mjq_ret D_207_23 rfl h1 h2 h
noncomputable def b_207_0 (R : mjR) (l0 : Nat) (l1 : Int32) (l2 : Int32) (hp : mjH) : mjU := gI hp l0 11 8 (fun v1 => (if v1 = 0 then b_207_22 R hp else (if l1 < 0 then b_207_22 R hp else gR hp l0 11 6 (fun v2 => gI hp v2 7 0 (fun v3 => (if l1 < v3 then (if l2 = (0 : Int32) then gR hp l0 11 6 (fun v5 => gR hp v5 7 1 (fun v6 => aI hp v6 l1 (fun v7 => some (some (.int v7), hp)))) else if l2 = (1 : Int32) then gR hp l0 11 6 (fun v9 => rV hp v9 7 (bI (R 108 [.ref v9, .int l1] hp) (fun v10 hp11 => some (some (.int v10), hp11)))) else if l2 = (2 : Int32) then gR hp l0 11 6 (fun v13 => gR hp v13 7 8 (fun v14 => aI hp v14 l1 (fun v15 => some (some (.int v15), hp)))) else if l2 = (3 : Int32) then gR hp l0 11 6 (fun v17 => gR hp v17 7 6 (fun v18 => aI hp v18 l1 (fun v19 => some (some (.int v19), hp)))) else if l2 = (4 : Int32) then gR hp l0 11 6 (fun v21 => gR hp v21 7 3 (fun v22 => aI hp v22 l1 (fun v23 => some (some (.int v23), hp)))) else if l2 = (5 : Int32) then gR hp l0 11 6 (fun v25 => gR hp v25 7 2 (fun v26 => aI hp v26 l1 (fun v27 => some (some (.int v27), hp)))) else some (some (.int (-1 : Int32)), hp)) else b_207_22 R hp))))))
theorem t_207_0 {X : mjX} {d C S kc ks : Nat} {R : mjR} (hR : mjC R d) (h1 : kc ≤ C) (h2 : ks ≤ S) : P_207_0 X (d + 1) C S kc ks (b_207_0 R) := by
  intro l0 l1 l2 hp q h
  unfold b_207_0 at h
  refine mjr_aload_n (x := l0) D_207_0 rfl ?_
  refine mjq_gI D_207_1 fr_11_121 h (fun v1 h => ?_)
  refine mjq_if_eq (tgt := 22) D_207_4 rfl h (fun h => ?_) (fun h => ?_)
  · exact mjG.fg (lo' := [none, none, none]) True.intro ((t_207_22 hR h1 h2) _ _ h)
  · refine mjr_iload_n (x := l1) D_207_7 rfl ?_
    refine mjq_if_lt (tgt := 22) D_207_8 rfl h (fun h => ?_) (fun h => ?_)
    · exact mjG.fg (lo' := [none, none, none]) True.intro ((t_207_22 hR h1 h2) _ _ h)
    · refine mjr_iload_n (x := l1) D_207_11 rfl ?_
      refine mjr_aload_n (x := l0) D_207_12 rfl ?_
      refine mjq_gR D_207_13 fr_11_16 h (fun v2 h => ?_)
      refine mjq_gI D_207_16 fr_11_131 h (fun v3 h => ?_)
      refine mjq_icmp_lt (tgt := 24) D_207_19 rfl h (fun h => ?_) (fun h => ?_)
      · refine mjr_iload_n (x := l2) D_207_24 rfl ?_
        refine mjq_tsw (c := (0 : Int32)) (tgt := 64) D_207_25 (by decide) (by decide) rfl rfl h (fun h => ?_) (fun n4 h => ?_)
        · refine mjr_aload_n (x := l0) D_207_64 rfl ?_
          refine mjq_gR D_207_65 fr_11_16 h (fun v5 h => ?_)
          refine mjq_gR D_207_68 fr_11_134 h (fun v6 h => ?_)
          refine mjr_iload_n (x := l1) D_207_71 rfl ?_
          refine mjq_aI D_207_72 h (fun v7 h => ?_)
          exact mjq_ret D_207_73 rfl h1 h2 h
        refine mjq_tsw (c := (1 : Int32)) (tgt := 74) D_207_25 (by decide) (by decide) rfl rfl h (fun h => ?_) (fun n8 h => ?_)
        · refine mjr_aload_n (x := l0) D_207_74 rfl ?_
          refine mjq_gR D_207_75 fr_11_16 h (fun v9 h => ?_)
          refine mjr_iload_n (x := l1) D_207_78 rfl ?_
          refine mjq_vI (As := [.int l1]) (rest := []) D_207_79 mr_11_138 V_108 rfl rfl rfl hR (Nat.le_refl _) h1 h2 h (fun v10 hp11 h => ?_)
          exact mjq_ret D_207_82 rfl h1 h2 h
        refine mjq_tsw (c := (2 : Int32)) (tgt := 83) D_207_25 (by decide) (by decide) rfl rfl h (fun h => ?_) (fun n12 h => ?_)
        · refine mjr_aload_n (x := l0) D_207_83 rfl ?_
          refine mjq_gR D_207_84 fr_11_16 h (fun v13 h => ?_)
          refine mjq_gR D_207_87 fr_11_142 h (fun v14 h => ?_)
          refine mjr_iload_n (x := l1) D_207_90 rfl ?_
          refine mjq_aI D_207_91 h (fun v15 h => ?_)
          exact mjq_ret D_207_92 rfl h1 h2 h
        refine mjq_tsw (c := (3 : Int32)) (tgt := 93) D_207_25 (by decide) (by decide) rfl rfl h (fun h => ?_) (fun n16 h => ?_)
        · refine mjr_aload_n (x := l0) D_207_93 rfl ?_
          refine mjq_gR D_207_94 fr_11_16 h (fun v17 h => ?_)
          refine mjq_gR D_207_97 fr_11_145 h (fun v18 h => ?_)
          refine mjr_iload_n (x := l1) D_207_100 rfl ?_
          refine mjq_aI D_207_101 h (fun v19 h => ?_)
          exact mjq_ret D_207_102 rfl h1 h2 h
        refine mjq_tsw (c := (4 : Int32)) (tgt := 103) D_207_25 (by decide) (by decide) rfl rfl h (fun h => ?_) (fun n20 h => ?_)
        · refine mjr_aload_n (x := l0) D_207_103 rfl ?_
          refine mjq_gR D_207_104 fr_11_16 h (fun v21 h => ?_)
          refine mjq_gR D_207_107 fr_11_148 h (fun v22 h => ?_)
          refine mjr_iload_n (x := l1) D_207_110 rfl ?_
          refine mjq_aI D_207_111 h (fun v23 h => ?_)
          exact mjq_ret D_207_112 rfl h1 h2 h
        refine mjq_tsw (c := (5 : Int32)) (tgt := 113) D_207_25 (by decide) (by decide) rfl rfl h (fun h => ?_) (fun n24 h => ?_)
        · refine mjr_aload_n (x := l0) D_207_113 rfl ?_
          refine mjq_gR D_207_114 fr_11_16 h (fun v25 h => ?_)
          refine mjq_gR D_207_117 fr_11_151 h (fun v26 h => ?_)
          refine mjr_iload_n (x := l1) D_207_120 rfl ?_
          refine mjq_aI D_207_121 h (fun v27 h => ?_)
          exact mjq_ret D_207_122 rfl h1 h2 h
        refine mjr_tableOut (tgt := 123) D_207_25 (mj_swout [(0 : Int32), (1 : Int32), (2 : Int32), (3 : Int32), (4 : Int32), (5 : Int32)] (by decide) (mj_all1 n4 (mj_all1 n8 (mj_all1 n12 (mj_all1 n16 (mj_all1 n20 (mj_all1 n24 mj_all0))))))) rfl ?_
        refine mjq_ic (v := (-1 : Int32)) D_207_123 rfl ?_
        exact mjq_ret D_207_124 rfl h1 h2 h
      · exact mjG.fg (lo' := [none, none, none]) True.intro ((t_207_22 hR h1 h2) _ _ h)
noncomputable def f_207 (R : mjR) (a0 : Nat) (a1 : Int32) (a2 : Int32) (hp : mjH) : mjU := b_207_0 R a0 a1 a2 hp
theorem c_207 {R : mjR} {d : Nat} (hR : mjC R d) {a0 : Nat} {a1 : Int32} {a2 : Int32} {hp : mjH} {q : Option Value × mjH} (h : f_207 R a0 a1 a2 hp = some q) : mjM (d + 1) 0 0 207 [.ref a0, .int a1, .int a2] hp (mjEq q) :=
  mjM_of Ja_207 (Nat.le_of_ble_eq_true rfl) (mjG.fg (lo' := [some (.ref a0), some (.int a1), some (.int a2)]) (And.intro rfl (And.intro rfl (And.intro rfl True.intro))) ((t_207_0 hR (Nat.le_refl 0) (Nat.le_refl 0)) a0 a1 a2 hp q h))
def J_208 : mjI := (⟨"OwnerHeap", "isIn", "(III)Z"⟩, 11, prog_1_method_8_code, 6, (some .boolean), 3, false)
theorem Ja_208 : mjMt 208 = some J_208 := by rfl
theorem D_208_0 : decode J_208.2.2.1 0 = .ok (.aload_n 0, 1) := dzq_42 (by decide +kernel)
theorem D_208_1 : decode J_208.2.2.1 1 = .ok (.getfield 121, 3) := dzq_180 (by decide +kernel)
theorem D_208_4 : decode J_208.2.2.1 4 = .ok (.ifCond .eq 18, 3) := dzq_153 (by decide +kernel)
theorem D_208_7 : decode J_208.2.2.1 7 = .ok (.iload_n 1, 1) := dzq_27 (by decide +kernel)
theorem D_208_8 : decode J_208.2.2.1 8 = .ok (.ifCond .lt 14, 3) := dzq_155 (by decide +kernel)
theorem D_208_11 : decode J_208.2.2.1 11 = .ok (.iload_n 1, 1) := dzq_27 (by decide +kernel)
theorem D_208_12 : decode J_208.2.2.1 12 = .ok (.aload_n 0, 1) := dzq_42 (by decide +kernel)
theorem D_208_13 : decode J_208.2.2.1 13 = .ok (.getfield 16, 3) := dzq_180 (by decide +kernel)
theorem D_208_16 : decode J_208.2.2.1 16 = .ok (.getfield 131, 3) := dzq_180 (by decide +kernel)
theorem D_208_19 : decode J_208.2.2.1 19 = .ok (.if_icmp .lt 5, 3) := dzq_161 (by decide +kernel)
theorem D_208_22 : decode J_208.2.2.1 22 = .ok (.iconst 0, 1) := dzq_3 (by decide +kernel)
theorem D_208_23 : decode J_208.2.2.1 23 = .ok (.ireturn, 1) := dzq_172 (by decide +kernel)
theorem D_208_24 : decode J_208.2.2.1 24 = .ok (.aload_n 0, 1) := dzq_42 (by decide +kernel)
theorem D_208_25 : decode J_208.2.2.1 25 = .ok (.iload_n 1, 1) := dzq_27 (by decide +kernel)
theorem D_208_26 : decode J_208.2.2.1 26 = .ok (.iload_n 2, 1) := dzq_28 (by decide +kernel)
theorem D_208_27 : decode J_208.2.2.1 27 = .ok (.invokevirtual 154, 3) := dzq_182 (by decide +kernel)
theorem D_208_30 : decode J_208.2.2.1 30 = .ok (.istore 4, 2) := dzq_54 (by decide +kernel)
theorem D_208_32 : decode J_208.2.2.1 32 = .ok (.aload_n 0, 1) := dzq_42 (by decide +kernel)
theorem D_208_33 : decode J_208.2.2.1 33 = .ok (.iload_n 1, 1) := dzq_27 (by decide +kernel)
theorem D_208_34 : decode J_208.2.2.1 34 = .ok (.iload_n 3, 1) := dzq_29 (by decide +kernel)
theorem D_208_35 : decode J_208.2.2.1 35 = .ok (.invokevirtual 154, 3) := dzq_182 (by decide +kernel)
theorem D_208_38 : decode J_208.2.2.1 38 = .ok (.istore 5, 2) := dzq_54 (by decide +kernel)
theorem D_208_40 : decode J_208.2.2.1 40 = .ok (.iload 4, 2) := dzq_21 (by decide +kernel)
theorem D_208_42 : decode J_208.2.2.1 42 = .ok (.iconst (-1), 1) := dzq_2 (by decide +kernel)
theorem D_208_43 : decode J_208.2.2.1 43 = .ok (.if_icmp .eq 28, 3) := dzq_159 (by decide +kernel)
theorem D_208_46 : decode J_208.2.2.1 46 = .ok (.iload 5, 2) := dzq_21 (by decide +kernel)
theorem D_208_48 : decode J_208.2.2.1 48 = .ok (.iconst (-1), 1) := dzq_2 (by decide +kernel)
theorem D_208_49 : decode J_208.2.2.1 49 = .ok (.if_icmp .eq 22, 3) := dzq_159 (by decide +kernel)
theorem D_208_52 : decode J_208.2.2.1 52 = .ok (.aload_n 0, 1) := dzq_42 (by decide +kernel)
theorem D_208_53 : decode J_208.2.2.1 53 = .ok (.getfield 16, 3) := dzq_180 (by decide +kernel)
theorem D_208_56 : decode J_208.2.2.1 56 = .ok (.iload_n 1, 1) := dzq_27 (by decide +kernel)
theorem D_208_57 : decode J_208.2.2.1 57 = .ok (.iload 4, 2) := dzq_21 (by decide +kernel)
theorem D_208_59 : decode J_208.2.2.1 59 = .ok (.iload 5, 2) := dzq_21 (by decide +kernel)
theorem D_208_61 : decode J_208.2.2.1 61 = .ok (.invokevirtual 158, 3) := dzq_182 (by decide +kernel)
theorem D_208_64 : decode J_208.2.2.1 64 = .ok (.ifCond .eq 7, 3) := dzq_153 (by decide +kernel)
theorem D_208_67 : decode J_208.2.2.1 67 = .ok (.iconst 1, 1) := dzq_4 (by decide +kernel)
theorem D_208_68 : decode J_208.2.2.1 68 = .ok (.goto 4, 3) := dzq_167 (by decide +kernel)
theorem D_208_71 : decode J_208.2.2.1 71 = .ok (.iconst 0, 1) := dzq_3 (by decide +kernel)
theorem D_208_72 : decode J_208.2.2.1 72 = .ok (.ireturn, 1) := dzq_172 (by decide +kernel)
def P_208_22 (X : mjX) (d C S kc ks : Nat) (k : mjH → mjU) : Prop := ∀  (hp : mjH) (q : Option Value × mjH), k  hp = some q → mjG X d C S J_208 (mjEq q) 22 [none, none, none, none, none, none] [] hp kc ks
def P_208_71 (X : mjX) (d C S kc ks : Nat) (k : mjH → mjU) : Prop := ∀  (hp : mjH) (q : Option Value × mjH), k  hp = some q → mjG X d C S J_208 (mjEq q) 71 [none, none, none, none, none, none] [] hp kc ks
def P_208_0 (X : mjX) (d C S kc ks : Nat) (k : Nat → Int32 → Int32 → Int32 → mjH → mjU) : Prop := ∀ (l0 : Nat) (l1 : Int32) (l2 : Int32) (l3 : Int32) (hp : mjH) (q : Option Value × mjH), k l0 l1 l2 l3 hp = some q → mjG X d C S J_208 (mjEq q) 0 [some (.ref l0), some (.int l1), some (.int l2), some (.int l3), none, none] [] hp kc ks
noncomputable def b_208_22 (R : mjR)  (hp : mjH) : mjU := some (some (.int (0 : Int32)), hp)
theorem t_208_22 {X : mjX} {d C S kc ks : Nat} {R : mjR} (hR : mjC R d) (h1 : kc ≤ C) (h2 : ks ≤ S) : P_208_22 X (d + 1) C S kc ks (b_208_22 R) := by
  intro  hp q h
  unfold b_208_22 at h
  refine mjq_ic (v := (0 : Int32)) D_208_22 rfl ?_
  exact mjr_ireturn D_208_23 rfl rfl h1 h2 (Option.some.inj h)
noncomputable def b_208_71 (R : mjR)  (hp : mjH) : mjU := some (some (.int (0 : Int32)), hp)
theorem t_208_71 {X : mjX} {d C S kc ks : Nat} {R : mjR} (hR : mjC R d) (h1 : kc ≤ C) (h2 : ks ≤ S) : P_208_71 X (d + 1) C S kc ks (b_208_71 R) := by
  intro  hp q h
  unfold b_208_71 at h
  refine mjq_ic (v := (0 : Int32)) D_208_71 rfl ?_
  exact mjr_ireturn D_208_72 rfl rfl h1 h2 (Option.some.inj h)
noncomputable def b_208_0 (R : mjR) (l0 : Nat) (l1 : Int32) (l2 : Int32) (l3 : Int32) (hp : mjH) : mjU := gI hp l0 11 8 (fun v1 => (if v1 = 0 then b_208_22 R hp else (if l1 < 0 then b_208_22 R hp else gR hp l0 11 6 (fun v2 => gI hp v2 7 0 (fun v3 => (if l1 < v3 then rV hp l0 11 (bI (R 209 [.ref l0, .int l1, .int l2] hp) (fun v4 hp5 => rV hp5 l0 11 (bI (R 209 [.ref l0, .int l1, .int l3] hp5) (fun v6 hp7 => (if v4 = (-1 : Int32) then b_208_71 R hp7 else (if v6 = (-1 : Int32) then b_208_71 R hp7 else gR hp7 l0 11 6 (fun v8 => rV hp7 v8 7 (bI (R 107 [.ref v8, .int l1, .int v4, .int v6] hp7) (fun v9 hp10 => (if v9 = 0 then b_208_71 R hp10 else some (some (.int (1 : Int32)), hp10))))))))))) else b_208_22 R hp))))))
theorem t_208_0 {X : mjX} {d C S kc ks : Nat} {R : mjR} (hR : mjC R d) (h1 : kc ≤ C) (h2 : ks ≤ S) : P_208_0 X (d + 1) C S kc ks (b_208_0 R) := by
  intro l0 l1 l2 l3 hp q h
  unfold b_208_0 at h
  refine mjr_aload_n (x := l0) D_208_0 rfl ?_
  refine mjq_gI D_208_1 fr_11_121 h (fun v1 h => ?_)
  refine mjq_if_eq (tgt := 22) D_208_4 rfl h (fun h => ?_) (fun h => ?_)
  · exact mjG.fg (lo' := [none, none, none, none, none, none]) True.intro ((t_208_22 hR h1 h2) _ _ h)
  · refine mjr_iload_n (x := l1) D_208_7 rfl ?_
    refine mjq_if_lt (tgt := 22) D_208_8 rfl h (fun h => ?_) (fun h => ?_)
    · exact mjG.fg (lo' := [none, none, none, none, none, none]) True.intro ((t_208_22 hR h1 h2) _ _ h)
    · refine mjr_iload_n (x := l1) D_208_11 rfl ?_
      refine mjr_aload_n (x := l0) D_208_12 rfl ?_
      refine mjq_gR D_208_13 fr_11_16 h (fun v2 h => ?_)
      refine mjq_gI D_208_16 fr_11_131 h (fun v3 h => ?_)
      refine mjq_icmp_lt (tgt := 24) D_208_19 rfl h (fun h => ?_) (fun h => ?_)
      · refine mjr_aload_n (x := l0) D_208_24 rfl ?_
        refine mjr_iload_n (x := l1) D_208_25 rfl ?_
        refine mjr_iload_n (x := l2) D_208_26 rfl ?_
        refine mjq_vI (As := [.int l1, .int l2]) (rest := []) D_208_27 mr_11_154 V_209 rfl rfl rfl hR (Nat.le_refl _) h1 h2 h (fun v4 hp5 h => ?_)
        refine mjq_istore (lo' := [some (.ref l0), some (.int l1), some (.int l2), some (.int l3), some (.int v4), none]) D_208_30 (Nat.le_of_ble_eq_true rfl) rfl ?_
        refine mjr_aload_n (x := l0) D_208_32 rfl ?_
        refine mjr_iload_n (x := l1) D_208_33 rfl ?_
        refine mjr_iload_n (x := l3) D_208_34 rfl ?_
        refine mjq_vI (As := [.int l1, .int l3]) (rest := []) D_208_35 mr_11_154 V_209 rfl rfl rfl hR (Nat.le_refl _) h1 h2 h (fun v6 hp7 h => ?_)
        refine mjq_istore (lo' := [some (.ref l0), some (.int l1), some (.int l2), some (.int l3), some (.int v4), some (.int v6)]) D_208_38 (Nat.le_of_ble_eq_true rfl) rfl ?_
        refine mjr_iload (x := v4) D_208_40 rfl ?_
        refine mjq_ic (v := (-1 : Int32)) D_208_42 rfl ?_
        refine mjq_icmp_eq (tgt := 71) D_208_43 rfl h (fun h => ?_) (fun h => ?_)
        · exact mjG.fg (lo' := [none, none, none, none, none, none]) True.intro ((t_208_71 hR h1 h2) _ _ h)
        · refine mjr_iload (x := v6) D_208_46 rfl ?_
          refine mjq_ic (v := (-1 : Int32)) D_208_48 rfl ?_
          refine mjq_icmp_eq (tgt := 71) D_208_49 rfl h (fun h => ?_) (fun h => ?_)
          · exact mjG.fg (lo' := [none, none, none, none, none, none]) True.intro ((t_208_71 hR h1 h2) _ _ h)
          · refine mjr_aload_n (x := l0) D_208_52 rfl ?_
            refine mjq_gR D_208_53 fr_11_16 h (fun v8 h => ?_)
            refine mjr_iload_n (x := l1) D_208_56 rfl ?_
            refine mjr_iload (x := v4) D_208_57 rfl ?_
            refine mjr_iload (x := v6) D_208_59 rfl ?_
            refine mjq_vI (As := [.int l1, .int v4, .int v6]) (rest := []) D_208_61 mr_11_158 V_107 rfl rfl rfl hR (Nat.le_refl _) h1 h2 h (fun v9 hp10 h => ?_)
            refine mjq_if_eq (tgt := 71) D_208_64 rfl h (fun h => ?_) (fun h => ?_)
            · exact mjG.fg (lo' := [none, none, none, none, none, none]) True.intro ((t_208_71 hR h1 h2) _ _ h)
            · refine mjq_ic (v := (1 : Int32)) D_208_67 rfl ?_
              refine mjr_goto (tgt := 72) D_208_68 rfl ?_
              exact mjr_ireturn D_208_72 rfl rfl h1 h2 (Option.some.inj h)
      · exact mjG.fg (lo' := [none, none, none, none, none, none]) True.intro ((t_208_22 hR h1 h2) _ _ h)
noncomputable def f_208 (R : mjR) (a0 : Nat) (a1 : Int32) (a2 : Int32) (a3 : Int32) (hp : mjH) : mjU := b_208_0 R a0 a1 a2 a3 hp
theorem c_208 {R : mjR} {d : Nat} (hR : mjC R d) {a0 : Nat} {a1 : Int32} {a2 : Int32} {a3 : Int32} {hp : mjH} {q : Option Value × mjH} (h : f_208 R a0 a1 a2 a3 hp = some q) : mjM (d + 1) 0 0 208 [.ref a0, .int a1, .int a2, .int a3] hp (mjEq q) :=
  mjM_of Ja_208 (Nat.le_of_ble_eq_true rfl) (mjG.fg (lo' := [some (.ref a0), some (.int a1), some (.int a2), some (.int a3), none, none]) (And.intro rfl (And.intro rfl (And.intro rfl (And.intro rfl True.intro)))) ((t_208_0 hR (Nat.le_refl 0) (Nat.le_refl 0)) a0 a1 a2 a3 hp q h))
def J_209 : mjI := (⟨"OwnerHeap", "ownerAsked", "(II)I"⟩, 11, prog_1_method_9_code, 3, (some .int), 2, false)
theorem Ja_209 : mjMt 209 = some J_209 := by rfl
theorem D_209_0 : decode J_209.2.2.1 0 = .ok (.iload_n 2, 1) := dzq_28 (by decide +kernel)
theorem D_209_1 : decode J_209.2.2.1 1 = .ok (.iconst (-1), 1) := dzq_2 (by decide +kernel)
theorem D_209_2 : decode J_209.2.2.1 2 = .ok (.if_icmp .ne 5, 3) := dzq_160 (by decide +kernel)
theorem D_209_5 : decode J_209.2.2.1 5 = .ok (.iconst 5, 1) := dzq_8 (by decide +kernel)
theorem D_209_6 : decode J_209.2.2.1 6 = .ok (.ireturn, 1) := dzq_172 (by decide +kernel)
theorem D_209_7 : decode J_209.2.2.1 7 = .ok (.iload_n 2, 1) := dzq_28 (by decide +kernel)
theorem D_209_8 : decode J_209.2.2.1 8 = .ok (.bipush (-2), 2) := dzq_16 (by decide +kernel)
theorem D_209_10 : decode J_209.2.2.1 10 = .ok (.if_icmp .ne 6, 3) := dzq_160 (by decide +kernel)
theorem D_209_13 : decode J_209.2.2.1 13 = .ok (.bipush 6, 2) := dzq_16 (by decide +kernel)
theorem D_209_15 : decode J_209.2.2.1 15 = .ok (.ireturn, 1) := dzq_172 (by decide +kernel)
theorem D_209_16 : decode J_209.2.2.1 16 = .ok (.iload_n 2, 1) := dzq_28 (by decide +kernel)
theorem D_209_17 : decode J_209.2.2.1 17 = .ok (.ifCond .lt 20, 3) := dzq_155 (by decide +kernel)
theorem D_209_20 : decode J_209.2.2.1 20 = .ok (.iload_n 2, 1) := dzq_28 (by decide +kernel)
theorem D_209_21 : decode J_209.2.2.1 21 = .ok (.aload_n 0, 1) := dzq_42 (by decide +kernel)
theorem D_209_22 : decode J_209.2.2.1 22 = .ok (.getfield 16, 3) := dzq_180 (by decide +kernel)
theorem D_209_25 : decode J_209.2.2.1 25 = .ok (.getfield 134, 3) := dzq_180 (by decide +kernel)
theorem D_209_28 : decode J_209.2.2.1 28 = .ok (.iload_n 1, 1) := dzq_27 (by decide +kernel)
theorem D_209_29 : decode J_209.2.2.1 29 = .ok (.iaload, 1) := dzq_46 (by decide +kernel)
theorem D_209_30 : decode J_209.2.2.1 30 = .ok (.if_icmp .ge 7, 3) := dzq_162 (by decide +kernel)
theorem D_209_33 : decode J_209.2.2.1 33 = .ok (.iload_n 2, 1) := dzq_28 (by decide +kernel)
theorem D_209_34 : decode J_209.2.2.1 34 = .ok (.goto 4, 3) := dzq_167 (by decide +kernel)
theorem D_209_37 : decode J_209.2.2.1 37 = .ok (.iconst (-1), 1) := dzq_2 (by decide +kernel)
theorem D_209_38 : decode J_209.2.2.1 38 = .ok (.ireturn, 1) := dzq_172 (by decide +kernel)
def P_209_37 (X : mjX) (d C S kc ks : Nat) (k : mjH → mjU) : Prop := ∀  (hp : mjH) (q : Option Value × mjH), k  hp = some q → mjG X d C S J_209 (mjEq q) 37 [none, none, none] [] hp kc ks
def P_209_0 (X : mjX) (d C S kc ks : Nat) (k : Nat → Int32 → Int32 → mjH → mjU) : Prop := ∀ (l0 : Nat) (l1 : Int32) (l2 : Int32) (hp : mjH) (q : Option Value × mjH), k l0 l1 l2 hp = some q → mjG X d C S J_209 (mjEq q) 0 [some (.ref l0), some (.int l1), some (.int l2)] [] hp kc ks
noncomputable def b_209_37 (R : mjR)  (hp : mjH) : mjU := some (some (.int (-1 : Int32)), hp)
theorem t_209_37 {X : mjX} {d C S kc ks : Nat} {R : mjR} (hR : mjC R d) (h1 : kc ≤ C) (h2 : ks ≤ S) : P_209_37 X (d + 1) C S kc ks (b_209_37 R) := by
  intro  hp q h
  unfold b_209_37 at h
  refine mjq_ic (v := (-1 : Int32)) D_209_37 rfl ?_
  exact mjq_ret D_209_38 rfl h1 h2 h
noncomputable def b_209_0 (R : mjR) (l0 : Nat) (l1 : Int32) (l2 : Int32) (hp : mjH) : mjU := (if l2 = (-1 : Int32) then some (some (.int (5 : Int32)), hp) else (if l2 = (-2 : Int32) then some (some (.int (6 : Int32)), hp) else (if l2 < 0 then b_209_37 R hp else gR hp l0 11 6 (fun v1 => gR hp v1 7 1 (fun v2 => aI hp v2 l1 (fun v3 => (if v3 ≤ l2 then b_209_37 R hp else some (some (.int l2), hp))))))))
theorem t_209_0 {X : mjX} {d C S kc ks : Nat} {R : mjR} (hR : mjC R d) (h1 : kc ≤ C) (h2 : ks ≤ S) : P_209_0 X (d + 1) C S kc ks (b_209_0 R) := by
  intro l0 l1 l2 hp q h
  unfold b_209_0 at h
  refine mjr_iload_n (x := l2) D_209_0 rfl ?_
  refine mjq_ic (v := (-1 : Int32)) D_209_1 rfl ?_
  refine mjq_icmp_ne (tgt := 7) D_209_2 rfl h (fun h => ?_) (fun h => ?_)
  · refine mjr_iload_n (x := l2) D_209_7 rfl ?_
    refine mjq_bi (v := (-2 : Int32)) D_209_8 rfl ?_
    refine mjq_icmp_ne (tgt := 16) D_209_10 rfl h (fun h => ?_) (fun h => ?_)
    · refine mjr_iload_n (x := l2) D_209_16 rfl ?_
      refine mjq_if_lt (tgt := 37) D_209_17 rfl h (fun h => ?_) (fun h => ?_)
      · exact mjG.fg (lo' := [none, none, none]) True.intro ((t_209_37 hR h1 h2) _ _ h)
      · refine mjr_iload_n (x := l2) D_209_20 rfl ?_
        refine mjr_aload_n (x := l0) D_209_21 rfl ?_
        refine mjq_gR D_209_22 fr_11_16 h (fun v1 h => ?_)
        refine mjq_gR D_209_25 fr_11_134 h (fun v2 h => ?_)
        refine mjr_iload_n (x := l1) D_209_28 rfl ?_
        refine mjq_aI D_209_29 h (fun v3 h => ?_)
        refine mjq_icmp_ge (tgt := 37) D_209_30 rfl h (fun h => ?_) (fun h => ?_)
        · exact mjG.fg (lo' := [none, none, none]) True.intro ((t_209_37 hR h1 h2) _ _ h)
        · refine mjr_iload_n (x := l2) D_209_33 rfl ?_
          refine mjr_goto (tgt := 38) D_209_34 rfl ?_
          exact mjq_ret D_209_38 rfl h1 h2 h
    · refine mjq_bi (v := (6 : Int32)) D_209_13 rfl ?_
      exact mjq_ret D_209_15 rfl h1 h2 h
  · refine mjq_ic (v := (5 : Int32)) D_209_5 rfl ?_
    exact mjq_ret D_209_6 rfl h1 h2 h
noncomputable def f_209 (R : mjR) (a0 : Nat) (a1 : Int32) (a2 : Int32) (hp : mjH) : mjU := b_209_0 R a0 a1 a2 hp
theorem c_209 {R : mjR} {d : Nat} (hR : mjC R d) {a0 : Nat} {a1 : Int32} {a2 : Int32} {hp : mjH} {q : Option Value × mjH} (h : f_209 R a0 a1 a2 hp = some q) : mjM (d + 1) 0 0 209 [.ref a0, .int a1, .int a2] hp (mjEq q) :=
  mjM_of Ja_209 (Nat.le_of_ble_eq_true rfl) (mjG.fg (lo' := [some (.ref a0), some (.int a1), some (.int a2)]) (And.intro rfl (And.intro rfl (And.intro rfl True.intro))) ((t_209_0 hR (Nat.le_refl 0) (Nat.le_refl 0)) a0 a1 a2 hp q h))
def J_210 : mjI := (⟨"OwnerHeap", "start", "(II)Z"⟩, 11, prog_1_method_10_code, 3, (some .boolean), 2, false)
theorem Ja_210 : mjMt 210 = some J_210 := by rfl
theorem D_210_0 : decode J_210.2.2.1 0 = .ok (.aload_n 0, 1) := dzq_42 (by decide +kernel)
theorem D_210_1 : decode J_210.2.2.1 1 = .ok (.getfield 121, 3) := dzq_180 (by decide +kernel)
theorem D_210_4 : decode J_210.2.2.1 4 = .ok (.ifCond .eq 27, 3) := dzq_153 (by decide +kernel)
theorem D_210_7 : decode J_210.2.2.1 7 = .ok (.iload_n 1, 1) := dzq_27 (by decide +kernel)
theorem D_210_8 : decode J_210.2.2.1 8 = .ok (.bipush 8, 2) := dzq_16 (by decide +kernel)
theorem D_210_10 : decode J_210.2.2.1 10 = .ok (.if_icmp .lt 21, 3) := dzq_161 (by decide +kernel)
theorem D_210_13 : decode J_210.2.2.1 13 = .ok (.iload_n 1, 1) := dzq_27 (by decide +kernel)
theorem D_210_14 : decode J_210.2.2.1 14 = .ok (.sipush 4000, 3) := dzq_17 (by decide +kernel)
theorem D_210_17 : decode J_210.2.2.1 17 = .ok (.if_icmp .gt 14, 3) := dzq_163 (by decide +kernel)
theorem D_210_20 : decode J_210.2.2.1 20 = .ok (.iload_n 2, 1) := dzq_28 (by decide +kernel)
theorem D_210_21 : decode J_210.2.2.1 21 = .ok (.iconst 1, 1) := dzq_4 (by decide +kernel)
theorem D_210_22 : decode J_210.2.2.1 22 = .ok (.if_icmp .lt 9, 3) := dzq_161 (by decide +kernel)
theorem D_210_25 : decode J_210.2.2.1 25 = .ok (.iload_n 2, 1) := dzq_28 (by decide +kernel)
theorem D_210_26 : decode J_210.2.2.1 26 = .ok (.bipush 40, 2) := dzq_16 (by decide +kernel)
theorem D_210_28 : decode J_210.2.2.1 28 = .ok (.if_icmp .le 5, 3) := dzq_164 (by decide +kernel)
theorem D_210_31 : decode J_210.2.2.1 31 = .ok (.iconst 0, 1) := dzq_3 (by decide +kernel)
theorem D_210_32 : decode J_210.2.2.1 32 = .ok (.ireturn, 1) := dzq_172 (by decide +kernel)
theorem D_210_33 : decode J_210.2.2.1 33 = .ok (.aload_n 0, 1) := dzq_42 (by decide +kernel)
theorem D_210_34 : decode J_210.2.2.1 34 = .ok (.getfield 76, 3) := dzq_180 (by decide +kernel)
theorem D_210_37 : decode J_210.2.2.1 37 = .ok (.aload_n 0, 1) := dzq_42 (by decide +kernel)
theorem D_210_38 : decode J_210.2.2.1 38 = .ok (.getfield 16, 3) := dzq_180 (by decide +kernel)
theorem D_210_41 : decode J_210.2.2.1 41 = .ok (.iload_n 1, 1) := dzq_27 (by decide +kernel)
theorem D_210_42 : decode J_210.2.2.1 42 = .ok (.iload_n 2, 1) := dzq_28 (by decide +kernel)
theorem D_210_43 : decode J_210.2.2.1 43 = .ok (.invokevirtual 164, 3) := dzq_182 (by decide +kernel)
theorem D_210_46 : decode J_210.2.2.1 46 = .ok (.aload_n 0, 1) := dzq_42 (by decide +kernel)
theorem D_210_47 : decode J_210.2.2.1 47 = .ok (.getfield 83, 3) := dzq_180 (by decide +kernel)
theorem D_210_50 : decode J_210.2.2.1 50 = .ok (.aload_n 0, 1) := dzq_42 (by decide +kernel)
theorem D_210_51 : decode J_210.2.2.1 51 = .ok (.getfield 16, 3) := dzq_180 (by decide +kernel)
theorem D_210_54 : decode J_210.2.2.1 54 = .ok (.invokevirtual 168, 3) := dzq_182 (by decide +kernel)
theorem D_210_57 : decode J_210.2.2.1 57 = .ok (.iconst 1, 1) := dzq_4 (by decide +kernel)
theorem D_210_58 : decode J_210.2.2.1 58 = .ok (.ireturn, 1) := dzq_172 (by decide +kernel)
def P_210_31 (X : mjX) (d C S kc ks : Nat) (k : mjH → mjU) : Prop := ∀  (hp : mjH) (q : Option Value × mjH), k  hp = some q → mjG X d C S J_210 (mjEq q) 31 [none, none, none] [] hp kc ks
def P_210_0 (X : mjX) (d C S kc ks : Nat) (k : Nat → Int32 → Int32 → mjH → mjU) : Prop := ∀ (l0 : Nat) (l1 : Int32) (l2 : Int32) (hp : mjH) (q : Option Value × mjH), k l0 l1 l2 hp = some q → mjG X d C S J_210 (mjEq q) 0 [some (.ref l0), some (.int l1), some (.int l2)] [] hp kc ks
noncomputable def b_210_31 (R : mjR)  (hp : mjH) : mjU := some (some (.int (0 : Int32)), hp)
theorem t_210_31 {X : mjX} {d C S kc ks : Nat} {R : mjR} (hR : mjC R d) (h1 : kc ≤ C) (h2 : ks ≤ S) : P_210_31 X (d + 1) C S kc ks (b_210_31 R) := by
  intro  hp q h
  unfold b_210_31 at h
  refine mjq_ic (v := (0 : Int32)) D_210_31 rfl ?_
  exact mjr_ireturn D_210_32 rfl rfl h1 h2 (Option.some.inj h)
noncomputable def b_210_0 (R : mjR) (l0 : Nat) (l1 : Int32) (l2 : Int32) (hp : mjH) : mjU := gI hp l0 11 8 (fun v1 => (if v1 = 0 then b_210_31 R hp else (if l1 < (8 : Int32) then b_210_31 R hp else (if (4000 : Int32) < l1 then b_210_31 R hp else (if l2 < (1 : Int32) then b_210_31 R hp else (if l2 ≤ (40 : Int32) then gR hp l0 11 12 (fun v2 => gR hp l0 11 6 (fun v3 => rV hp v2 5 (bN (R 74 [.ref v2, .ref v3, .int l1, .int l2] hp) (fun  hp4 => gR hp4 l0 11 13 (fun v5 => gR hp4 l0 11 6 (fun v6 => rV hp4 v5 10 (bN (R 184 [.ref v5, .ref v6] hp4) (fun  hp7 => some (some (.int (1 : Int32)), hp7))))))))) else b_210_31 R hp))))))
theorem t_210_0 {X : mjX} {d C S kc ks : Nat} {R : mjR} (hR : mjC R d) (h1 : kc ≤ C) (h2 : ks ≤ S) : P_210_0 X (d + 1) C S kc ks (b_210_0 R) := by
  intro l0 l1 l2 hp q h
  unfold b_210_0 at h
  refine mjr_aload_n (x := l0) D_210_0 rfl ?_
  refine mjq_gI D_210_1 fr_11_121 h (fun v1 h => ?_)
  refine mjq_if_eq (tgt := 31) D_210_4 rfl h (fun h => ?_) (fun h => ?_)
  · exact mjG.fg (lo' := [none, none, none]) True.intro ((t_210_31 hR h1 h2) _ _ h)
  · refine mjr_iload_n (x := l1) D_210_7 rfl ?_
    refine mjq_bi (v := (8 : Int32)) D_210_8 rfl ?_
    refine mjq_icmp_lt (tgt := 31) D_210_10 rfl h (fun h => ?_) (fun h => ?_)
    · exact mjG.fg (lo' := [none, none, none]) True.intro ((t_210_31 hR h1 h2) _ _ h)
    · refine mjr_iload_n (x := l1) D_210_13 rfl ?_
      refine mjq_si (v := (4000 : Int32)) D_210_14 rfl ?_
      refine mjq_icmp_gt (tgt := 31) D_210_17 rfl h (fun h => ?_) (fun h => ?_)
      · exact mjG.fg (lo' := [none, none, none]) True.intro ((t_210_31 hR h1 h2) _ _ h)
      · refine mjr_iload_n (x := l2) D_210_20 rfl ?_
        refine mjq_ic (v := (1 : Int32)) D_210_21 rfl ?_
        refine mjq_icmp_lt (tgt := 31) D_210_22 rfl h (fun h => ?_) (fun h => ?_)
        · exact mjG.fg (lo' := [none, none, none]) True.intro ((t_210_31 hR h1 h2) _ _ h)
        · refine mjr_iload_n (x := l2) D_210_25 rfl ?_
          refine mjq_bi (v := (40 : Int32)) D_210_26 rfl ?_
          refine mjq_icmp_le (tgt := 33) D_210_28 rfl h (fun h => ?_) (fun h => ?_)
          · refine mjr_aload_n (x := l0) D_210_33 rfl ?_
            refine mjq_gR D_210_34 fr_11_76 h (fun v2 h => ?_)
            refine mjr_aload_n (x := l0) D_210_37 rfl ?_
            refine mjq_gR D_210_38 fr_11_16 h (fun v3 h => ?_)
            refine mjr_iload_n (x := l1) D_210_41 rfl ?_
            refine mjr_iload_n (x := l2) D_210_42 rfl ?_
            refine mjq_vN (As := [.ref v3, .int l1, .int l2]) (rest := []) D_210_43 mr_11_164 V_74 rfl rfl rfl hR (Nat.le_refl _) h1 h2 h (fun  hp4 h => ?_)
            refine mjr_aload_n (x := l0) D_210_46 rfl ?_
            refine mjq_gR D_210_47 fr_11_83 h (fun v5 h => ?_)
            refine mjr_aload_n (x := l0) D_210_50 rfl ?_
            refine mjq_gR D_210_51 fr_11_16 h (fun v6 h => ?_)
            refine mjq_vN (As := [.ref v6]) (rest := []) D_210_54 mr_11_168 V_184 rfl rfl rfl hR (Nat.le_refl _) h1 h2 h (fun  hp7 h => ?_)
            refine mjq_ic (v := (1 : Int32)) D_210_57 rfl ?_
            exact mjr_ireturn D_210_58 rfl rfl h1 h2 (Option.some.inj h)
          · exact mjG.fg (lo' := [none, none, none]) True.intro ((t_210_31 hR h1 h2) _ _ h)
noncomputable def f_210 (R : mjR) (a0 : Nat) (a1 : Int32) (a2 : Int32) (hp : mjH) : mjU := b_210_0 R a0 a1 a2 hp
theorem c_210 {R : mjR} {d : Nat} (hR : mjC R d) {a0 : Nat} {a1 : Int32} {a2 : Int32} {hp : mjH} {q : Option Value × mjH} (h : f_210 R a0 a1 a2 hp = some q) : mjM (d + 1) 0 0 210 [.ref a0, .int a1, .int a2] hp (mjEq q) :=
  mjM_of Ja_210 (Nat.le_of_ble_eq_true rfl) (mjG.fg (lo' := [some (.ref a0), some (.int a1), some (.int a2)]) (And.intro rfl (And.intro rfl (And.intro rfl True.intro))) ((t_210_0 hR (Nat.le_refl 0) (Nat.le_refl 0)) a0 a1 a2 hp q h))
def J_211 : mjI := (⟨"OwnerHeap", "run", "(I)I"⟩, 11, prog_1_method_11_code, 2, (some .int), 1, false)
theorem Ja_211 : mjMt 211 = some J_211 := by rfl
theorem D_211_0 : decode J_211.2.2.1 0 = .ok (.iload_n 1, 1) := dzq_27 (by decide +kernel)
theorem D_211_1 : decode J_211.2.2.1 1 = .ok (.iconst 1, 1) := dzq_4 (by decide +kernel)
theorem D_211_2 : decode J_211.2.2.1 2 = .ok (.if_icmp .lt 21, 3) := dzq_161 (by decide +kernel)
theorem D_211_5 : decode J_211.2.2.1 5 = .ok (.iload_n 1, 1) := dzq_27 (by decide +kernel)
theorem D_211_6 : decode J_211.2.2.1 6 = .ok (.sipush 2000, 3) := dzq_17 (by decide +kernel)
theorem D_211_9 : decode J_211.2.2.1 9 = .ok (.if_icmp .gt 14, 3) := dzq_163 (by decide +kernel)
theorem D_211_12 : decode J_211.2.2.1 12 = .ok (.aload_n 0, 1) := dzq_42 (by decide +kernel)
theorem D_211_13 : decode J_211.2.2.1 13 = .ok (.getfield 76, 3) := dzq_180 (by decide +kernel)
theorem D_211_16 : decode J_211.2.2.1 16 = .ok (.getfield 171, 3) := dzq_180 (by decide +kernel)
theorem D_211_19 : decode J_211.2.2.1 19 = .ok (.iconst 1, 1) := dzq_4 (by decide +kernel)
theorem D_211_20 : decode J_211.2.2.1 20 = .ok (.if_icmp .eq 5, 3) := dzq_159 (by decide +kernel)
theorem D_211_23 : decode J_211.2.2.1 23 = .ok (.iconst (-1), 1) := dzq_2 (by decide +kernel)
theorem D_211_24 : decode J_211.2.2.1 24 = .ok (.ireturn, 1) := dzq_172 (by decide +kernel)
theorem D_211_25 : decode J_211.2.2.1 25 = .ok (.aload_n 0, 1) := dzq_42 (by decide +kernel)
theorem D_211_26 : decode J_211.2.2.1 26 = .ok (.getfield 76, 3) := dzq_180 (by decide +kernel)
theorem D_211_29 : decode J_211.2.2.1 29 = .ok (.iload_n 1, 1) := dzq_27 (by decide +kernel)
theorem D_211_30 : decode J_211.2.2.1 30 = .ok (.invokevirtual 174, 3) := dzq_182 (by decide +kernel)
theorem D_211_33 : decode J_211.2.2.1 33 = .ok (.aload_n 0, 1) := dzq_42 (by decide +kernel)
theorem D_211_34 : decode J_211.2.2.1 34 = .ok (.getfield 83, 3) := dzq_180 (by decide +kernel)
theorem D_211_37 : decode J_211.2.2.1 37 = .ok (.invokevirtual 128, 3) := dzq_182 (by decide +kernel)
theorem D_211_40 : decode J_211.2.2.1 40 = .ok (.aload_n 0, 1) := dzq_42 (by decide +kernel)
theorem D_211_41 : decode J_211.2.2.1 41 = .ok (.getfield 76, 3) := dzq_180 (by decide +kernel)
theorem D_211_44 : decode J_211.2.2.1 44 = .ok (.getfield 171, 3) := dzq_180 (by decide +kernel)
theorem D_211_47 : decode J_211.2.2.1 47 = .ok (.ireturn, 1) := dzq_172 (by decide +kernel)
def P_211_23 (X : mjX) (d C S kc ks : Nat) (k : mjH → mjU) : Prop := ∀  (hp : mjH) (q : Option Value × mjH), k  hp = some q → mjG X d C S J_211 (mjEq q) 23 [none, none] [] hp kc ks
def P_211_0 (X : mjX) (d C S kc ks : Nat) (k : Nat → Int32 → mjH → mjU) : Prop := ∀ (l0 : Nat) (l1 : Int32) (hp : mjH) (q : Option Value × mjH), k l0 l1 hp = some q → mjG X d C S J_211 (mjEq q) 0 [some (.ref l0), some (.int l1)] [] hp kc ks
noncomputable def b_211_23 (R : mjR)  (hp : mjH) : mjU := some (some (.int (-1 : Int32)), hp)
theorem t_211_23 {X : mjX} {d C S kc ks : Nat} {R : mjR} (hR : mjC R d) (h1 : kc ≤ C) (h2 : ks ≤ S) : P_211_23 X (d + 1) C S kc ks (b_211_23 R) := by
  intro  hp q h
  unfold b_211_23 at h
  refine mjq_ic (v := (-1 : Int32)) D_211_23 rfl ?_
  exact mjq_ret D_211_24 rfl h1 h2 h
noncomputable def b_211_0 (R : mjR) (l0 : Nat) (l1 : Int32) (hp : mjH) : mjU := (if l1 < (1 : Int32) then b_211_23 R hp else (if (2000 : Int32) < l1 then b_211_23 R hp else gR hp l0 11 12 (fun v1 => gI hp v1 5 8 (fun v2 => (if v2 = (1 : Int32) then gR hp l0 11 12 (fun v3 => rV hp v3 5 (bN (R 75 [.ref v3, .int l1] hp) (fun  hp4 => gR hp4 l0 11 13 (fun v5 => rV hp4 v5 10 (bN (R 183 [.ref v5] hp4) (fun  hp6 => gR hp6 l0 11 12 (fun v7 => gI hp6 v7 5 8 (fun v8 => some (some (.int v8), hp6))))))))) else b_211_23 R hp)))))
theorem t_211_0 {X : mjX} {d C S kc ks : Nat} {R : mjR} (hR : mjC R d) (h1 : kc ≤ C) (h2 : ks ≤ S) : P_211_0 X (d + 1) C S kc ks (b_211_0 R) := by
  intro l0 l1 hp q h
  unfold b_211_0 at h
  refine mjr_iload_n (x := l1) D_211_0 rfl ?_
  refine mjq_ic (v := (1 : Int32)) D_211_1 rfl ?_
  refine mjq_icmp_lt (tgt := 23) D_211_2 rfl h (fun h => ?_) (fun h => ?_)
  · exact mjG.fg (lo' := [none, none]) True.intro ((t_211_23 hR h1 h2) _ _ h)
  · refine mjr_iload_n (x := l1) D_211_5 rfl ?_
    refine mjq_si (v := (2000 : Int32)) D_211_6 rfl ?_
    refine mjq_icmp_gt (tgt := 23) D_211_9 rfl h (fun h => ?_) (fun h => ?_)
    · exact mjG.fg (lo' := [none, none]) True.intro ((t_211_23 hR h1 h2) _ _ h)
    · refine mjr_aload_n (x := l0) D_211_12 rfl ?_
      refine mjq_gR D_211_13 fr_11_76 h (fun v1 h => ?_)
      refine mjq_gI D_211_16 fr_11_171 h (fun v2 h => ?_)
      refine mjq_ic (v := (1 : Int32)) D_211_19 rfl ?_
      refine mjq_icmp_eq (tgt := 25) D_211_20 rfl h (fun h => ?_) (fun h => ?_)
      · refine mjr_aload_n (x := l0) D_211_25 rfl ?_
        refine mjq_gR D_211_26 fr_11_76 h (fun v3 h => ?_)
        refine mjr_iload_n (x := l1) D_211_29 rfl ?_
        refine mjq_vN (As := [.int l1]) (rest := []) D_211_30 mr_11_174 V_75 rfl rfl rfl hR (Nat.le_refl _) h1 h2 h (fun  hp4 h => ?_)
        refine mjr_aload_n (x := l0) D_211_33 rfl ?_
        refine mjq_gR D_211_34 fr_11_83 h (fun v5 h => ?_)
        refine mjq_vN (As := []) (rest := []) D_211_37 mr_11_128 V_183 rfl rfl rfl hR (Nat.le_refl _) h1 h2 h (fun  hp6 h => ?_)
        refine mjr_aload_n (x := l0) D_211_40 rfl ?_
        refine mjq_gR D_211_41 fr_11_76 h (fun v7 h => ?_)
        refine mjq_gI D_211_44 fr_11_171 h (fun v8 h => ?_)
        exact mjq_ret D_211_47 rfl h1 h2 h
      · exact mjG.fg (lo' := [none, none]) True.intro ((t_211_23 hR h1 h2) _ _ h)
noncomputable def f_211 (R : mjR) (a0 : Nat) (a1 : Int32) (hp : mjH) : mjU := b_211_0 R a0 a1 hp
theorem c_211 {R : mjR} {d : Nat} (hR : mjC R d) {a0 : Nat} {a1 : Int32} {hp : mjH} {q : Option Value × mjH} (h : f_211 R a0 a1 hp = some q) : mjM (d + 1) 0 0 211 [.ref a0, .int a1] hp (mjEq q) :=
  mjM_of Ja_211 (Nat.le_of_ble_eq_true rfl) (mjG.fg (lo' := [some (.ref a0), some (.int a1)]) (And.intro rfl (And.intro rfl True.intro)) ((t_211_0 hR (Nat.le_refl 0) (Nat.le_refl 0)) a0 a1 hp q h))
def J_212 : mjI := (⟨"OwnerHeap", "state", "(I)I"⟩, 11, prog_1_method_12_code, 2, (some .int), 1, false)
theorem Ja_212 : mjMt 212 = some J_212 := by rfl
theorem D_212_0 : decode J_212.2.2.1 0 = .ok (.iload_n 1, 1) := dzq_27 (by decide +kernel)
theorem D_212_1 : decode J_212.2.2.1 1 = .ok (.tableswitch 141 0 9 #[55, 63, 71, 79, 87, 95, 103, 111, 122, 133], 55) := by decide +kernel
theorem D_212_56 : decode J_212.2.2.1 56 = .ok (.aload_n 0, 1) := dzq_42 (by decide +kernel)
theorem D_212_57 : decode J_212.2.2.1 57 = .ok (.getfield 76, 3) := dzq_180 (by decide +kernel)
theorem D_212_60 : decode J_212.2.2.1 60 = .ok (.getfield 171, 3) := dzq_180 (by decide +kernel)
theorem D_212_63 : decode J_212.2.2.1 63 = .ok (.ireturn, 1) := dzq_172 (by decide +kernel)
theorem D_212_64 : decode J_212.2.2.1 64 = .ok (.aload_n 0, 1) := dzq_42 (by decide +kernel)
theorem D_212_65 : decode J_212.2.2.1 65 = .ok (.getfield 76, 3) := dzq_180 (by decide +kernel)
theorem D_212_68 : decode J_212.2.2.1 68 = .ok (.getfield 177, 3) := dzq_180 (by decide +kernel)
theorem D_212_71 : decode J_212.2.2.1 71 = .ok (.ireturn, 1) := dzq_172 (by decide +kernel)
theorem D_212_72 : decode J_212.2.2.1 72 = .ok (.aload_n 0, 1) := dzq_42 (by decide +kernel)
theorem D_212_73 : decode J_212.2.2.1 73 = .ok (.getfield 76, 3) := dzq_180 (by decide +kernel)
theorem D_212_76 : decode J_212.2.2.1 76 = .ok (.getfield 180, 3) := dzq_180 (by decide +kernel)
theorem D_212_79 : decode J_212.2.2.1 79 = .ok (.ireturn, 1) := dzq_172 (by decide +kernel)
theorem D_212_80 : decode J_212.2.2.1 80 = .ok (.aload_n 0, 1) := dzq_42 (by decide +kernel)
theorem D_212_81 : decode J_212.2.2.1 81 = .ok (.getfield 76, 3) := dzq_180 (by decide +kernel)
theorem D_212_84 : decode J_212.2.2.1 84 = .ok (.getfield 183, 3) := dzq_180 (by decide +kernel)
theorem D_212_87 : decode J_212.2.2.1 87 = .ok (.ireturn, 1) := dzq_172 (by decide +kernel)
theorem D_212_88 : decode J_212.2.2.1 88 = .ok (.aload_n 0, 1) := dzq_42 (by decide +kernel)
theorem D_212_89 : decode J_212.2.2.1 89 = .ok (.getfield 76, 3) := dzq_180 (by decide +kernel)
theorem D_212_92 : decode J_212.2.2.1 92 = .ok (.getfield 186, 3) := dzq_180 (by decide +kernel)
theorem D_212_95 : decode J_212.2.2.1 95 = .ok (.ireturn, 1) := dzq_172 (by decide +kernel)
theorem D_212_96 : decode J_212.2.2.1 96 = .ok (.aload_n 0, 1) := dzq_42 (by decide +kernel)
theorem D_212_97 : decode J_212.2.2.1 97 = .ok (.getfield 67, 3) := dzq_180 (by decide +kernel)
theorem D_212_100 : decode J_212.2.2.1 100 = .ok (.getfield 189, 3) := dzq_180 (by decide +kernel)
theorem D_212_103 : decode J_212.2.2.1 103 = .ok (.ireturn, 1) := dzq_172 (by decide +kernel)
theorem D_212_104 : decode J_212.2.2.1 104 = .ok (.aload_n 0, 1) := dzq_42 (by decide +kernel)
theorem D_212_105 : decode J_212.2.2.1 105 = .ok (.getfield 67, 3) := dzq_180 (by decide +kernel)
theorem D_212_108 : decode J_212.2.2.1 108 = .ok (.getfield 192, 3) := dzq_180 (by decide +kernel)
theorem D_212_111 : decode J_212.2.2.1 111 = .ok (.ireturn, 1) := dzq_172 (by decide +kernel)
theorem D_212_112 : decode J_212.2.2.1 112 = .ok (.aload_n 0, 1) := dzq_42 (by decide +kernel)
theorem D_212_113 : decode J_212.2.2.1 113 = .ok (.getfield 76, 3) := dzq_180 (by decide +kernel)
theorem D_212_116 : decode J_212.2.2.1 116 = .ok (.getfield 195, 3) := dzq_180 (by decide +kernel)
theorem D_212_119 : decode J_212.2.2.1 119 = .ok (.getfield 199, 3) := dzq_180 (by decide +kernel)
theorem D_212_122 : decode J_212.2.2.1 122 = .ok (.ireturn, 1) := dzq_172 (by decide +kernel)
theorem D_212_123 : decode J_212.2.2.1 123 = .ok (.aload_n 0, 1) := dzq_42 (by decide +kernel)
theorem D_212_124 : decode J_212.2.2.1 124 = .ok (.getfield 76, 3) := dzq_180 (by decide +kernel)
theorem D_212_127 : decode J_212.2.2.1 127 = .ok (.getfield 195, 3) := dzq_180 (by decide +kernel)
theorem D_212_130 : decode J_212.2.2.1 130 = .ok (.getfield 202, 3) := dzq_180 (by decide +kernel)
theorem D_212_133 : decode J_212.2.2.1 133 = .ok (.ireturn, 1) := dzq_172 (by decide +kernel)
theorem D_212_134 : decode J_212.2.2.1 134 = .ok (.aload_n 0, 1) := dzq_42 (by decide +kernel)
theorem D_212_135 : decode J_212.2.2.1 135 = .ok (.getfield 76, 3) := dzq_180 (by decide +kernel)
theorem D_212_138 : decode J_212.2.2.1 138 = .ok (.getfield 205, 3) := dzq_180 (by decide +kernel)
theorem D_212_141 : decode J_212.2.2.1 141 = .ok (.ireturn, 1) := dzq_172 (by decide +kernel)
theorem D_212_142 : decode J_212.2.2.1 142 = .ok (.iconst (-1), 1) := dzq_2 (by decide +kernel)
theorem D_212_143 : decode J_212.2.2.1 143 = .ok (.ireturn, 1) := dzq_172 (by decide +kernel)
def P_212_0 (X : mjX) (d C S kc ks : Nat) (k : Nat → Int32 → mjH → mjU) : Prop := ∀ (l0 : Nat) (l1 : Int32) (hp : mjH) (q : Option Value × mjH), k l0 l1 hp = some q → mjG X d C S J_212 (mjEq q) 0 [some (.ref l0), some (.int l1)] [] hp kc ks
noncomputable def b_212_0 (R : mjR) (l0 : Nat) (l1 : Int32) (hp : mjH) : mjU := (if l1 = (0 : Int32) then gR hp l0 11 12 (fun v2 => gI hp v2 5 8 (fun v3 => some (some (.int v3), hp))) else if l1 = (1 : Int32) then gR hp l0 11 12 (fun v5 => gI hp v5 5 9 (fun v6 => some (some (.int v6), hp))) else if l1 = (2 : Int32) then gR hp l0 11 12 (fun v8 => gI hp v8 5 10 (fun v9 => some (some (.int v9), hp))) else if l1 = (3 : Int32) then gR hp l0 11 12 (fun v11 => gI hp v11 5 11 (fun v12 => some (some (.int v12), hp))) else if l1 = (4 : Int32) then gR hp l0 11 12 (fun v14 => gI hp v14 5 12 (fun v15 => some (some (.int v15), hp))) else if l1 = (5 : Int32) then gR hp l0 11 11 (fun v17 => gI hp v17 3 3 (fun v18 => some (some (.int v18), hp))) else if l1 = (6 : Int32) then gR hp l0 11 11 (fun v20 => gI hp v20 3 2 (fun v21 => some (some (.int v21), hp))) else if l1 = (7 : Int32) then gR hp l0 11 12 (fun v23 => gR hp v23 5 1 (fun v24 => gI hp v24 2 0 (fun v25 => some (some (.int v25), hp)))) else if l1 = (8 : Int32) then gR hp l0 11 12 (fun v27 => gR hp v27 5 1 (fun v28 => gI hp v28 2 1 (fun v29 => some (some (.int v29), hp)))) else if l1 = (9 : Int32) then gR hp l0 11 12 (fun v31 => gI hp v31 5 13 (fun v32 => some (some (.int v32), hp))) else some (some (.int (-1 : Int32)), hp))
theorem t_212_0 {X : mjX} {d C S kc ks : Nat} {R : mjR} (hR : mjC R d) (h1 : kc ≤ C) (h2 : ks ≤ S) : P_212_0 X (d + 1) C S kc ks (b_212_0 R) := by
  intro l0 l1 hp q h
  unfold b_212_0 at h
  refine mjr_iload_n (x := l1) D_212_0 rfl ?_
  refine mjq_tsw (c := (0 : Int32)) (tgt := 56) D_212_1 (by decide) (by decide) rfl rfl h (fun h => ?_) (fun n1 h => ?_)
  · refine mjr_aload_n (x := l0) D_212_56 rfl ?_
    refine mjq_gR D_212_57 fr_11_76 h (fun v2 h => ?_)
    refine mjq_gI D_212_60 fr_11_171 h (fun v3 h => ?_)
    exact mjq_ret D_212_63 rfl h1 h2 h
  refine mjq_tsw (c := (1 : Int32)) (tgt := 64) D_212_1 (by decide) (by decide) rfl rfl h (fun h => ?_) (fun n4 h => ?_)
  · refine mjr_aload_n (x := l0) D_212_64 rfl ?_
    refine mjq_gR D_212_65 fr_11_76 h (fun v5 h => ?_)
    refine mjq_gI D_212_68 fr_11_177 h (fun v6 h => ?_)
    exact mjq_ret D_212_71 rfl h1 h2 h
  refine mjq_tsw (c := (2 : Int32)) (tgt := 72) D_212_1 (by decide) (by decide) rfl rfl h (fun h => ?_) (fun n7 h => ?_)
  · refine mjr_aload_n (x := l0) D_212_72 rfl ?_
    refine mjq_gR D_212_73 fr_11_76 h (fun v8 h => ?_)
    refine mjq_gI D_212_76 fr_11_180 h (fun v9 h => ?_)
    exact mjq_ret D_212_79 rfl h1 h2 h
  refine mjq_tsw (c := (3 : Int32)) (tgt := 80) D_212_1 (by decide) (by decide) rfl rfl h (fun h => ?_) (fun n10 h => ?_)
  · refine mjr_aload_n (x := l0) D_212_80 rfl ?_
    refine mjq_gR D_212_81 fr_11_76 h (fun v11 h => ?_)
    refine mjq_gI D_212_84 fr_11_183 h (fun v12 h => ?_)
    exact mjq_ret D_212_87 rfl h1 h2 h
  refine mjq_tsw (c := (4 : Int32)) (tgt := 88) D_212_1 (by decide) (by decide) rfl rfl h (fun h => ?_) (fun n13 h => ?_)
  · refine mjr_aload_n (x := l0) D_212_88 rfl ?_
    refine mjq_gR D_212_89 fr_11_76 h (fun v14 h => ?_)
    refine mjq_gI D_212_92 fr_11_186 h (fun v15 h => ?_)
    exact mjq_ret D_212_95 rfl h1 h2 h
  refine mjq_tsw (c := (5 : Int32)) (tgt := 96) D_212_1 (by decide) (by decide) rfl rfl h (fun h => ?_) (fun n16 h => ?_)
  · refine mjr_aload_n (x := l0) D_212_96 rfl ?_
    refine mjq_gR D_212_97 fr_11_67 h (fun v17 h => ?_)
    refine mjq_gI D_212_100 fr_11_189 h (fun v18 h => ?_)
    exact mjq_ret D_212_103 rfl h1 h2 h
  refine mjq_tsw (c := (6 : Int32)) (tgt := 104) D_212_1 (by decide) (by decide) rfl rfl h (fun h => ?_) (fun n19 h => ?_)
  · refine mjr_aload_n (x := l0) D_212_104 rfl ?_
    refine mjq_gR D_212_105 fr_11_67 h (fun v20 h => ?_)
    refine mjq_gI D_212_108 fr_11_192 h (fun v21 h => ?_)
    exact mjq_ret D_212_111 rfl h1 h2 h
  refine mjq_tsw (c := (7 : Int32)) (tgt := 112) D_212_1 (by decide) (by decide) rfl rfl h (fun h => ?_) (fun n22 h => ?_)
  · refine mjr_aload_n (x := l0) D_212_112 rfl ?_
    refine mjq_gR D_212_113 fr_11_76 h (fun v23 h => ?_)
    refine mjq_gR D_212_116 fr_11_195 h (fun v24 h => ?_)
    refine mjq_gI D_212_119 fr_11_199 h (fun v25 h => ?_)
    exact mjq_ret D_212_122 rfl h1 h2 h
  refine mjq_tsw (c := (8 : Int32)) (tgt := 123) D_212_1 (by decide) (by decide) rfl rfl h (fun h => ?_) (fun n26 h => ?_)
  · refine mjr_aload_n (x := l0) D_212_123 rfl ?_
    refine mjq_gR D_212_124 fr_11_76 h (fun v27 h => ?_)
    refine mjq_gR D_212_127 fr_11_195 h (fun v28 h => ?_)
    refine mjq_gI D_212_130 fr_11_202 h (fun v29 h => ?_)
    exact mjq_ret D_212_133 rfl h1 h2 h
  refine mjq_tsw (c := (9 : Int32)) (tgt := 134) D_212_1 (by decide) (by decide) rfl rfl h (fun h => ?_) (fun n30 h => ?_)
  · refine mjr_aload_n (x := l0) D_212_134 rfl ?_
    refine mjq_gR D_212_135 fr_11_76 h (fun v31 h => ?_)
    refine mjq_gI D_212_138 fr_11_205 h (fun v32 h => ?_)
    exact mjq_ret D_212_141 rfl h1 h2 h
  refine mjr_tableOut (tgt := 142) D_212_1 (mj_swout [(0 : Int32), (1 : Int32), (2 : Int32), (3 : Int32), (4 : Int32), (5 : Int32), (6 : Int32), (7 : Int32), (8 : Int32), (9 : Int32)] (by decide) (mj_all1 n1 (mj_all1 n4 (mj_all1 n7 (mj_all1 n10 (mj_all1 n13 (mj_all1 n16 (mj_all1 n19 (mj_all1 n22 (mj_all1 n26 (mj_all1 n30 mj_all0))))))))))) rfl ?_
  refine mjq_ic (v := (-1 : Int32)) D_212_142 rfl ?_
  exact mjq_ret D_212_143 rfl h1 h2 h
noncomputable def f_212 (R : mjR) (a0 : Nat) (a1 : Int32) (hp : mjH) : mjU := b_212_0 R a0 a1 hp
theorem c_212 {R : mjR} {d : Nat} (hR : mjC R d) {a0 : Nat} {a1 : Int32} {hp : mjH} {q : Option Value × mjH} (h : f_212 R a0 a1 hp = some q) : mjM (d + 1) 0 0 212 [.ref a0, .int a1] hp (mjEq q) :=
  mjM_of Ja_212 (Nat.le_of_ble_eq_true rfl) (mjG.fg (lo' := [some (.ref a0), some (.int a1)]) (And.intro rfl (And.intro rfl True.intro)) ((t_212_0 hR (Nat.le_refl 0) (Nat.le_refl 0)) a0 a1 hp q h))
def J_213 : mjI := (⟨"OwnerHeap", "said", "(I)I"⟩, 11, prog_1_method_13_code, 2, (some .int), 1, false)
theorem Ja_213 : mjMt 213 = some J_213 := by rfl
theorem D_213_0 : decode J_213.2.2.1 0 = .ok (.iload_n 1, 1) := dzq_27 (by decide +kernel)
theorem D_213_1 : decode J_213.2.2.1 1 = .ok (.ifCond .lt 33, 3) := dzq_155 (by decide +kernel)
theorem D_213_4 : decode J_213.2.2.1 4 = .ok (.iload_n 1, 1) := dzq_27 (by decide +kernel)
theorem D_213_5 : decode J_213.2.2.1 5 = .ok (.sipush 200, 3) := dzq_17 (by decide +kernel)
theorem D_213_8 : decode J_213.2.2.1 8 = .ok (.if_icmp .ge 26, 3) := dzq_162 (by decide +kernel)
theorem D_213_11 : decode J_213.2.2.1 11 = .ok (.iload_n 1, 1) := dzq_27 (by decide +kernel)
theorem D_213_12 : decode J_213.2.2.1 12 = .ok (.aload_n 0, 1) := dzq_42 (by decide +kernel)
theorem D_213_13 : decode J_213.2.2.1 13 = .ok (.getfield 76, 3) := dzq_180 (by decide +kernel)
theorem D_213_16 : decode J_213.2.2.1 16 = .ok (.getfield 205, 3) := dzq_180 (by decide +kernel)
theorem D_213_19 : decode J_213.2.2.1 19 = .ok (.if_icmp .ge 15, 3) := dzq_162 (by decide +kernel)
theorem D_213_22 : decode J_213.2.2.1 22 = .ok (.aload_n 0, 1) := dzq_42 (by decide +kernel)
theorem D_213_23 : decode J_213.2.2.1 23 = .ok (.getfield 76, 3) := dzq_180 (by decide +kernel)
theorem D_213_26 : decode J_213.2.2.1 26 = .ok (.getfield 208, 3) := dzq_180 (by decide +kernel)
theorem D_213_29 : decode J_213.2.2.1 29 = .ok (.iload_n 1, 1) := dzq_27 (by decide +kernel)
theorem D_213_30 : decode J_213.2.2.1 30 = .ok (.iaload, 1) := dzq_46 (by decide +kernel)
theorem D_213_31 : decode J_213.2.2.1 31 = .ok (.goto 4, 3) := dzq_167 (by decide +kernel)
theorem D_213_34 : decode J_213.2.2.1 34 = .ok (.iconst 0, 1) := dzq_3 (by decide +kernel)
theorem D_213_35 : decode J_213.2.2.1 35 = .ok (.ireturn, 1) := dzq_172 (by decide +kernel)
def P_213_34 (X : mjX) (d C S kc ks : Nat) (k : mjH → mjU) : Prop := ∀  (hp : mjH) (q : Option Value × mjH), k  hp = some q → mjG X d C S J_213 (mjEq q) 34 [none, none] [] hp kc ks
def P_213_0 (X : mjX) (d C S kc ks : Nat) (k : Nat → Int32 → mjH → mjU) : Prop := ∀ (l0 : Nat) (l1 : Int32) (hp : mjH) (q : Option Value × mjH), k l0 l1 hp = some q → mjG X d C S J_213 (mjEq q) 0 [some (.ref l0), some (.int l1)] [] hp kc ks
noncomputable def b_213_34 (R : mjR)  (hp : mjH) : mjU := some (some (.int (0 : Int32)), hp)
theorem t_213_34 {X : mjX} {d C S kc ks : Nat} {R : mjR} (hR : mjC R d) (h1 : kc ≤ C) (h2 : ks ≤ S) : P_213_34 X (d + 1) C S kc ks (b_213_34 R) := by
  intro  hp q h
  unfold b_213_34 at h
  refine mjq_ic (v := (0 : Int32)) D_213_34 rfl ?_
  exact mjq_ret D_213_35 rfl h1 h2 h
noncomputable def b_213_0 (R : mjR) (l0 : Nat) (l1 : Int32) (hp : mjH) : mjU := (if l1 < 0 then b_213_34 R hp else (if (200 : Int32) ≤ l1 then b_213_34 R hp else gR hp l0 11 12 (fun v1 => gI hp v1 5 13 (fun v2 => (if v2 ≤ l1 then b_213_34 R hp else gR hp l0 11 12 (fun v3 => gR hp v3 5 14 (fun v4 => aI hp v4 l1 (fun v5 => some (some (.int v5), hp)))))))))
theorem t_213_0 {X : mjX} {d C S kc ks : Nat} {R : mjR} (hR : mjC R d) (h1 : kc ≤ C) (h2 : ks ≤ S) : P_213_0 X (d + 1) C S kc ks (b_213_0 R) := by
  intro l0 l1 hp q h
  unfold b_213_0 at h
  refine mjr_iload_n (x := l1) D_213_0 rfl ?_
  refine mjq_if_lt (tgt := 34) D_213_1 rfl h (fun h => ?_) (fun h => ?_)
  · exact mjG.fg (lo' := [none, none]) True.intro ((t_213_34 hR h1 h2) _ _ h)
  · refine mjr_iload_n (x := l1) D_213_4 rfl ?_
    refine mjq_si (v := (200 : Int32)) D_213_5 rfl ?_
    refine mjq_icmp_ge (tgt := 34) D_213_8 rfl h (fun h => ?_) (fun h => ?_)
    · exact mjG.fg (lo' := [none, none]) True.intro ((t_213_34 hR h1 h2) _ _ h)
    · refine mjr_iload_n (x := l1) D_213_11 rfl ?_
      refine mjr_aload_n (x := l0) D_213_12 rfl ?_
      refine mjq_gR D_213_13 fr_11_76 h (fun v1 h => ?_)
      refine mjq_gI D_213_16 fr_11_205 h (fun v2 h => ?_)
      refine mjq_icmp_ge (tgt := 34) D_213_19 rfl h (fun h => ?_) (fun h => ?_)
      · exact mjG.fg (lo' := [none, none]) True.intro ((t_213_34 hR h1 h2) _ _ h)
      · refine mjr_aload_n (x := l0) D_213_22 rfl ?_
        refine mjq_gR D_213_23 fr_11_76 h (fun v3 h => ?_)
        refine mjq_gR D_213_26 fr_11_208 h (fun v4 h => ?_)
        refine mjr_iload_n (x := l1) D_213_29 rfl ?_
        refine mjq_aI D_213_30 h (fun v5 h => ?_)
        refine mjr_goto (tgt := 35) D_213_31 rfl ?_
        exact mjq_ret D_213_35 rfl h1 h2 h
noncomputable def f_213 (R : mjR) (a0 : Nat) (a1 : Int32) (hp : mjH) : mjU := b_213_0 R a0 a1 hp
theorem c_213 {R : mjR} {d : Nat} (hR : mjC R d) {a0 : Nat} {a1 : Int32} {hp : mjH} {q : Option Value × mjH} (h : f_213 R a0 a1 hp = some q) : mjM (d + 1) 0 0 213 [.ref a0, .int a1] hp (mjEq q) :=
  mjM_of Ja_213 (Nat.le_of_ble_eq_true rfl) (mjG.fg (lo' := [some (.ref a0), some (.int a1)]) (And.intro rfl (And.intro rfl True.intro)) ((t_213_0 hR (Nat.le_refl 0) (Nat.le_refl 0)) a0 a1 hp q h))
def J_214 : mjI := (⟨"OwnerHeap", "call", "(II)I"⟩, 11, prog_1_method_14_code, 5, (some .int), 2, false)
theorem Ja_214 : mjMt 214 = some J_214 := by rfl
theorem D_214_0 : decode J_214.2.2.1 0 = .ok (.aload_n 0, 1) := dzq_42 (by decide +kernel)
theorem D_214_1 : decode J_214.2.2.1 1 = .ok (.getfield 76, 3) := dzq_180 (by decide +kernel)
theorem D_214_4 : decode J_214.2.2.1 4 = .ok (.getfield 195, 3) := dzq_180 (by decide +kernel)
theorem D_214_7 : decode J_214.2.2.1 7 = .ok (.astore_n 3, 1) := by decide +kernel
theorem D_214_8 : decode J_214.2.2.1 8 = .ok (.iload_n 1, 1) := dzq_27 (by decide +kernel)
theorem D_214_9 : decode J_214.2.2.1 9 = .ok (.ifCond .lt 11, 3) := dzq_155 (by decide +kernel)
theorem D_214_12 : decode J_214.2.2.1 12 = .ok (.iload_n 1, 1) := dzq_27 (by decide +kernel)
theorem D_214_13 : decode J_214.2.2.1 13 = .ok (.aload_n 3, 1) := dzq_45 (by decide +kernel)
theorem D_214_14 : decode J_214.2.2.1 14 = .ok (.getfield 199, 3) := dzq_180 (by decide +kernel)
theorem D_214_17 : decode J_214.2.2.1 17 = .ok (.if_icmp .lt 5, 3) := dzq_161 (by decide +kernel)
theorem D_214_20 : decode J_214.2.2.1 20 = .ok (.iconst (-1), 1) := dzq_2 (by decide +kernel)
theorem D_214_21 : decode J_214.2.2.1 21 = .ok (.ireturn, 1) := dzq_172 (by decide +kernel)
theorem D_214_22 : decode J_214.2.2.1 22 = .ok (.aload_n 3, 1) := dzq_45 (by decide +kernel)
theorem D_214_23 : decode J_214.2.2.1 23 = .ok (.getfield 211, 3) := dzq_180 (by decide +kernel)
theorem D_214_26 : decode J_214.2.2.1 26 = .ok (.iload_n 1, 1) := dzq_27 (by decide +kernel)
theorem D_214_27 : decode J_214.2.2.1 27 = .ok (.iaload, 1) := dzq_46 (by decide +kernel)
theorem D_214_28 : decode J_214.2.2.1 28 = .ok (.istore 4, 2) := dzq_54 (by decide +kernel)
theorem D_214_30 : decode J_214.2.2.1 30 = .ok (.iload_n 2, 1) := dzq_28 (by decide +kernel)
theorem D_214_31 : decode J_214.2.2.1 31 = .ok (.tableswitch 95 0 3 #[29, 55, 81, 88], 29) := by decide +kernel
theorem D_214_60 : decode J_214.2.2.1 60 = .ok (.iload 4, 2) := dzq_21 (by decide +kernel)
theorem D_214_62 : decode J_214.2.2.1 62 = .ok (.sipush 384, 3) := dzq_17 (by decide +kernel)
theorem D_214_65 : decode J_214.2.2.1 65 = .ok (.if_icmp .ne 7, 3) := dzq_160 (by decide +kernel)
theorem D_214_68 : decode J_214.2.2.1 68 = .ok (.iconst (-1), 1) := dzq_2 (by decide +kernel)
theorem D_214_69 : decode J_214.2.2.1 69 = .ok (.goto 16, 3) := dzq_167 (by decide +kernel)
theorem D_214_72 : decode J_214.2.2.1 72 = .ok (.aload_n 0, 1) := dzq_42 (by decide +kernel)
theorem D_214_73 : decode J_214.2.2.1 73 = .ok (.getfield 16, 3) := dzq_180 (by decide +kernel)
theorem D_214_76 : decode J_214.2.2.1 76 = .ok (.getfield 216, 3) := dzq_180 (by decide +kernel)
theorem D_214_79 : decode J_214.2.2.1 79 = .ok (.getfield 220, 3) := dzq_180 (by decide +kernel)
theorem D_214_82 : decode J_214.2.2.1 82 = .ok (.iload 4, 2) := dzq_21 (by decide +kernel)
theorem D_214_84 : decode J_214.2.2.1 84 = .ok (.iaload, 1) := dzq_46 (by decide +kernel)
theorem D_214_85 : decode J_214.2.2.1 85 = .ok (.ireturn, 1) := dzq_172 (by decide +kernel)
theorem D_214_86 : decode J_214.2.2.1 86 = .ok (.iload 4, 2) := dzq_21 (by decide +kernel)
theorem D_214_88 : decode J_214.2.2.1 88 = .ok (.sipush 384, 3) := dzq_17 (by decide +kernel)
theorem D_214_91 : decode J_214.2.2.1 91 = .ok (.if_icmp .ne 7, 3) := dzq_160 (by decide +kernel)
theorem D_214_94 : decode J_214.2.2.1 94 = .ok (.iconst (-1), 1) := dzq_2 (by decide +kernel)
theorem D_214_95 : decode J_214.2.2.1 95 = .ok (.goto 16, 3) := dzq_167 (by decide +kernel)
theorem D_214_98 : decode J_214.2.2.1 98 = .ok (.aload_n 0, 1) := dzq_42 (by decide +kernel)
theorem D_214_99 : decode J_214.2.2.1 99 = .ok (.getfield 16, 3) := dzq_180 (by decide +kernel)
theorem D_214_102 : decode J_214.2.2.1 102 = .ok (.getfield 216, 3) := dzq_180 (by decide +kernel)
theorem D_214_105 : decode J_214.2.2.1 105 = .ok (.getfield 223, 3) := dzq_180 (by decide +kernel)
theorem D_214_108 : decode J_214.2.2.1 108 = .ok (.iload 4, 2) := dzq_21 (by decide +kernel)
theorem D_214_110 : decode J_214.2.2.1 110 = .ok (.iaload, 1) := dzq_46 (by decide +kernel)
theorem D_214_111 : decode J_214.2.2.1 111 = .ok (.ireturn, 1) := dzq_172 (by decide +kernel)
theorem D_214_112 : decode J_214.2.2.1 112 = .ok (.aload_n 3, 1) := dzq_45 (by decide +kernel)
theorem D_214_113 : decode J_214.2.2.1 113 = .ok (.getfield 226, 3) := dzq_180 (by decide +kernel)
theorem D_214_116 : decode J_214.2.2.1 116 = .ok (.iload_n 1, 1) := dzq_27 (by decide +kernel)
theorem D_214_117 : decode J_214.2.2.1 117 = .ok (.iaload, 1) := dzq_46 (by decide +kernel)
theorem D_214_118 : decode J_214.2.2.1 118 = .ok (.ireturn, 1) := dzq_172 (by decide +kernel)
theorem D_214_119 : decode J_214.2.2.1 119 = .ok (.aload_n 3, 1) := dzq_45 (by decide +kernel)
theorem D_214_120 : decode J_214.2.2.1 120 = .ok (.getfield 229, 3) := dzq_180 (by decide +kernel)
theorem D_214_123 : decode J_214.2.2.1 123 = .ok (.iload_n 1, 1) := dzq_27 (by decide +kernel)
theorem D_214_124 : decode J_214.2.2.1 124 = .ok (.iaload, 1) := dzq_46 (by decide +kernel)
theorem D_214_125 : decode J_214.2.2.1 125 = .ok (.ireturn, 1) := dzq_172 (by decide +kernel)
theorem D_214_126 : decode J_214.2.2.1 126 = .ok (.iconst (-1), 1) := dzq_2 (by decide +kernel)
theorem D_214_127 : decode J_214.2.2.1 127 = .ok (.ireturn, 1) := dzq_172 (by decide +kernel)
def P_214_20 (X : mjX) (d C S kc ks : Nat) (k : mjH → mjU) : Prop := ∀  (hp : mjH) (q : Option Value × mjH), k  hp = some q → mjG X d C S J_214 (mjEq q) 20 [none, none, none, none, none] [] hp kc ks
def P_214_0 (X : mjX) (d C S kc ks : Nat) (k : Nat → Int32 → Int32 → mjH → mjU) : Prop := ∀ (l0 : Nat) (l1 : Int32) (l2 : Int32) (hp : mjH) (q : Option Value × mjH), k l0 l1 l2 hp = some q → mjG X d C S J_214 (mjEq q) 0 [some (.ref l0), some (.int l1), some (.int l2), none, none] [] hp kc ks
noncomputable def b_214_20 (R : mjR)  (hp : mjH) : mjU := some (some (.int (-1 : Int32)), hp)
theorem t_214_20 {X : mjX} {d C S kc ks : Nat} {R : mjR} (hR : mjC R d) (h1 : kc ≤ C) (h2 : ks ≤ S) : P_214_20 X (d + 1) C S kc ks (b_214_20 R) := by
  intro  hp q h
  unfold b_214_20 at h
  refine mjq_ic (v := (-1 : Int32)) D_214_20 rfl ?_
  exact mjq_ret D_214_21 rfl h1 h2 h
noncomputable def b_214_0 (R : mjR) (l0 : Nat) (l1 : Int32) (l2 : Int32) (hp : mjH) : mjU := gR hp l0 11 12 (fun v1 => gR hp v1 5 1 (fun v2 => (if l1 < 0 then b_214_20 R hp else gI hp v2 2 0 (fun v3 => (if l1 < v3 then gR hp v2 2 2 (fun v4 => aI hp v4 l1 (fun v5 => (if l2 = (0 : Int32) then (if v5 = (384 : Int32) then some (some (.int (-1 : Int32)), hp) else gR hp l0 11 6 (fun v7 => gR hp v7 7 14 (fun v8 => gR hp v8 6 2 (fun v9 => aI hp v9 v5 (fun v10 => some (some (.int v10), hp)))))) else if l2 = (1 : Int32) then (if v5 = (384 : Int32) then some (some (.int (-1 : Int32)), hp) else gR hp l0 11 6 (fun v12 => gR hp v12 7 14 (fun v13 => gR hp v13 6 5 (fun v14 => aI hp v14 v5 (fun v15 => some (some (.int v15), hp)))))) else if l2 = (2 : Int32) then gR hp v2 2 3 (fun v17 => aI hp v17 l1 (fun v18 => some (some (.int v18), hp))) else if l2 = (3 : Int32) then gR hp v2 2 5 (fun v20 => aI hp v20 l1 (fun v21 => some (some (.int v21), hp))) else some (some (.int (-1 : Int32)), hp)))) else b_214_20 R hp)))))
theorem t_214_0 {X : mjX} {d C S kc ks : Nat} {R : mjR} (hR : mjC R d) (h1 : kc ≤ C) (h2 : ks ≤ S) : P_214_0 X (d + 1) C S kc ks (b_214_0 R) := by
  intro l0 l1 l2 hp q h
  unfold b_214_0 at h
  refine mjr_aload_n (x := l0) D_214_0 rfl ?_
  refine mjq_gR D_214_1 fr_11_76 h (fun v1 h => ?_)
  refine mjq_gR D_214_4 fr_11_195 h (fun v2 h => ?_)
  refine mjq_astore_n (lo' := [some (.ref l0), some (.int l1), some (.int l2), some (.ref v2), none]) D_214_7 (Nat.le_of_ble_eq_true rfl) rfl ?_
  refine mjr_iload_n (x := l1) D_214_8 rfl ?_
  refine mjq_if_lt (tgt := 20) D_214_9 rfl h (fun h => ?_) (fun h => ?_)
  · exact mjG.fg (lo' := [none, none, none, none, none]) True.intro ((t_214_20 hR h1 h2) _ _ h)
  · refine mjr_iload_n (x := l1) D_214_12 rfl ?_
    refine mjr_aload_n (x := v2) D_214_13 rfl ?_
    refine mjq_gI D_214_14 fr_11_199 h (fun v3 h => ?_)
    refine mjq_icmp_lt (tgt := 22) D_214_17 rfl h (fun h => ?_) (fun h => ?_)
    · refine mjr_aload_n (x := v2) D_214_22 rfl ?_
      refine mjq_gR D_214_23 fr_11_211 h (fun v4 h => ?_)
      refine mjr_iload_n (x := l1) D_214_26 rfl ?_
      refine mjq_aI D_214_27 h (fun v5 h => ?_)
      refine mjq_istore (lo' := [some (.ref l0), some (.int l1), some (.int l2), some (.ref v2), some (.int v5)]) D_214_28 (Nat.le_of_ble_eq_true rfl) rfl ?_
      refine mjr_iload_n (x := l2) D_214_30 rfl ?_
      refine mjq_tsw (c := (0 : Int32)) (tgt := 60) D_214_31 (by decide) (by decide) rfl rfl h (fun h => ?_) (fun n6 h => ?_)
      · refine mjr_iload (x := v5) D_214_60 rfl ?_
        refine mjq_si (v := (384 : Int32)) D_214_62 rfl ?_
        refine mjq_icmp_ne (tgt := 72) D_214_65 rfl h (fun h => ?_) (fun h => ?_)
        · refine mjr_aload_n (x := l0) D_214_72 rfl ?_
          refine mjq_gR D_214_73 fr_11_16 h (fun v7 h => ?_)
          refine mjq_gR D_214_76 fr_11_216 h (fun v8 h => ?_)
          refine mjq_gR D_214_79 fr_11_220 h (fun v9 h => ?_)
          refine mjr_iload (x := v5) D_214_82 rfl ?_
          refine mjq_aI D_214_84 h (fun v10 h => ?_)
          exact mjq_ret D_214_85 rfl h1 h2 h
        · refine mjq_ic (v := (-1 : Int32)) D_214_68 rfl ?_
          refine mjr_goto (tgt := 85) D_214_69 rfl ?_
          exact mjq_ret D_214_85 rfl h1 h2 h
      refine mjq_tsw (c := (1 : Int32)) (tgt := 86) D_214_31 (by decide) (by decide) rfl rfl h (fun h => ?_) (fun n11 h => ?_)
      · refine mjr_iload (x := v5) D_214_86 rfl ?_
        refine mjq_si (v := (384 : Int32)) D_214_88 rfl ?_
        refine mjq_icmp_ne (tgt := 98) D_214_91 rfl h (fun h => ?_) (fun h => ?_)
        · refine mjr_aload_n (x := l0) D_214_98 rfl ?_
          refine mjq_gR D_214_99 fr_11_16 h (fun v12 h => ?_)
          refine mjq_gR D_214_102 fr_11_216 h (fun v13 h => ?_)
          refine mjq_gR D_214_105 fr_11_223 h (fun v14 h => ?_)
          refine mjr_iload (x := v5) D_214_108 rfl ?_
          refine mjq_aI D_214_110 h (fun v15 h => ?_)
          exact mjq_ret D_214_111 rfl h1 h2 h
        · refine mjq_ic (v := (-1 : Int32)) D_214_94 rfl ?_
          refine mjr_goto (tgt := 111) D_214_95 rfl ?_
          exact mjq_ret D_214_111 rfl h1 h2 h
      refine mjq_tsw (c := (2 : Int32)) (tgt := 112) D_214_31 (by decide) (by decide) rfl rfl h (fun h => ?_) (fun n16 h => ?_)
      · refine mjr_aload_n (x := v2) D_214_112 rfl ?_
        refine mjq_gR D_214_113 fr_11_226 h (fun v17 h => ?_)
        refine mjr_iload_n (x := l1) D_214_116 rfl ?_
        refine mjq_aI D_214_117 h (fun v18 h => ?_)
        exact mjq_ret D_214_118 rfl h1 h2 h
      refine mjq_tsw (c := (3 : Int32)) (tgt := 119) D_214_31 (by decide) (by decide) rfl rfl h (fun h => ?_) (fun n19 h => ?_)
      · refine mjr_aload_n (x := v2) D_214_119 rfl ?_
        refine mjq_gR D_214_120 fr_11_229 h (fun v20 h => ?_)
        refine mjr_iload_n (x := l1) D_214_123 rfl ?_
        refine mjq_aI D_214_124 h (fun v21 h => ?_)
        exact mjq_ret D_214_125 rfl h1 h2 h
      refine mjr_tableOut (tgt := 126) D_214_31 (mj_swout [(0 : Int32), (1 : Int32), (2 : Int32), (3 : Int32)] (by decide) (mj_all1 n6 (mj_all1 n11 (mj_all1 n16 (mj_all1 n19 mj_all0))))) rfl ?_
      refine mjq_ic (v := (-1 : Int32)) D_214_126 rfl ?_
      exact mjq_ret D_214_127 rfl h1 h2 h
    · exact mjG.fg (lo' := [none, none, none, none, none]) True.intro ((t_214_20 hR h1 h2) _ _ h)
noncomputable def f_214 (R : mjR) (a0 : Nat) (a1 : Int32) (a2 : Int32) (hp : mjH) : mjU := b_214_0 R a0 a1 a2 hp
theorem c_214 {R : mjR} {d : Nat} (hR : mjC R d) {a0 : Nat} {a1 : Int32} {a2 : Int32} {hp : mjH} {q : Option Value × mjH} (h : f_214 R a0 a1 a2 hp = some q) : mjM (d + 1) 0 0 214 [.ref a0, .int a1, .int a2] hp (mjEq q) :=
  mjM_of Ja_214 (Nat.le_of_ble_eq_true rfl) (mjG.fg (lo' := [some (.ref a0), some (.int a1), some (.int a2), none, none]) (And.intro rfl (And.intro rfl (And.intro rfl True.intro))) ((t_214_0 hR (Nat.le_refl 0) (Nat.le_refl 0)) a0 a1 a2 hp q h))
def J_215 : mjI := (⟨"OwnerHeap", "variable", "(II)I"⟩, 11, prog_1_method_15_code, 5, (some .int), 2, false)
theorem Ja_215 : mjMt 215 = some J_215 := by rfl
theorem D_215_0 : decode J_215.2.2.1 0 = .ok (.aload_n 0, 1) := dzq_42 (by decide +kernel)
theorem D_215_1 : decode J_215.2.2.1 1 = .ok (.getfield 76, 3) := dzq_180 (by decide +kernel)
theorem D_215_4 : decode J_215.2.2.1 4 = .ok (.getfield 195, 3) := dzq_180 (by decide +kernel)
theorem D_215_7 : decode J_215.2.2.1 7 = .ok (.astore_n 3, 1) := by decide +kernel
theorem D_215_8 : decode J_215.2.2.1 8 = .ok (.iload_n 1, 1) := dzq_27 (by decide +kernel)
theorem D_215_9 : decode J_215.2.2.1 9 = .ok (.ifCond .lt 11, 3) := dzq_155 (by decide +kernel)
theorem D_215_12 : decode J_215.2.2.1 12 = .ok (.iload_n 1, 1) := dzq_27 (by decide +kernel)
theorem D_215_13 : decode J_215.2.2.1 13 = .ok (.aload_n 3, 1) := dzq_45 (by decide +kernel)
theorem D_215_14 : decode J_215.2.2.1 14 = .ok (.getfield 199, 3) := dzq_180 (by decide +kernel)
theorem D_215_17 : decode J_215.2.2.1 17 = .ok (.if_icmp .lt 5, 3) := dzq_161 (by decide +kernel)
theorem D_215_20 : decode J_215.2.2.1 20 = .ok (.iconst 0, 1) := dzq_3 (by decide +kernel)
theorem D_215_21 : decode J_215.2.2.1 21 = .ok (.ireturn, 1) := dzq_172 (by decide +kernel)
theorem D_215_22 : decode J_215.2.2.1 22 = .ok (.iload_n 2, 1) := dzq_28 (by decide +kernel)
theorem D_215_23 : decode J_215.2.2.1 23 = .ok (.ifCond .lt 28, 3) := dzq_155 (by decide +kernel)
theorem D_215_26 : decode J_215.2.2.1 26 = .ok (.iload_n 2, 1) := dzq_28 (by decide +kernel)
theorem D_215_27 : decode J_215.2.2.1 27 = .ok (.aload_n 0, 1) := dzq_42 (by decide +kernel)
theorem D_215_28 : decode J_215.2.2.1 28 = .ok (.getfield 16, 3) := dzq_180 (by decide +kernel)
theorem D_215_31 : decode J_215.2.2.1 31 = .ok (.getfield 216, 3) := dzq_180 (by decide +kernel)
theorem D_215_34 : decode J_215.2.2.1 34 = .ok (.getfield 232, 3) := dzq_180 (by decide +kernel)
theorem D_215_37 : decode J_215.2.2.1 37 = .ok (.aload_n 3, 1) := dzq_45 (by decide +kernel)
theorem D_215_38 : decode J_215.2.2.1 38 = .ok (.getfield 211, 3) := dzq_180 (by decide +kernel)
theorem D_215_41 : decode J_215.2.2.1 41 = .ok (.iload_n 1, 1) := dzq_27 (by decide +kernel)
theorem D_215_42 : decode J_215.2.2.1 42 = .ok (.iaload, 1) := dzq_46 (by decide +kernel)
theorem D_215_43 : decode J_215.2.2.1 43 = .ok (.iaload, 1) := dzq_46 (by decide +kernel)
theorem D_215_44 : decode J_215.2.2.1 44 = .ok (.if_icmp .ge 7, 3) := dzq_162 (by decide +kernel)
theorem D_215_47 : decode J_215.2.2.1 47 = .ok (.iconst 1, 1) := dzq_4 (by decide +kernel)
theorem D_215_48 : decode J_215.2.2.1 48 = .ok (.goto 4, 3) := dzq_167 (by decide +kernel)
theorem D_215_51 : decode J_215.2.2.1 51 = .ok (.iconst 0, 1) := dzq_3 (by decide +kernel)
theorem D_215_52 : decode J_215.2.2.1 52 = .ok (.istore 4, 2) := dzq_54 (by decide +kernel)
theorem D_215_54 : decode J_215.2.2.1 54 = .ok (.iload 4, 2) := dzq_21 (by decide +kernel)
theorem D_215_56 : decode J_215.2.2.1 56 = .ok (.ifCond .eq 12, 3) := dzq_153 (by decide +kernel)
theorem D_215_59 : decode J_215.2.2.1 59 = .ok (.aload_n 3, 1) := dzq_45 (by decide +kernel)
theorem D_215_60 : decode J_215.2.2.1 60 = .ok (.iload_n 1, 1) := dzq_27 (by decide +kernel)
theorem D_215_61 : decode J_215.2.2.1 61 = .ok (.iload_n 2, 1) := dzq_28 (by decide +kernel)
theorem D_215_62 : decode J_215.2.2.1 62 = .ok (.invokevirtual 235, 3) := dzq_182 (by decide +kernel)
theorem D_215_65 : decode J_215.2.2.1 65 = .ok (.goto 4, 3) := dzq_167 (by decide +kernel)
theorem D_215_68 : decode J_215.2.2.1 68 = .ok (.iconst 0, 1) := dzq_3 (by decide +kernel)
theorem D_215_69 : decode J_215.2.2.1 69 = .ok (.ireturn, 1) := dzq_172 (by decide +kernel)
def P_215_20 (X : mjX) (d C S kc ks : Nat) (k : mjH → mjU) : Prop := ∀  (hp : mjH) (q : Option Value × mjH), k  hp = some q → mjG X d C S J_215 (mjEq q) 20 [none, none, none, none, none] [] hp kc ks
def P_215_52 (X : mjX) (d C S kc ks : Nat) (k : Int32 → Int32 → Nat → Int32 → mjH → mjU) : Prop := ∀ (l1 : Int32) (l2 : Int32) (l3 : Nat) (s0 : Int32) (hp : mjH) (q : Option Value × mjH), k l1 l2 l3 s0 hp = some q → mjG X d C S J_215 (mjEq q) 52 [none, some (.int l1), some (.int l2), some (.ref l3), none] [.int s0] hp kc ks
def P_215_51 (X : mjX) (d C S kc ks : Nat) (k : Int32 → Int32 → Nat → mjH → mjU) : Prop := ∀ (l1 : Int32) (l2 : Int32) (l3 : Nat) (hp : mjH) (q : Option Value × mjH), k l1 l2 l3 hp = some q → mjG X d C S J_215 (mjEq q) 51 [none, some (.int l1), some (.int l2), some (.ref l3), none] [] hp kc ks
def P_215_0 (X : mjX) (d C S kc ks : Nat) (k : Nat → Int32 → Int32 → mjH → mjU) : Prop := ∀ (l0 : Nat) (l1 : Int32) (l2 : Int32) (hp : mjH) (q : Option Value × mjH), k l0 l1 l2 hp = some q → mjG X d C S J_215 (mjEq q) 0 [some (.ref l0), some (.int l1), some (.int l2), none, none] [] hp kc ks
noncomputable def b_215_20 (R : mjR)  (hp : mjH) : mjU := some (some (.int (0 : Int32)), hp)
theorem t_215_20 {X : mjX} {d C S kc ks : Nat} {R : mjR} (hR : mjC R d) (h1 : kc ≤ C) (h2 : ks ≤ S) : P_215_20 X (d + 1) C S kc ks (b_215_20 R) := by
  intro  hp q h
  unfold b_215_20 at h
  refine mjq_ic (v := (0 : Int32)) D_215_20 rfl ?_
  exact mjq_ret D_215_21 rfl h1 h2 h
noncomputable def b_215_52 (R : mjR) (l1 : Int32) (l2 : Int32) (l3 : Nat) (s0 : Int32) (hp : mjH) : mjU := (if s0 = 0 then some (some (.int (0 : Int32)), hp) else rV hp l3 2 (bI (R 39 [.ref l3, .int l1, .int l2] hp) (fun v1 hp2 => some (some (.int v1), hp2))))
theorem t_215_52 {X : mjX} {d C S kc ks : Nat} {R : mjR} (hR : mjC R d) (h1 : kc ≤ C) (h2 : ks ≤ S) : P_215_52 X (d + 1) C S kc ks (b_215_52 R) := by
  intro l1 l2 l3 s0 hp q h
  unfold b_215_52 at h
  refine mjq_istore (lo' := [none, some (.int l1), some (.int l2), some (.ref l3), some (.int s0)]) D_215_52 (Nat.le_of_ble_eq_true rfl) rfl ?_
  refine mjr_iload (x := s0) D_215_54 rfl ?_
  refine mjq_if_eq (tgt := 68) D_215_56 rfl h (fun h => ?_) (fun h => ?_)
  · refine mjq_ic (v := (0 : Int32)) D_215_68 rfl ?_
    exact mjq_ret D_215_69 rfl h1 h2 h
  · refine mjr_aload_n (x := l3) D_215_59 rfl ?_
    refine mjr_iload_n (x := l1) D_215_60 rfl ?_
    refine mjr_iload_n (x := l2) D_215_61 rfl ?_
    refine mjq_vI (As := [.int l1, .int l2]) (rest := []) D_215_62 mr_11_235 V_39 rfl rfl rfl hR (Nat.le_refl _) h1 h2 h (fun v1 hp2 h => ?_)
    refine mjr_goto (tgt := 69) D_215_65 rfl ?_
    exact mjq_ret D_215_69 rfl h1 h2 h
noncomputable def b_215_51 (R : mjR) (l1 : Int32) (l2 : Int32) (l3 : Nat) (hp : mjH) : mjU := b_215_52 R l1 l2 l3 (0 : Int32) hp
theorem t_215_51 {X : mjX} {d C S kc ks : Nat} {R : mjR} (hR : mjC R d) (h1 : kc ≤ C) (h2 : ks ≤ S) : P_215_51 X (d + 1) C S kc ks (b_215_51 R) := by
  intro l1 l2 l3 hp q h
  unfold b_215_51 at h
  refine mjq_ic (v := (0 : Int32)) D_215_51 rfl ?_
  exact (t_215_52 hR h1 h2) _ _ _ _ _ _ h
noncomputable def b_215_0 (R : mjR) (l0 : Nat) (l1 : Int32) (l2 : Int32) (hp : mjH) : mjU := gR hp l0 11 12 (fun v1 => gR hp v1 5 1 (fun v2 => (if l1 < 0 then b_215_20 R hp else gI hp v2 2 0 (fun v3 => (if l1 < v3 then (if l2 < 0 then b_215_51 R l1 l2 v2 hp else gR hp l0 11 6 (fun v4 => gR hp v4 7 14 (fun v5 => gR hp v5 6 8 (fun v6 => gR hp v2 2 2 (fun v7 => aI hp v7 l1 (fun v8 => aI hp v6 v8 (fun v9 => (if v9 ≤ l2 then b_215_51 R l1 l2 v2 hp else b_215_52 R l1 l2 v2 (1 : Int32) hp)))))))) else b_215_20 R hp)))))
theorem t_215_0 {X : mjX} {d C S kc ks : Nat} {R : mjR} (hR : mjC R d) (h1 : kc ≤ C) (h2 : ks ≤ S) : P_215_0 X (d + 1) C S kc ks (b_215_0 R) := by
  intro l0 l1 l2 hp q h
  unfold b_215_0 at h
  refine mjr_aload_n (x := l0) D_215_0 rfl ?_
  refine mjq_gR D_215_1 fr_11_76 h (fun v1 h => ?_)
  refine mjq_gR D_215_4 fr_11_195 h (fun v2 h => ?_)
  refine mjq_astore_n (lo' := [some (.ref l0), some (.int l1), some (.int l2), some (.ref v2), none]) D_215_7 (Nat.le_of_ble_eq_true rfl) rfl ?_
  refine mjr_iload_n (x := l1) D_215_8 rfl ?_
  refine mjq_if_lt (tgt := 20) D_215_9 rfl h (fun h => ?_) (fun h => ?_)
  · exact mjG.fg (lo' := [none, none, none, none, none]) True.intro ((t_215_20 hR h1 h2) _ _ h)
  · refine mjr_iload_n (x := l1) D_215_12 rfl ?_
    refine mjr_aload_n (x := v2) D_215_13 rfl ?_
    refine mjq_gI D_215_14 fr_11_199 h (fun v3 h => ?_)
    refine mjq_icmp_lt (tgt := 22) D_215_17 rfl h (fun h => ?_) (fun h => ?_)
    · refine mjr_iload_n (x := l2) D_215_22 rfl ?_
      refine mjq_if_lt (tgt := 51) D_215_23 rfl h (fun h => ?_) (fun h => ?_)
      · exact mjG.fg (lo' := [none, some (.int l1), some (.int l2), some (.ref v2), none]) (And.intro rfl (And.intro rfl (And.intro rfl True.intro))) ((t_215_51 hR h1 h2) _ _ _ _ _ h)
      · refine mjr_iload_n (x := l2) D_215_26 rfl ?_
        refine mjr_aload_n (x := l0) D_215_27 rfl ?_
        refine mjq_gR D_215_28 fr_11_16 h (fun v4 h => ?_)
        refine mjq_gR D_215_31 fr_11_216 h (fun v5 h => ?_)
        refine mjq_gR D_215_34 fr_11_232 h (fun v6 h => ?_)
        refine mjr_aload_n (x := v2) D_215_37 rfl ?_
        refine mjq_gR D_215_38 fr_11_211 h (fun v7 h => ?_)
        refine mjr_iload_n (x := l1) D_215_41 rfl ?_
        refine mjq_aI D_215_42 h (fun v8 h => ?_)
        refine mjq_aI D_215_43 h (fun v9 h => ?_)
        refine mjq_icmp_ge (tgt := 51) D_215_44 rfl h (fun h => ?_) (fun h => ?_)
        · exact mjG.fg (lo' := [none, some (.int l1), some (.int l2), some (.ref v2), none]) (And.intro rfl (And.intro rfl (And.intro rfl True.intro))) ((t_215_51 hR h1 h2) _ _ _ _ _ h)
        · refine mjq_ic (v := (1 : Int32)) D_215_47 rfl ?_
          refine mjr_goto (tgt := 52) D_215_48 rfl ?_
          exact mjG.fg (lo' := [none, some (.int l1), some (.int l2), some (.ref v2), none]) (And.intro rfl (And.intro rfl (And.intro rfl True.intro))) ((t_215_52 hR h1 h2) _ _ _ _ _ _ h)
    · exact mjG.fg (lo' := [none, none, none, none, none]) True.intro ((t_215_20 hR h1 h2) _ _ h)
noncomputable def f_215 (R : mjR) (a0 : Nat) (a1 : Int32) (a2 : Int32) (hp : mjH) : mjU := b_215_0 R a0 a1 a2 hp
theorem c_215 {R : mjR} {d : Nat} (hR : mjC R d) {a0 : Nat} {a1 : Int32} {a2 : Int32} {hp : mjH} {q : Option Value × mjH} (h : f_215 R a0 a1 a2 hp = some q) : mjM (d + 1) 0 0 215 [.ref a0, .int a1, .int a2] hp (mjEq q) :=
  mjM_of Ja_215 (Nat.le_of_ble_eq_true rfl) (mjG.fg (lo' := [some (.ref a0), some (.int a1), some (.int a2), none, none]) (And.intro rfl (And.intro rfl (And.intro rfl True.intro))) ((t_215_0 hR (Nat.le_refl 0) (Nat.le_refl 0)) a0 a1 a2 hp q h))
def J_216 : mjI := (⟨"OwnerHeap", "object", "(II)I"⟩, 11, prog_1_method_16_code, 3, (some .int), 2, false)
theorem Ja_216 : mjMt 216 = some J_216 := by rfl
theorem D_216_0 : decode J_216.2.2.1 0 = .ok (.aload_n 0, 1) := dzq_42 (by decide +kernel)
theorem D_216_1 : decode J_216.2.2.1 1 = .ok (.getfield 67, 3) := dzq_180 (by decide +kernel)
theorem D_216_4 : decode J_216.2.2.1 4 = .ok (.iload_n 1, 1) := dzq_27 (by decide +kernel)
theorem D_216_5 : decode J_216.2.2.1 5 = .ok (.invokevirtual 238, 3) := dzq_182 (by decide +kernel)
theorem D_216_8 : decode J_216.2.2.1 8 = .ok (.ifCond .ne 5, 3) := dzq_154 (by decide +kernel)
theorem D_216_11 : decode J_216.2.2.1 11 = .ok (.iconst (-1), 1) := dzq_2 (by decide +kernel)
theorem D_216_12 : decode J_216.2.2.1 12 = .ok (.ireturn, 1) := dzq_172 (by decide +kernel)
theorem D_216_13 : decode J_216.2.2.1 13 = .ok (.iload_n 2, 1) := dzq_28 (by decide +kernel)
theorem D_216_14 : decode J_216.2.2.1 14 = .ok (.tableswitch 88 0 4 #[34, 43, 53, 62, 79], 34) := by decide +kernel
theorem D_216_48 : decode J_216.2.2.1 48 = .ok (.aload_n 0, 1) := dzq_42 (by decide +kernel)
theorem D_216_49 : decode J_216.2.2.1 49 = .ok (.getfield 67, 3) := dzq_180 (by decide +kernel)
theorem D_216_52 : decode J_216.2.2.1 52 = .ok (.iload_n 1, 1) := dzq_27 (by decide +kernel)
theorem D_216_53 : decode J_216.2.2.1 53 = .ok (.invokevirtual 242, 3) := dzq_182 (by decide +kernel)
theorem D_216_56 : decode J_216.2.2.1 56 = .ok (.ireturn, 1) := dzq_172 (by decide +kernel)
theorem D_216_57 : decode J_216.2.2.1 57 = .ok (.aload_n 0, 1) := dzq_42 (by decide +kernel)
theorem D_216_58 : decode J_216.2.2.1 58 = .ok (.getfield 67, 3) := dzq_180 (by decide +kernel)
theorem D_216_61 : decode J_216.2.2.1 61 = .ok (.iload_n 1, 1) := dzq_27 (by decide +kernel)
theorem D_216_62 : decode J_216.2.2.1 62 = .ok (.iconst 0, 1) := dzq_3 (by decide +kernel)
theorem D_216_63 : decode J_216.2.2.1 63 = .ok (.invokevirtual 245, 3) := dzq_182 (by decide +kernel)
theorem D_216_66 : decode J_216.2.2.1 66 = .ok (.ireturn, 1) := dzq_172 (by decide +kernel)
theorem D_216_67 : decode J_216.2.2.1 67 = .ok (.aload_n 0, 1) := dzq_42 (by decide +kernel)
theorem D_216_68 : decode J_216.2.2.1 68 = .ok (.getfield 67, 3) := dzq_180 (by decide +kernel)
theorem D_216_71 : decode J_216.2.2.1 71 = .ok (.iload_n 1, 1) := dzq_27 (by decide +kernel)
theorem D_216_72 : decode J_216.2.2.1 72 = .ok (.invokevirtual 248, 3) := dzq_182 (by decide +kernel)
theorem D_216_75 : decode J_216.2.2.1 75 = .ok (.ireturn, 1) := dzq_172 (by decide +kernel)
theorem D_216_76 : decode J_216.2.2.1 76 = .ok (.aload_n 0, 1) := dzq_42 (by decide +kernel)
theorem D_216_77 : decode J_216.2.2.1 77 = .ok (.getfield 16, 3) := dzq_180 (by decide +kernel)
theorem D_216_80 : decode J_216.2.2.1 80 = .ok (.getfield 142, 3) := dzq_180 (by decide +kernel)
theorem D_216_83 : decode J_216.2.2.1 83 = .ok (.aload_n 0, 1) := dzq_42 (by decide +kernel)
theorem D_216_84 : decode J_216.2.2.1 84 = .ok (.getfield 67, 3) := dzq_180 (by decide +kernel)
theorem D_216_87 : decode J_216.2.2.1 87 = .ok (.iload_n 1, 1) := dzq_27 (by decide +kernel)
theorem D_216_88 : decode J_216.2.2.1 88 = .ok (.invokevirtual 242, 3) := dzq_182 (by decide +kernel)
theorem D_216_91 : decode J_216.2.2.1 91 = .ok (.iaload, 1) := dzq_46 (by decide +kernel)
theorem D_216_92 : decode J_216.2.2.1 92 = .ok (.ireturn, 1) := dzq_172 (by decide +kernel)
theorem D_216_93 : decode J_216.2.2.1 93 = .ok (.aload_n 0, 1) := dzq_42 (by decide +kernel)
theorem D_216_94 : decode J_216.2.2.1 94 = .ok (.getfield 67, 3) := dzq_180 (by decide +kernel)
theorem D_216_97 : decode J_216.2.2.1 97 = .ok (.iload_n 1, 1) := dzq_27 (by decide +kernel)
theorem D_216_98 : decode J_216.2.2.1 98 = .ok (.invokevirtual 251, 3) := dzq_182 (by decide +kernel)
theorem D_216_101 : decode J_216.2.2.1 101 = .ok (.ireturn, 1) := dzq_172 (by decide +kernel)
theorem D_216_102 : decode J_216.2.2.1 102 = .ok (.iconst (-1), 1) := dzq_2 (by decide +kernel)
theorem D_216_103 : decode J_216.2.2.1 103 = .ok (.ireturn, 1) := dzq_172 (by decide +kernel)
def P_216_0 (X : mjX) (d C S kc ks : Nat) (k : Nat → Int32 → Int32 → mjH → mjU) : Prop := ∀ (l0 : Nat) (l1 : Int32) (l2 : Int32) (hp : mjH) (q : Option Value × mjH), k l0 l1 l2 hp = some q → mjG X d C S J_216 (mjEq q) 0 [some (.ref l0), some (.int l1), some (.int l2)] [] hp kc ks
noncomputable def b_216_0 (R : mjR) (l0 : Nat) (l1 : Int32) (l2 : Int32) (hp : mjH) : mjU := gR hp l0 11 11 (fun v1 => rV hp v1 3 (bI (R 43 [.ref v1, .int l1] hp) (fun v2 hp3 => (if v2 = 0 then some (some (.int (-1 : Int32)), hp3) else (if l2 = (0 : Int32) then gR hp3 l0 11 11 (fun v5 => rV hp3 v5 3 (bI (R 46 [.ref v5, .int l1] hp3) (fun v6 hp7 => some (some (.int v6), hp7)))) else if l2 = (1 : Int32) then gR hp3 l0 11 11 (fun v9 => rV hp3 v9 3 (bI (R 49 [.ref v9, .int l1, .int (0 : Int32)] hp3) (fun v10 hp11 => some (some (.int v10), hp11)))) else if l2 = (2 : Int32) then gR hp3 l0 11 11 (fun v13 => rV hp3 v13 3 (bI (R 48 [.ref v13, .int l1] hp3) (fun v14 hp15 => some (some (.int v14), hp15)))) else if l2 = (3 : Int32) then gR hp3 l0 11 6 (fun v17 => gR hp3 v17 7 8 (fun v18 => gR hp3 l0 11 11 (fun v19 => rV hp3 v19 3 (bI (R 46 [.ref v19, .int l1] hp3) (fun v20 hp21 => aI hp21 v18 v20 (fun v22 => some (some (.int v22), hp21))))))) else if l2 = (4 : Int32) then gR hp3 l0 11 11 (fun v24 => rV hp3 v24 3 (bI (R 51 [.ref v24, .int l1] hp3) (fun v25 hp26 => some (some (.int v25), hp26)))) else some (some (.int (-1 : Int32)), hp3))))))
theorem t_216_0 {X : mjX} {d C S kc ks : Nat} {R : mjR} (hR : mjC R d) (h1 : kc ≤ C) (h2 : ks ≤ S) : P_216_0 X (d + 1) C S kc ks (b_216_0 R) := by
  intro l0 l1 l2 hp q h
  unfold b_216_0 at h
  refine mjr_aload_n (x := l0) D_216_0 rfl ?_
  refine mjq_gR D_216_1 fr_11_67 h (fun v1 h => ?_)
  refine mjr_iload_n (x := l1) D_216_4 rfl ?_
  refine mjq_vI (As := [.int l1]) (rest := []) D_216_5 mr_11_238 V_43 rfl rfl rfl hR (Nat.le_refl _) h1 h2 h (fun v2 hp3 h => ?_)
  refine mjq_if_ne (tgt := 13) D_216_8 rfl h (fun h => ?_) (fun h => ?_)
  · refine mjr_iload_n (x := l2) D_216_13 rfl ?_
    refine mjq_tsw (c := (0 : Int32)) (tgt := 48) D_216_14 (by decide) (by decide) rfl rfl h (fun h => ?_) (fun n4 h => ?_)
    · refine mjr_aload_n (x := l0) D_216_48 rfl ?_
      refine mjq_gR D_216_49 fr_11_67 h (fun v5 h => ?_)
      refine mjr_iload_n (x := l1) D_216_52 rfl ?_
      refine mjq_vI (As := [.int l1]) (rest := []) D_216_53 mr_11_242 V_46 rfl rfl rfl hR (Nat.le_refl _) h1 h2 h (fun v6 hp7 h => ?_)
      exact mjq_ret D_216_56 rfl h1 h2 h
    refine mjq_tsw (c := (1 : Int32)) (tgt := 57) D_216_14 (by decide) (by decide) rfl rfl h (fun h => ?_) (fun n8 h => ?_)
    · refine mjr_aload_n (x := l0) D_216_57 rfl ?_
      refine mjq_gR D_216_58 fr_11_67 h (fun v9 h => ?_)
      refine mjr_iload_n (x := l1) D_216_61 rfl ?_
      refine mjq_ic (v := (0 : Int32)) D_216_62 rfl ?_
      refine mjq_vI (As := [.int l1, .int (0 : Int32)]) (rest := []) D_216_63 mr_11_245 V_49 rfl rfl rfl hR (Nat.le_refl _) h1 h2 h (fun v10 hp11 h => ?_)
      exact mjq_ret D_216_66 rfl h1 h2 h
    refine mjq_tsw (c := (2 : Int32)) (tgt := 67) D_216_14 (by decide) (by decide) rfl rfl h (fun h => ?_) (fun n12 h => ?_)
    · refine mjr_aload_n (x := l0) D_216_67 rfl ?_
      refine mjq_gR D_216_68 fr_11_67 h (fun v13 h => ?_)
      refine mjr_iload_n (x := l1) D_216_71 rfl ?_
      refine mjq_vI (As := [.int l1]) (rest := []) D_216_72 mr_11_248 V_48 rfl rfl rfl hR (Nat.le_refl _) h1 h2 h (fun v14 hp15 h => ?_)
      exact mjq_ret D_216_75 rfl h1 h2 h
    refine mjq_tsw (c := (3 : Int32)) (tgt := 76) D_216_14 (by decide) (by decide) rfl rfl h (fun h => ?_) (fun n16 h => ?_)
    · refine mjr_aload_n (x := l0) D_216_76 rfl ?_
      refine mjq_gR D_216_77 fr_11_16 h (fun v17 h => ?_)
      refine mjq_gR D_216_80 fr_11_142 h (fun v18 h => ?_)
      refine mjr_aload_n (x := l0) D_216_83 rfl ?_
      refine mjq_gR D_216_84 fr_11_67 h (fun v19 h => ?_)
      refine mjr_iload_n (x := l1) D_216_87 rfl ?_
      refine mjq_vI (As := [.int l1]) (rest := [.ref v18]) D_216_88 mr_11_242 V_46 rfl rfl rfl hR (Nat.le_refl _) h1 h2 h (fun v20 hp21 h => ?_)
      refine mjq_aI D_216_91 h (fun v22 h => ?_)
      exact mjq_ret D_216_92 rfl h1 h2 h
    refine mjq_tsw (c := (4 : Int32)) (tgt := 93) D_216_14 (by decide) (by decide) rfl rfl h (fun h => ?_) (fun n23 h => ?_)
    · refine mjr_aload_n (x := l0) D_216_93 rfl ?_
      refine mjq_gR D_216_94 fr_11_67 h (fun v24 h => ?_)
      refine mjr_iload_n (x := l1) D_216_97 rfl ?_
      refine mjq_vI (As := [.int l1]) (rest := []) D_216_98 mr_11_251 V_51 rfl rfl rfl hR (Nat.le_refl _) h1 h2 h (fun v25 hp26 h => ?_)
      exact mjq_ret D_216_101 rfl h1 h2 h
    refine mjr_tableOut (tgt := 102) D_216_14 (mj_swout [(0 : Int32), (1 : Int32), (2 : Int32), (3 : Int32), (4 : Int32)] (by decide) (mj_all1 n4 (mj_all1 n8 (mj_all1 n12 (mj_all1 n16 (mj_all1 n23 mj_all0)))))) rfl ?_
    refine mjq_ic (v := (-1 : Int32)) D_216_102 rfl ?_
    exact mjq_ret D_216_103 rfl h1 h2 h
  · refine mjq_ic (v := (-1 : Int32)) D_216_11 rfl ?_
    exact mjq_ret D_216_12 rfl h1 h2 h
noncomputable def f_216 (R : mjR) (a0 : Nat) (a1 : Int32) (a2 : Int32) (hp : mjH) : mjU := b_216_0 R a0 a1 a2 hp
theorem c_216 {R : mjR} {d : Nat} (hR : mjC R d) {a0 : Nat} {a1 : Int32} {a2 : Int32} {hp : mjH} {q : Option Value × mjH} (h : f_216 R a0 a1 a2 hp = some q) : mjM (d + 1) 0 0 216 [.ref a0, .int a1, .int a2] hp (mjEq q) :=
  mjM_of Ja_216 (Nat.le_of_ble_eq_true rfl) (mjG.fg (lo' := [some (.ref a0), some (.int a1), some (.int a2)]) (And.intro rfl (And.intro rfl (And.intro rfl True.intro))) ((t_216_0 hR (Nat.le_refl 0) (Nat.le_refl 0)) a0 a1 a2 hp q h))
def J_217 : mjI := (⟨"OwnerHeap", "owner", "(II)I"⟩, 11, prog_1_method_17_code, 4, (some .int), 2, false)
theorem Ja_217 : mjMt 217 = some J_217 := by rfl
theorem D_217_0 : decode J_217.2.2.1 0 = .ok (.aload_n 0, 1) := dzq_42 (by decide +kernel)
theorem D_217_1 : decode J_217.2.2.1 1 = .ok (.getfield 67, 3) := dzq_180 (by decide +kernel)
theorem D_217_4 : decode J_217.2.2.1 4 = .ok (.iload_n 1, 1) := dzq_27 (by decide +kernel)
theorem D_217_5 : decode J_217.2.2.1 5 = .ok (.invokevirtual 238, 3) := dzq_182 (by decide +kernel)
theorem D_217_8 : decode J_217.2.2.1 8 = .ok (.ifCond .eq 23, 3) := dzq_153 (by decide +kernel)
theorem D_217_11 : decode J_217.2.2.1 11 = .ok (.iload_n 2, 1) := dzq_28 (by decide +kernel)
theorem D_217_12 : decode J_217.2.2.1 12 = .ok (.ifCond .lt 19, 3) := dzq_155 (by decide +kernel)
theorem D_217_15 : decode J_217.2.2.1 15 = .ok (.iload_n 2, 1) := dzq_28 (by decide +kernel)
theorem D_217_16 : decode J_217.2.2.1 16 = .ok (.aload_n 0, 1) := dzq_42 (by decide +kernel)
theorem D_217_17 : decode J_217.2.2.1 17 = .ok (.getfield 67, 3) := dzq_180 (by decide +kernel)
theorem D_217_20 : decode J_217.2.2.1 20 = .ok (.iload_n 1, 1) := dzq_27 (by decide +kernel)
theorem D_217_21 : decode J_217.2.2.1 21 = .ok (.invokevirtual 248, 3) := dzq_182 (by decide +kernel)
theorem D_217_24 : decode J_217.2.2.1 24 = .ok (.if_icmp .ge 7, 3) := dzq_162 (by decide +kernel)
theorem D_217_27 : decode J_217.2.2.1 27 = .ok (.iconst 1, 1) := dzq_4 (by decide +kernel)
theorem D_217_28 : decode J_217.2.2.1 28 = .ok (.goto 4, 3) := dzq_167 (by decide +kernel)
theorem D_217_31 : decode J_217.2.2.1 31 = .ok (.iconst 0, 1) := dzq_3 (by decide +kernel)
theorem D_217_32 : decode J_217.2.2.1 32 = .ok (.istore_n 3, 1) := dzq_62 (by decide +kernel)
theorem D_217_33 : decode J_217.2.2.1 33 = .ok (.iload_n 3, 1) := dzq_29 (by decide +kernel)
theorem D_217_34 : decode J_217.2.2.1 34 = .ok (.ifCond .eq 15, 3) := dzq_153 (by decide +kernel)
theorem D_217_37 : decode J_217.2.2.1 37 = .ok (.aload_n 0, 1) := dzq_42 (by decide +kernel)
theorem D_217_38 : decode J_217.2.2.1 38 = .ok (.getfield 67, 3) := dzq_180 (by decide +kernel)
theorem D_217_41 : decode J_217.2.2.1 41 = .ok (.iload_n 1, 1) := dzq_27 (by decide +kernel)
theorem D_217_42 : decode J_217.2.2.1 42 = .ok (.iload_n 2, 1) := dzq_28 (by decide +kernel)
theorem D_217_43 : decode J_217.2.2.1 43 = .ok (.invokevirtual 245, 3) := dzq_182 (by decide +kernel)
theorem D_217_46 : decode J_217.2.2.1 46 = .ok (.goto 4, 3) := dzq_167 (by decide +kernel)
theorem D_217_49 : decode J_217.2.2.1 49 = .ok (.iconst (-1), 1) := dzq_2 (by decide +kernel)
theorem D_217_50 : decode J_217.2.2.1 50 = .ok (.ireturn, 1) := dzq_172 (by decide +kernel)
def P_217_32 (X : mjX) (d C S kc ks : Nat) (k : Nat → Int32 → Int32 → Int32 → mjH → mjU) : Prop := ∀ (l0 : Nat) (l1 : Int32) (l2 : Int32) (s0 : Int32) (hp : mjH) (q : Option Value × mjH), k l0 l1 l2 s0 hp = some q → mjG X d C S J_217 (mjEq q) 32 [some (.ref l0), some (.int l1), some (.int l2), none] [.int s0] hp kc ks
def P_217_31 (X : mjX) (d C S kc ks : Nat) (k : Nat → Int32 → Int32 → mjH → mjU) : Prop := ∀ (l0 : Nat) (l1 : Int32) (l2 : Int32) (hp : mjH) (q : Option Value × mjH), k l0 l1 l2 hp = some q → mjG X d C S J_217 (mjEq q) 31 [some (.ref l0), some (.int l1), some (.int l2), none] [] hp kc ks
def P_217_0 (X : mjX) (d C S kc ks : Nat) (k : Nat → Int32 → Int32 → mjH → mjU) : Prop := ∀ (l0 : Nat) (l1 : Int32) (l2 : Int32) (hp : mjH) (q : Option Value × mjH), k l0 l1 l2 hp = some q → mjG X d C S J_217 (mjEq q) 0 [some (.ref l0), some (.int l1), some (.int l2), none] [] hp kc ks
noncomputable def b_217_32 (R : mjR) (l0 : Nat) (l1 : Int32) (l2 : Int32) (s0 : Int32) (hp : mjH) : mjU := (if s0 = 0 then some (some (.int (-1 : Int32)), hp) else gR hp l0 11 11 (fun v1 => rV hp v1 3 (bI (R 49 [.ref v1, .int l1, .int l2] hp) (fun v2 hp3 => some (some (.int v2), hp3)))))
theorem t_217_32 {X : mjX} {d C S kc ks : Nat} {R : mjR} (hR : mjC R d) (h1 : kc ≤ C) (h2 : ks ≤ S) : P_217_32 X (d + 1) C S kc ks (b_217_32 R) := by
  intro l0 l1 l2 s0 hp q h
  unfold b_217_32 at h
  refine mjq_istore_n (lo' := [some (.ref l0), some (.int l1), some (.int l2), some (.int s0)]) D_217_32 (Nat.le_of_ble_eq_true rfl) rfl ?_
  refine mjr_iload_n (x := s0) D_217_33 rfl ?_
  refine mjq_if_eq (tgt := 49) D_217_34 rfl h (fun h => ?_) (fun h => ?_)
  · refine mjq_ic (v := (-1 : Int32)) D_217_49 rfl ?_
    exact mjq_ret D_217_50 rfl h1 h2 h
  · refine mjr_aload_n (x := l0) D_217_37 rfl ?_
    refine mjq_gR D_217_38 fr_11_67 h (fun v1 h => ?_)
    refine mjr_iload_n (x := l1) D_217_41 rfl ?_
    refine mjr_iload_n (x := l2) D_217_42 rfl ?_
    refine mjq_vI (As := [.int l1, .int l2]) (rest := []) D_217_43 mr_11_245 V_49 rfl rfl rfl hR (Nat.le_refl _) h1 h2 h (fun v2 hp3 h => ?_)
    refine mjr_goto (tgt := 50) D_217_46 rfl ?_
    exact mjq_ret D_217_50 rfl h1 h2 h
noncomputable def b_217_31 (R : mjR) (l0 : Nat) (l1 : Int32) (l2 : Int32) (hp : mjH) : mjU := b_217_32 R l0 l1 l2 (0 : Int32) hp
theorem t_217_31 {X : mjX} {d C S kc ks : Nat} {R : mjR} (hR : mjC R d) (h1 : kc ≤ C) (h2 : ks ≤ S) : P_217_31 X (d + 1) C S kc ks (b_217_31 R) := by
  intro l0 l1 l2 hp q h
  unfold b_217_31 at h
  refine mjq_ic (v := (0 : Int32)) D_217_31 rfl ?_
  exact (t_217_32 hR h1 h2) _ _ _ _ _ _ h
noncomputable def b_217_0 (R : mjR) (l0 : Nat) (l1 : Int32) (l2 : Int32) (hp : mjH) : mjU := gR hp l0 11 11 (fun v1 => rV hp v1 3 (bI (R 43 [.ref v1, .int l1] hp) (fun v2 hp3 => (if v2 = 0 then b_217_31 R l0 l1 l2 hp3 else (if l2 < 0 then b_217_31 R l0 l1 l2 hp3 else gR hp3 l0 11 11 (fun v4 => rV hp3 v4 3 (bI (R 48 [.ref v4, .int l1] hp3) (fun v5 hp6 => (if v5 ≤ l2 then b_217_31 R l0 l1 l2 hp6 else b_217_32 R l0 l1 l2 (1 : Int32) hp6)))))))))
theorem t_217_0 {X : mjX} {d C S kc ks : Nat} {R : mjR} (hR : mjC R d) (h1 : kc ≤ C) (h2 : ks ≤ S) : P_217_0 X (d + 1) C S kc ks (b_217_0 R) := by
  intro l0 l1 l2 hp q h
  unfold b_217_0 at h
  refine mjr_aload_n (x := l0) D_217_0 rfl ?_
  refine mjq_gR D_217_1 fr_11_67 h (fun v1 h => ?_)
  refine mjr_iload_n (x := l1) D_217_4 rfl ?_
  refine mjq_vI (As := [.int l1]) (rest := []) D_217_5 mr_11_238 V_43 rfl rfl rfl hR (Nat.le_refl _) h1 h2 h (fun v2 hp3 h => ?_)
  refine mjq_if_eq (tgt := 31) D_217_8 rfl h (fun h => ?_) (fun h => ?_)
  · exact (t_217_31 hR h1 h2) _ _ _ _ _ h
  · refine mjr_iload_n (x := l2) D_217_11 rfl ?_
    refine mjq_if_lt (tgt := 31) D_217_12 rfl h (fun h => ?_) (fun h => ?_)
    · exact (t_217_31 hR h1 h2) _ _ _ _ _ h
    · refine mjr_iload_n (x := l2) D_217_15 rfl ?_
      refine mjr_aload_n (x := l0) D_217_16 rfl ?_
      refine mjq_gR D_217_17 fr_11_67 h (fun v4 h => ?_)
      refine mjr_iload_n (x := l1) D_217_20 rfl ?_
      refine mjq_vI (As := [.int l1]) (rest := [.int l2]) D_217_21 mr_11_248 V_48 rfl rfl rfl hR (Nat.le_refl _) h1 h2 h (fun v5 hp6 h => ?_)
      refine mjq_icmp_ge (tgt := 31) D_217_24 rfl h (fun h => ?_) (fun h => ?_)
      · exact (t_217_31 hR h1 h2) _ _ _ _ _ h
      · refine mjq_ic (v := (1 : Int32)) D_217_27 rfl ?_
        refine mjr_goto (tgt := 32) D_217_28 rfl ?_
        exact (t_217_32 hR h1 h2) _ _ _ _ _ _ h
noncomputable def f_217 (R : mjR) (a0 : Nat) (a1 : Int32) (a2 : Int32) (hp : mjH) : mjU := b_217_0 R a0 a1 a2 hp
theorem c_217 {R : mjR} {d : Nat} (hR : mjC R d) {a0 : Nat} {a1 : Int32} {a2 : Int32} {hp : mjH} {q : Option Value × mjH} (h : f_217 R a0 a1 a2 hp = some q) : mjM (d + 1) 0 0 217 [.ref a0, .int a1, .int a2] hp (mjEq q) :=
  mjM_of Ja_217 (Nat.le_of_ble_eq_true rfl) (mjG.fg (lo' := [some (.ref a0), some (.int a1), some (.int a2), none]) (And.intro rfl (And.intro rfl (And.intro rfl True.intro))) ((t_217_0 hR (Nat.le_refl 0) (Nat.le_refl 0)) a0 a1 a2 hp q h))
def J_218 : mjI := (⟨"OwnerHeap", "field", "(II)I"⟩, 11, prog_1_method_18_code, 4, (some .int), 2, false)
theorem Ja_218 : mjMt 218 = some J_218 := by rfl
theorem D_218_0 : decode J_218.2.2.1 0 = .ok (.aload_n 0, 1) := dzq_42 (by decide +kernel)
theorem D_218_1 : decode J_218.2.2.1 1 = .ok (.getfield 67, 3) := dzq_180 (by decide +kernel)
theorem D_218_4 : decode J_218.2.2.1 4 = .ok (.iload_n 1, 1) := dzq_27 (by decide +kernel)
theorem D_218_5 : decode J_218.2.2.1 5 = .ok (.invokevirtual 238, 3) := dzq_182 (by decide +kernel)
theorem D_218_8 : decode J_218.2.2.1 8 = .ok (.ifCond .eq 31, 3) := dzq_153 (by decide +kernel)
theorem D_218_11 : decode J_218.2.2.1 11 = .ok (.iload_n 2, 1) := dzq_28 (by decide +kernel)
theorem D_218_12 : decode J_218.2.2.1 12 = .ok (.ifCond .lt 27, 3) := dzq_155 (by decide +kernel)
theorem D_218_15 : decode J_218.2.2.1 15 = .ok (.iload_n 2, 1) := dzq_28 (by decide +kernel)
theorem D_218_16 : decode J_218.2.2.1 16 = .ok (.aload_n 0, 1) := dzq_42 (by decide +kernel)
theorem D_218_17 : decode J_218.2.2.1 17 = .ok (.getfield 16, 3) := dzq_180 (by decide +kernel)
theorem D_218_20 : decode J_218.2.2.1 20 = .ok (.getfield 142, 3) := dzq_180 (by decide +kernel)
theorem D_218_23 : decode J_218.2.2.1 23 = .ok (.aload_n 0, 1) := dzq_42 (by decide +kernel)
theorem D_218_24 : decode J_218.2.2.1 24 = .ok (.getfield 67, 3) := dzq_180 (by decide +kernel)
theorem D_218_27 : decode J_218.2.2.1 27 = .ok (.iload_n 1, 1) := dzq_27 (by decide +kernel)
theorem D_218_28 : decode J_218.2.2.1 28 = .ok (.invokevirtual 242, 3) := dzq_182 (by decide +kernel)
theorem D_218_31 : decode J_218.2.2.1 31 = .ok (.iaload, 1) := dzq_46 (by decide +kernel)
theorem D_218_32 : decode J_218.2.2.1 32 = .ok (.if_icmp .ge 7, 3) := dzq_162 (by decide +kernel)
theorem D_218_35 : decode J_218.2.2.1 35 = .ok (.iconst 1, 1) := dzq_4 (by decide +kernel)
theorem D_218_36 : decode J_218.2.2.1 36 = .ok (.goto 4, 3) := dzq_167 (by decide +kernel)
theorem D_218_39 : decode J_218.2.2.1 39 = .ok (.iconst 0, 1) := dzq_3 (by decide +kernel)
theorem D_218_40 : decode J_218.2.2.1 40 = .ok (.istore_n 3, 1) := dzq_62 (by decide +kernel)
theorem D_218_41 : decode J_218.2.2.1 41 = .ok (.iload_n 3, 1) := dzq_29 (by decide +kernel)
theorem D_218_42 : decode J_218.2.2.1 42 = .ok (.ifCond .eq 15, 3) := dzq_153 (by decide +kernel)
theorem D_218_45 : decode J_218.2.2.1 45 = .ok (.aload_n 0, 1) := dzq_42 (by decide +kernel)
theorem D_218_46 : decode J_218.2.2.1 46 = .ok (.getfield 67, 3) := dzq_180 (by decide +kernel)
theorem D_218_49 : decode J_218.2.2.1 49 = .ok (.iload_n 1, 1) := dzq_27 (by decide +kernel)
theorem D_218_50 : decode J_218.2.2.1 50 = .ok (.iload_n 2, 1) := dzq_28 (by decide +kernel)
theorem D_218_51 : decode J_218.2.2.1 51 = .ok (.invokevirtual 254, 3) := dzq_182 (by decide +kernel)
theorem D_218_54 : decode J_218.2.2.1 54 = .ok (.goto 4, 3) := dzq_167 (by decide +kernel)
theorem D_218_57 : decode J_218.2.2.1 57 = .ok (.iconst 0, 1) := dzq_3 (by decide +kernel)
theorem D_218_58 : decode J_218.2.2.1 58 = .ok (.ireturn, 1) := dzq_172 (by decide +kernel)
def P_218_40 (X : mjX) (d C S kc ks : Nat) (k : Nat → Int32 → Int32 → Int32 → mjH → mjU) : Prop := ∀ (l0 : Nat) (l1 : Int32) (l2 : Int32) (s0 : Int32) (hp : mjH) (q : Option Value × mjH), k l0 l1 l2 s0 hp = some q → mjG X d C S J_218 (mjEq q) 40 [some (.ref l0), some (.int l1), some (.int l2), none] [.int s0] hp kc ks
def P_218_39 (X : mjX) (d C S kc ks : Nat) (k : Nat → Int32 → Int32 → mjH → mjU) : Prop := ∀ (l0 : Nat) (l1 : Int32) (l2 : Int32) (hp : mjH) (q : Option Value × mjH), k l0 l1 l2 hp = some q → mjG X d C S J_218 (mjEq q) 39 [some (.ref l0), some (.int l1), some (.int l2), none] [] hp kc ks
def P_218_0 (X : mjX) (d C S kc ks : Nat) (k : Nat → Int32 → Int32 → mjH → mjU) : Prop := ∀ (l0 : Nat) (l1 : Int32) (l2 : Int32) (hp : mjH) (q : Option Value × mjH), k l0 l1 l2 hp = some q → mjG X d C S J_218 (mjEq q) 0 [some (.ref l0), some (.int l1), some (.int l2), none] [] hp kc ks
noncomputable def b_218_40 (R : mjR) (l0 : Nat) (l1 : Int32) (l2 : Int32) (s0 : Int32) (hp : mjH) : mjU := (if s0 = 0 then some (some (.int (0 : Int32)), hp) else gR hp l0 11 11 (fun v1 => rV hp v1 3 (bI (R 45 [.ref v1, .int l1, .int l2] hp) (fun v2 hp3 => some (some (.int v2), hp3)))))
theorem t_218_40 {X : mjX} {d C S kc ks : Nat} {R : mjR} (hR : mjC R d) (h1 : kc ≤ C) (h2 : ks ≤ S) : P_218_40 X (d + 1) C S kc ks (b_218_40 R) := by
  intro l0 l1 l2 s0 hp q h
  unfold b_218_40 at h
  refine mjq_istore_n (lo' := [some (.ref l0), some (.int l1), some (.int l2), some (.int s0)]) D_218_40 (Nat.le_of_ble_eq_true rfl) rfl ?_
  refine mjr_iload_n (x := s0) D_218_41 rfl ?_
  refine mjq_if_eq (tgt := 57) D_218_42 rfl h (fun h => ?_) (fun h => ?_)
  · refine mjq_ic (v := (0 : Int32)) D_218_57 rfl ?_
    exact mjq_ret D_218_58 rfl h1 h2 h
  · refine mjr_aload_n (x := l0) D_218_45 rfl ?_
    refine mjq_gR D_218_46 fr_11_67 h (fun v1 h => ?_)
    refine mjr_iload_n (x := l1) D_218_49 rfl ?_
    refine mjr_iload_n (x := l2) D_218_50 rfl ?_
    refine mjq_vI (As := [.int l1, .int l2]) (rest := []) D_218_51 mr_11_254 V_45 rfl rfl rfl hR (Nat.le_refl _) h1 h2 h (fun v2 hp3 h => ?_)
    refine mjr_goto (tgt := 58) D_218_54 rfl ?_
    exact mjq_ret D_218_58 rfl h1 h2 h
noncomputable def b_218_39 (R : mjR) (l0 : Nat) (l1 : Int32) (l2 : Int32) (hp : mjH) : mjU := b_218_40 R l0 l1 l2 (0 : Int32) hp
theorem t_218_39 {X : mjX} {d C S kc ks : Nat} {R : mjR} (hR : mjC R d) (h1 : kc ≤ C) (h2 : ks ≤ S) : P_218_39 X (d + 1) C S kc ks (b_218_39 R) := by
  intro l0 l1 l2 hp q h
  unfold b_218_39 at h
  refine mjq_ic (v := (0 : Int32)) D_218_39 rfl ?_
  exact (t_218_40 hR h1 h2) _ _ _ _ _ _ h
noncomputable def b_218_0 (R : mjR) (l0 : Nat) (l1 : Int32) (l2 : Int32) (hp : mjH) : mjU := gR hp l0 11 11 (fun v1 => rV hp v1 3 (bI (R 43 [.ref v1, .int l1] hp) (fun v2 hp3 => (if v2 = 0 then b_218_39 R l0 l1 l2 hp3 else (if l2 < 0 then b_218_39 R l0 l1 l2 hp3 else gR hp3 l0 11 6 (fun v4 => gR hp3 v4 7 8 (fun v5 => gR hp3 l0 11 11 (fun v6 => rV hp3 v6 3 (bI (R 46 [.ref v6, .int l1] hp3) (fun v7 hp8 => aI hp8 v5 v7 (fun v9 => (if v9 ≤ l2 then b_218_39 R l0 l1 l2 hp8 else b_218_40 R l0 l1 l2 (1 : Int32) hp8))))))))))))
theorem t_218_0 {X : mjX} {d C S kc ks : Nat} {R : mjR} (hR : mjC R d) (h1 : kc ≤ C) (h2 : ks ≤ S) : P_218_0 X (d + 1) C S kc ks (b_218_0 R) := by
  intro l0 l1 l2 hp q h
  unfold b_218_0 at h
  refine mjr_aload_n (x := l0) D_218_0 rfl ?_
  refine mjq_gR D_218_1 fr_11_67 h (fun v1 h => ?_)
  refine mjr_iload_n (x := l1) D_218_4 rfl ?_
  refine mjq_vI (As := [.int l1]) (rest := []) D_218_5 mr_11_238 V_43 rfl rfl rfl hR (Nat.le_refl _) h1 h2 h (fun v2 hp3 h => ?_)
  refine mjq_if_eq (tgt := 39) D_218_8 rfl h (fun h => ?_) (fun h => ?_)
  · exact (t_218_39 hR h1 h2) _ _ _ _ _ h
  · refine mjr_iload_n (x := l2) D_218_11 rfl ?_
    refine mjq_if_lt (tgt := 39) D_218_12 rfl h (fun h => ?_) (fun h => ?_)
    · exact (t_218_39 hR h1 h2) _ _ _ _ _ h
    · refine mjr_iload_n (x := l2) D_218_15 rfl ?_
      refine mjr_aload_n (x := l0) D_218_16 rfl ?_
      refine mjq_gR D_218_17 fr_11_16 h (fun v4 h => ?_)
      refine mjq_gR D_218_20 fr_11_142 h (fun v5 h => ?_)
      refine mjr_aload_n (x := l0) D_218_23 rfl ?_
      refine mjq_gR D_218_24 fr_11_67 h (fun v6 h => ?_)
      refine mjr_iload_n (x := l1) D_218_27 rfl ?_
      refine mjq_vI (As := [.int l1]) (rest := [.ref v5, .int l2]) D_218_28 mr_11_242 V_46 rfl rfl rfl hR (Nat.le_refl _) h1 h2 h (fun v7 hp8 h => ?_)
      refine mjq_aI D_218_31 h (fun v9 h => ?_)
      refine mjq_icmp_ge (tgt := 39) D_218_32 rfl h (fun h => ?_) (fun h => ?_)
      · exact (t_218_39 hR h1 h2) _ _ _ _ _ h
      · refine mjq_ic (v := (1 : Int32)) D_218_35 rfl ?_
        refine mjr_goto (tgt := 40) D_218_36 rfl ?_
        exact (t_218_40 hR h1 h2) _ _ _ _ _ _ h
noncomputable def f_218 (R : mjR) (a0 : Nat) (a1 : Int32) (a2 : Int32) (hp : mjH) : mjU := b_218_0 R a0 a1 a2 hp
theorem c_218 {R : mjR} {d : Nat} (hR : mjC R d) {a0 : Nat} {a1 : Int32} {a2 : Int32} {hp : mjH} {q : Option Value × mjH} (h : f_218 R a0 a1 a2 hp = some q) : mjM (d + 1) 0 0 218 [.ref a0, .int a1, .int a2] hp (mjEq q) :=
  mjM_of Ja_218 (Nat.le_of_ble_eq_true rfl) (mjG.fg (lo' := [some (.ref a0), some (.int a1), some (.int a2), none]) (And.intro rfl (And.intro rfl (And.intro rfl True.intro))) ((t_218_0 hR (Nat.le_refl 0) (Nat.le_refl 0)) a0 a1 a2 hp q h))
def J_219 : mjI := (⟨"OwnerHeap", "isInside", "(II)Z"⟩, 11, prog_1_method_19_code, 3, (some .boolean), 2, false)
theorem Ja_219 : mjMt 219 = some J_219 := by rfl
theorem D_219_0 : decode J_219.2.2.1 0 = .ok (.aload_n 0, 1) := dzq_42 (by decide +kernel)
theorem D_219_1 : decode J_219.2.2.1 1 = .ok (.getfield 67, 3) := dzq_180 (by decide +kernel)
theorem D_219_4 : decode J_219.2.2.1 4 = .ok (.iload_n 1, 1) := dzq_27 (by decide +kernel)
theorem D_219_5 : decode J_219.2.2.1 5 = .ok (.invokevirtual 238, 3) := dzq_182 (by decide +kernel)
theorem D_219_8 : decode J_219.2.2.1 8 = .ok (.ifCond .eq 34, 3) := dzq_153 (by decide +kernel)
theorem D_219_11 : decode J_219.2.2.1 11 = .ok (.iload_n 2, 1) := dzq_28 (by decide +kernel)
theorem D_219_12 : decode J_219.2.2.1 12 = .ok (.ifCond .eq 14, 3) := dzq_153 (by decide +kernel)
theorem D_219_15 : decode J_219.2.2.1 15 = .ok (.aload_n 0, 1) := dzq_42 (by decide +kernel)
theorem D_219_16 : decode J_219.2.2.1 16 = .ok (.getfield 67, 3) := dzq_180 (by decide +kernel)
theorem D_219_19 : decode J_219.2.2.1 19 = .ok (.iload_n 2, 1) := dzq_28 (by decide +kernel)
theorem D_219_20 : decode J_219.2.2.1 20 = .ok (.invokevirtual 238, 3) := dzq_182 (by decide +kernel)
theorem D_219_23 : decode J_219.2.2.1 23 = .ok (.ifCond .eq 19, 3) := dzq_153 (by decide +kernel)
theorem D_219_26 : decode J_219.2.2.1 26 = .ok (.aload_n 0, 1) := dzq_42 (by decide +kernel)
theorem D_219_27 : decode J_219.2.2.1 27 = .ok (.getfield 67, 3) := dzq_180 (by decide +kernel)
theorem D_219_30 : decode J_219.2.2.1 30 = .ok (.iload_n 1, 1) := dzq_27 (by decide +kernel)
theorem D_219_31 : decode J_219.2.2.1 31 = .ok (.iload_n 2, 1) := dzq_28 (by decide +kernel)
theorem D_219_32 : decode J_219.2.2.1 32 = .ok (.invokevirtual 257, 3) := dzq_182 (by decide +kernel)
theorem D_219_35 : decode J_219.2.2.1 35 = .ok (.ifCond .eq 7, 3) := dzq_153 (by decide +kernel)
theorem D_219_38 : decode J_219.2.2.1 38 = .ok (.iconst 1, 1) := dzq_4 (by decide +kernel)
theorem D_219_39 : decode J_219.2.2.1 39 = .ok (.goto 4, 3) := dzq_167 (by decide +kernel)
theorem D_219_42 : decode J_219.2.2.1 42 = .ok (.iconst 0, 1) := dzq_3 (by decide +kernel)
theorem D_219_43 : decode J_219.2.2.1 43 = .ok (.ireturn, 1) := dzq_172 (by decide +kernel)
def P_219_42 (X : mjX) (d C S kc ks : Nat) (k : mjH → mjU) : Prop := ∀  (hp : mjH) (q : Option Value × mjH), k  hp = some q → mjG X d C S J_219 (mjEq q) 42 [none, none, none] [] hp kc ks
def P_219_26 (X : mjX) (d C S kc ks : Nat) (k : Nat → Int32 → Int32 → mjH → mjU) : Prop := ∀ (l0 : Nat) (l1 : Int32) (l2 : Int32) (hp : mjH) (q : Option Value × mjH), k l0 l1 l2 hp = some q → mjG X d C S J_219 (mjEq q) 26 [some (.ref l0), some (.int l1), some (.int l2)] [] hp kc ks
def P_219_0 (X : mjX) (d C S kc ks : Nat) (k : Nat → Int32 → Int32 → mjH → mjU) : Prop := ∀ (l0 : Nat) (l1 : Int32) (l2 : Int32) (hp : mjH) (q : Option Value × mjH), k l0 l1 l2 hp = some q → mjG X d C S J_219 (mjEq q) 0 [some (.ref l0), some (.int l1), some (.int l2)] [] hp kc ks
noncomputable def b_219_42 (R : mjR)  (hp : mjH) : mjU := some (some (.int (0 : Int32)), hp)
theorem t_219_42 {X : mjX} {d C S kc ks : Nat} {R : mjR} (hR : mjC R d) (h1 : kc ≤ C) (h2 : ks ≤ S) : P_219_42 X (d + 1) C S kc ks (b_219_42 R) := by
  intro  hp q h
  unfold b_219_42 at h
  refine mjq_ic (v := (0 : Int32)) D_219_42 rfl ?_
  exact mjr_ireturn D_219_43 rfl rfl h1 h2 (Option.some.inj h)
noncomputable def b_219_26 (R : mjR) (l0 : Nat) (l1 : Int32) (l2 : Int32) (hp : mjH) : mjU := gR hp l0 11 11 (fun v1 => rV hp v1 3 (bI (R 52 [.ref v1, .int l1, .int l2] hp) (fun v2 hp3 => (if v2 = 0 then b_219_42 R hp3 else some (some (.int (1 : Int32)), hp3)))))
theorem t_219_26 {X : mjX} {d C S kc ks : Nat} {R : mjR} (hR : mjC R d) (h1 : kc ≤ C) (h2 : ks ≤ S) : P_219_26 X (d + 1) C S kc ks (b_219_26 R) := by
  intro l0 l1 l2 hp q h
  unfold b_219_26 at h
  refine mjr_aload_n (x := l0) D_219_26 rfl ?_
  refine mjq_gR D_219_27 fr_11_67 h (fun v1 h => ?_)
  refine mjr_iload_n (x := l1) D_219_30 rfl ?_
  refine mjr_iload_n (x := l2) D_219_31 rfl ?_
  refine mjq_vI (As := [.int l1, .int l2]) (rest := []) D_219_32 mr_11_257 V_52 rfl rfl rfl hR (Nat.le_refl _) h1 h2 h (fun v2 hp3 h => ?_)
  refine mjq_if_eq (tgt := 42) D_219_35 rfl h (fun h => ?_) (fun h => ?_)
  · exact mjG.fg (lo' := [none, none, none]) True.intro ((t_219_42 hR h1 h2) _ _ h)
  · refine mjq_ic (v := (1 : Int32)) D_219_38 rfl ?_
    refine mjr_goto (tgt := 43) D_219_39 rfl ?_
    exact mjr_ireturn D_219_43 rfl rfl h1 h2 (Option.some.inj h)
noncomputable def b_219_0 (R : mjR) (l0 : Nat) (l1 : Int32) (l2 : Int32) (hp : mjH) : mjU := gR hp l0 11 11 (fun v1 => rV hp v1 3 (bI (R 43 [.ref v1, .int l1] hp) (fun v2 hp3 => (if v2 = 0 then b_219_42 R hp3 else (if l2 = 0 then b_219_26 R l0 l1 l2 hp3 else gR hp3 l0 11 11 (fun v4 => rV hp3 v4 3 (bI (R 43 [.ref v4, .int l2] hp3) (fun v5 hp6 => (if v5 = 0 then b_219_42 R hp6 else b_219_26 R l0 l1 l2 hp6)))))))))
theorem t_219_0 {X : mjX} {d C S kc ks : Nat} {R : mjR} (hR : mjC R d) (h1 : kc ≤ C) (h2 : ks ≤ S) : P_219_0 X (d + 1) C S kc ks (b_219_0 R) := by
  intro l0 l1 l2 hp q h
  unfold b_219_0 at h
  refine mjr_aload_n (x := l0) D_219_0 rfl ?_
  refine mjq_gR D_219_1 fr_11_67 h (fun v1 h => ?_)
  refine mjr_iload_n (x := l1) D_219_4 rfl ?_
  refine mjq_vI (As := [.int l1]) (rest := []) D_219_5 mr_11_238 V_43 rfl rfl rfl hR (Nat.le_refl _) h1 h2 h (fun v2 hp3 h => ?_)
  refine mjq_if_eq (tgt := 42) D_219_8 rfl h (fun h => ?_) (fun h => ?_)
  · exact mjG.fg (lo' := [none, none, none]) True.intro ((t_219_42 hR h1 h2) _ _ h)
  · refine mjr_iload_n (x := l2) D_219_11 rfl ?_
    refine mjq_if_eq (tgt := 26) D_219_12 rfl h (fun h => ?_) (fun h => ?_)
    · exact (t_219_26 hR h1 h2) _ _ _ _ _ h
    · refine mjr_aload_n (x := l0) D_219_15 rfl ?_
      refine mjq_gR D_219_16 fr_11_67 h (fun v4 h => ?_)
      refine mjr_iload_n (x := l2) D_219_19 rfl ?_
      refine mjq_vI (As := [.int l2]) (rest := []) D_219_20 mr_11_238 V_43 rfl rfl rfl hR (Nat.le_refl _) h1 h2 h (fun v5 hp6 h => ?_)
      refine mjq_if_eq (tgt := 42) D_219_23 rfl h (fun h => ?_) (fun h => ?_)
      · exact mjG.fg (lo' := [none, none, none]) True.intro ((t_219_42 hR h1 h2) _ _ h)
      · exact (t_219_26 hR h1 h2) _ _ _ _ _ h
noncomputable def f_219 (R : mjR) (a0 : Nat) (a1 : Int32) (a2 : Int32) (hp : mjH) : mjU := b_219_0 R a0 a1 a2 hp
theorem c_219 {R : mjR} {d : Nat} (hR : mjC R d) {a0 : Nat} {a1 : Int32} {a2 : Int32} {hp : mjH} {q : Option Value × mjH} (h : f_219 R a0 a1 a2 hp = some q) : mjM (d + 1) 0 0 219 [.ref a0, .int a1, .int a2] hp (mjEq q) :=
  mjM_of Ja_219 (Nat.le_of_ble_eq_true rfl) (mjG.fg (lo' := [some (.ref a0), some (.int a1), some (.int a2)]) (And.intro rfl (And.intro rfl (And.intro rfl True.intro))) ((t_219_0 hR (Nat.le_refl 0) (Nat.le_refl 0)) a0 a1 a2 hp q h))
def J_220 : mjI := (⟨"OwnerHeap", "way", "(II)I"⟩, 11, prog_1_method_20_code, 3, (some .int), 2, false)
theorem Ja_220 : mjMt 220 = some J_220 := by rfl
theorem D_220_0 : decode J_220.2.2.1 0 = .ok (.aload_n 0, 1) := dzq_42 (by decide +kernel)
theorem D_220_1 : decode J_220.2.2.1 1 = .ok (.getfield 67, 3) := dzq_180 (by decide +kernel)
theorem D_220_4 : decode J_220.2.2.1 4 = .ok (.iload_n 1, 1) := dzq_27 (by decide +kernel)
theorem D_220_5 : decode J_220.2.2.1 5 = .ok (.invokevirtual 238, 3) := dzq_182 (by decide +kernel)
theorem D_220_8 : decode J_220.2.2.1 8 = .ok (.ifCond .eq 26, 3) := dzq_153 (by decide +kernel)
theorem D_220_11 : decode J_220.2.2.1 11 = .ok (.aload_n 0, 1) := dzq_42 (by decide +kernel)
theorem D_220_12 : decode J_220.2.2.1 12 = .ok (.getfield 67, 3) := dzq_180 (by decide +kernel)
theorem D_220_15 : decode J_220.2.2.1 15 = .ok (.iload_n 2, 1) := dzq_28 (by decide +kernel)
theorem D_220_16 : decode J_220.2.2.1 16 = .ok (.invokevirtual 238, 3) := dzq_182 (by decide +kernel)
theorem D_220_19 : decode J_220.2.2.1 19 = .ok (.ifCond .eq 15, 3) := dzq_153 (by decide +kernel)
theorem D_220_22 : decode J_220.2.2.1 22 = .ok (.aload_n 0, 1) := dzq_42 (by decide +kernel)
theorem D_220_23 : decode J_220.2.2.1 23 = .ok (.getfield 83, 3) := dzq_180 (by decide +kernel)
theorem D_220_26 : decode J_220.2.2.1 26 = .ok (.iload_n 1, 1) := dzq_27 (by decide +kernel)
theorem D_220_27 : decode J_220.2.2.1 27 = .ok (.iload_n 2, 1) := dzq_28 (by decide +kernel)
theorem D_220_28 : decode J_220.2.2.1 28 = .ok (.invokevirtual 261, 3) := dzq_182 (by decide +kernel)
theorem D_220_31 : decode J_220.2.2.1 31 = .ok (.goto 4, 3) := dzq_167 (by decide +kernel)
theorem D_220_34 : decode J_220.2.2.1 34 = .ok (.iconst (-1), 1) := dzq_2 (by decide +kernel)
theorem D_220_35 : decode J_220.2.2.1 35 = .ok (.ireturn, 1) := dzq_172 (by decide +kernel)
def P_220_34 (X : mjX) (d C S kc ks : Nat) (k : mjH → mjU) : Prop := ∀  (hp : mjH) (q : Option Value × mjH), k  hp = some q → mjG X d C S J_220 (mjEq q) 34 [none, none, none] [] hp kc ks
def P_220_0 (X : mjX) (d C S kc ks : Nat) (k : Nat → Int32 → Int32 → mjH → mjU) : Prop := ∀ (l0 : Nat) (l1 : Int32) (l2 : Int32) (hp : mjH) (q : Option Value × mjH), k l0 l1 l2 hp = some q → mjG X d C S J_220 (mjEq q) 0 [some (.ref l0), some (.int l1), some (.int l2)] [] hp kc ks
noncomputable def b_220_34 (R : mjR)  (hp : mjH) : mjU := some (some (.int (-1 : Int32)), hp)
theorem t_220_34 {X : mjX} {d C S kc ks : Nat} {R : mjR} (hR : mjC R d) (h1 : kc ≤ C) (h2 : ks ≤ S) : P_220_34 X (d + 1) C S kc ks (b_220_34 R) := by
  intro  hp q h
  unfold b_220_34 at h
  refine mjq_ic (v := (-1 : Int32)) D_220_34 rfl ?_
  exact mjq_ret D_220_35 rfl h1 h2 h
noncomputable def b_220_0 (R : mjR) (l0 : Nat) (l1 : Int32) (l2 : Int32) (hp : mjH) : mjU := gR hp l0 11 11 (fun v1 => rV hp v1 3 (bI (R 43 [.ref v1, .int l1] hp) (fun v2 hp3 => (if v2 = 0 then b_220_34 R hp3 else gR hp3 l0 11 11 (fun v4 => rV hp3 v4 3 (bI (R 43 [.ref v4, .int l2] hp3) (fun v5 hp6 => (if v5 = 0 then b_220_34 R hp6 else gR hp6 l0 11 13 (fun v7 => rV hp6 v7 10 (bI (R 185 [.ref v7, .int l1, .int l2] hp6) (fun v8 hp9 => some (some (.int v8), hp9))))))))))))
theorem t_220_0 {X : mjX} {d C S kc ks : Nat} {R : mjR} (hR : mjC R d) (h1 : kc ≤ C) (h2 : ks ≤ S) : P_220_0 X (d + 1) C S kc ks (b_220_0 R) := by
  intro l0 l1 l2 hp q h
  unfold b_220_0 at h
  refine mjr_aload_n (x := l0) D_220_0 rfl ?_
  refine mjq_gR D_220_1 fr_11_67 h (fun v1 h => ?_)
  refine mjr_iload_n (x := l1) D_220_4 rfl ?_
  refine mjq_vI (As := [.int l1]) (rest := []) D_220_5 mr_11_238 V_43 rfl rfl rfl hR (Nat.le_refl _) h1 h2 h (fun v2 hp3 h => ?_)
  refine mjq_if_eq (tgt := 34) D_220_8 rfl h (fun h => ?_) (fun h => ?_)
  · exact mjG.fg (lo' := [none, none, none]) True.intro ((t_220_34 hR h1 h2) _ _ h)
  · refine mjr_aload_n (x := l0) D_220_11 rfl ?_
    refine mjq_gR D_220_12 fr_11_67 h (fun v4 h => ?_)
    refine mjr_iload_n (x := l2) D_220_15 rfl ?_
    refine mjq_vI (As := [.int l2]) (rest := []) D_220_16 mr_11_238 V_43 rfl rfl rfl hR (Nat.le_refl _) h1 h2 h (fun v5 hp6 h => ?_)
    refine mjq_if_eq (tgt := 34) D_220_19 rfl h (fun h => ?_) (fun h => ?_)
    · exact mjG.fg (lo' := [none, none, none]) True.intro ((t_220_34 hR h1 h2) _ _ h)
    · refine mjr_aload_n (x := l0) D_220_22 rfl ?_
      refine mjq_gR D_220_23 fr_11_83 h (fun v7 h => ?_)
      refine mjr_iload_n (x := l1) D_220_26 rfl ?_
      refine mjr_iload_n (x := l2) D_220_27 rfl ?_
      refine mjq_vI (As := [.int l1, .int l2]) (rest := []) D_220_28 mr_11_261 V_185 rfl rfl rfl hR (Nat.le_refl _) h1 h2 h (fun v8 hp9 h => ?_)
      refine mjr_goto (tgt := 35) D_220_31 rfl ?_
      exact mjq_ret D_220_35 rfl h1 h2 h
noncomputable def f_220 (R : mjR) (a0 : Nat) (a1 : Int32) (a2 : Int32) (hp : mjH) : mjU := b_220_0 R a0 a1 a2 hp
theorem c_220 {R : mjR} {d : Nat} (hR : mjC R d) {a0 : Nat} {a1 : Int32} {a2 : Int32} {hp : mjH} {q : Option Value × mjH} (h : f_220 R a0 a1 a2 hp = some q) : mjM (d + 1) 0 0 220 [.ref a0, .int a1, .int a2] hp (mjEq q) :=
  mjM_of Ja_220 (Nat.le_of_ble_eq_true rfl) (mjG.fg (lo' := [some (.ref a0), some (.int a1), some (.int a2)]) (And.intro rfl (And.intro rfl (And.intro rfl True.intro))) ((t_220_0 hR (Nat.le_refl 0) (Nat.le_refl 0)) a0 a1 a2 hp q h))
def J_221 : mjI := (⟨"OwnerHeap", "above", "(I)I"⟩, 11, prog_1_method_21_code, 2, (some .int), 1, false)
theorem Ja_221 : mjMt 221 = some J_221 := by rfl
theorem D_221_0 : decode J_221.2.2.1 0 = .ok (.aload_n 0, 1) := dzq_42 (by decide +kernel)
theorem D_221_1 : decode J_221.2.2.1 1 = .ok (.getfield 67, 3) := dzq_180 (by decide +kernel)
theorem D_221_4 : decode J_221.2.2.1 4 = .ok (.iload_n 1, 1) := dzq_27 (by decide +kernel)
theorem D_221_5 : decode J_221.2.2.1 5 = .ok (.invokevirtual 238, 3) := dzq_182 (by decide +kernel)
theorem D_221_8 : decode J_221.2.2.1 8 = .ok (.ifCond .eq 14, 3) := dzq_153 (by decide +kernel)
theorem D_221_11 : decode J_221.2.2.1 11 = .ok (.aload_n 0, 1) := dzq_42 (by decide +kernel)
theorem D_221_12 : decode J_221.2.2.1 12 = .ok (.getfield 83, 3) := dzq_180 (by decide +kernel)
theorem D_221_15 : decode J_221.2.2.1 15 = .ok (.iload_n 1, 1) := dzq_27 (by decide +kernel)
theorem D_221_16 : decode J_221.2.2.1 16 = .ok (.invokevirtual 264, 3) := dzq_182 (by decide +kernel)
theorem D_221_19 : decode J_221.2.2.1 19 = .ok (.goto 4, 3) := dzq_167 (by decide +kernel)
theorem D_221_22 : decode J_221.2.2.1 22 = .ok (.iconst (-1), 1) := dzq_2 (by decide +kernel)
theorem D_221_23 : decode J_221.2.2.1 23 = .ok (.ireturn, 1) := dzq_172 (by decide +kernel)
def P_221_0 (X : mjX) (d C S kc ks : Nat) (k : Nat → Int32 → mjH → mjU) : Prop := ∀ (l0 : Nat) (l1 : Int32) (hp : mjH) (q : Option Value × mjH), k l0 l1 hp = some q → mjG X d C S J_221 (mjEq q) 0 [some (.ref l0), some (.int l1)] [] hp kc ks
noncomputable def b_221_0 (R : mjR) (l0 : Nat) (l1 : Int32) (hp : mjH) : mjU := gR hp l0 11 11 (fun v1 => rV hp v1 3 (bI (R 43 [.ref v1, .int l1] hp) (fun v2 hp3 => (if v2 = 0 then some (some (.int (-1 : Int32)), hp3) else gR hp3 l0 11 13 (fun v4 => rV hp3 v4 10 (bI (R 192 [.ref v4, .int l1] hp3) (fun v5 hp6 => some (some (.int v5), hp6))))))))
theorem t_221_0 {X : mjX} {d C S kc ks : Nat} {R : mjR} (hR : mjC R d) (h1 : kc ≤ C) (h2 : ks ≤ S) : P_221_0 X (d + 1) C S kc ks (b_221_0 R) := by
  intro l0 l1 hp q h
  unfold b_221_0 at h
  refine mjr_aload_n (x := l0) D_221_0 rfl ?_
  refine mjq_gR D_221_1 fr_11_67 h (fun v1 h => ?_)
  refine mjr_iload_n (x := l1) D_221_4 rfl ?_
  refine mjq_vI (As := [.int l1]) (rest := []) D_221_5 mr_11_238 V_43 rfl rfl rfl hR (Nat.le_refl _) h1 h2 h (fun v2 hp3 h => ?_)
  refine mjq_if_eq (tgt := 22) D_221_8 rfl h (fun h => ?_) (fun h => ?_)
  · refine mjq_ic (v := (-1 : Int32)) D_221_22 rfl ?_
    exact mjq_ret D_221_23 rfl h1 h2 h
  · refine mjr_aload_n (x := l0) D_221_11 rfl ?_
    refine mjq_gR D_221_12 fr_11_83 h (fun v4 h => ?_)
    refine mjr_iload_n (x := l1) D_221_15 rfl ?_
    refine mjq_vI (As := [.int l1]) (rest := []) D_221_16 mr_11_264 V_192 rfl rfl rfl hR (Nat.le_refl _) h1 h2 h (fun v5 hp6 h => ?_)
    refine mjr_goto (tgt := 23) D_221_19 rfl ?_
    exact mjq_ret D_221_23 rfl h1 h2 h
noncomputable def f_221 (R : mjR) (a0 : Nat) (a1 : Int32) (hp : mjH) : mjU := b_221_0 R a0 a1 hp
theorem c_221 {R : mjR} {d : Nat} (hR : mjC R d) {a0 : Nat} {a1 : Int32} {hp : mjH} {q : Option Value × mjH} (h : f_221 R a0 a1 hp = some q) : mjM (d + 1) 0 0 221 [.ref a0, .int a1] hp (mjEq q) :=
  mjM_of Ja_221 (Nat.le_of_ble_eq_true rfl) (mjG.fg (lo' := [some (.ref a0), some (.int a1)]) (And.intro rfl (And.intro rfl True.intro)) ((t_221_0 hR (Nat.le_refl 0) (Nat.le_refl 0)) a0 a1 hp q h))
def J_222 : mjI := (⟨"OwnerHeap", "leaks", "()I"⟩, 11, prog_1_method_22_code, 1, (some .int), 0, false)
theorem Ja_222 : mjMt 222 = some J_222 := by rfl
theorem D_222_0 : decode J_222.2.2.1 0 = .ok (.aload_n 0, 1) := dzq_42 (by decide +kernel)
theorem D_222_1 : decode J_222.2.2.1 1 = .ok (.getfield 83, 3) := dzq_180 (by decide +kernel)
theorem D_222_4 : decode J_222.2.2.1 4 = .ok (.invokevirtual 267, 3) := dzq_182 (by decide +kernel)
theorem D_222_7 : decode J_222.2.2.1 7 = .ok (.ireturn, 1) := dzq_172 (by decide +kernel)
def P_222_0 (X : mjX) (d C S kc ks : Nat) (k : Nat → mjH → mjU) : Prop := ∀ (l0 : Nat) (hp : mjH) (q : Option Value × mjH), k l0 hp = some q → mjG X d C S J_222 (mjEq q) 0 [some (.ref l0)] [] hp kc ks
noncomputable def b_222_0 (R : mjR) (l0 : Nat) (hp : mjH) : mjU := gR hp l0 11 13 (fun v1 => rV hp v1 10 (bI (R 198 [.ref v1] hp) (fun v2 hp3 => some (some (.int v2), hp3))))
theorem t_222_0 {X : mjX} {d C S kc ks : Nat} {R : mjR} (hR : mjC R d) (h1 : kc ≤ C) (h2 : ks ≤ S) : P_222_0 X (d + 1) C S kc ks (b_222_0 R) := by
  intro l0 hp q h
  unfold b_222_0 at h
  refine mjr_aload_n (x := l0) D_222_0 rfl ?_
  refine mjq_gR D_222_1 fr_11_83 h (fun v1 h => ?_)
  refine mjq_vI (As := []) (rest := []) D_222_4 mr_11_267 V_198 rfl rfl rfl hR (Nat.le_refl _) h1 h2 h (fun v2 hp3 h => ?_)
  exact mjq_ret D_222_7 rfl h1 h2 h
noncomputable def f_222 (R : mjR) (a0 : Nat) (hp : mjH) : mjU := b_222_0 R a0 hp
theorem c_222 {R : mjR} {d : Nat} (hR : mjC R d) {a0 : Nat} {hp : mjH} {q : Option Value × mjH} (h : f_222 R a0 hp = some q) : mjM (d + 1) 0 0 222 [.ref a0] hp (mjEq q) :=
  mjM_of Ja_222 (Nat.le_of_ble_eq_true rfl) (mjG.fg (lo' := [some (.ref a0)]) (And.intro rfl True.intro) ((t_222_0 hR (Nat.le_refl 0) (Nat.le_refl 0)) a0 hp q h))
def J_223 : mjI := (⟨"OwnerHeap", "leak", "(I)I"⟩, 11, prog_1_method_23_code, 2, (some .int), 1, false)
theorem Ja_223 : mjMt 223 = some J_223 := by rfl
theorem D_223_0 : decode J_223.2.2.1 0 = .ok (.aload_n 0, 1) := dzq_42 (by decide +kernel)
theorem D_223_1 : decode J_223.2.2.1 1 = .ok (.getfield 83, 3) := dzq_180 (by decide +kernel)
theorem D_223_4 : decode J_223.2.2.1 4 = .ok (.iload_n 1, 1) := dzq_27 (by decide +kernel)
theorem D_223_5 : decode J_223.2.2.1 5 = .ok (.invokevirtual 271, 3) := dzq_182 (by decide +kernel)
theorem D_223_8 : decode J_223.2.2.1 8 = .ok (.ireturn, 1) := dzq_172 (by decide +kernel)
def P_223_0 (X : mjX) (d C S kc ks : Nat) (k : Nat → Int32 → mjH → mjU) : Prop := ∀ (l0 : Nat) (l1 : Int32) (hp : mjH) (q : Option Value × mjH), k l0 l1 hp = some q → mjG X d C S J_223 (mjEq q) 0 [some (.ref l0), some (.int l1)] [] hp kc ks
noncomputable def b_223_0 (R : mjR) (l0 : Nat) (l1 : Int32) (hp : mjH) : mjU := gR hp l0 11 13 (fun v1 => rV hp v1 10 (bI (R 199 [.ref v1, .int l1] hp) (fun v2 hp3 => some (some (.int v2), hp3))))
theorem t_223_0 {X : mjX} {d C S kc ks : Nat} {R : mjR} (hR : mjC R d) (h1 : kc ≤ C) (h2 : ks ≤ S) : P_223_0 X (d + 1) C S kc ks (b_223_0 R) := by
  intro l0 l1 hp q h
  unfold b_223_0 at h
  refine mjr_aload_n (x := l0) D_223_0 rfl ?_
  refine mjq_gR D_223_1 fr_11_83 h (fun v1 h => ?_)
  refine mjr_iload_n (x := l1) D_223_4 rfl ?_
  refine mjq_vI (As := [.int l1]) (rest := []) D_223_5 mr_11_271 V_199 rfl rfl rfl hR (Nat.le_refl _) h1 h2 h (fun v2 hp3 h => ?_)
  exact mjq_ret D_223_8 rfl h1 h2 h
noncomputable def f_223 (R : mjR) (a0 : Nat) (a1 : Int32) (hp : mjH) : mjU := b_223_0 R a0 a1 hp
theorem c_223 {R : mjR} {d : Nat} (hR : mjC R d) {a0 : Nat} {a1 : Int32} {hp : mjH} {q : Option Value × mjH} (h : f_223 R a0 a1 hp = some q) : mjM (d + 1) 0 0 223 [.ref a0, .int a1] hp (mjEq q) :=
  mjM_of Ja_223 (Nat.le_of_ble_eq_true rfl) (mjG.fg (lo' := [some (.ref a0), some (.int a1)]) (And.intro rfl (And.intro rfl True.intro)) ((t_223_0 hR (Nat.le_refl 0) (Nat.le_refl 0)) a0 a1 hp q h))
def J_224 : mjI := (⟨"OwnerHeap", "past", "(II)I"⟩, 11, prog_1_method_24_code, 3, (some .int), 2, false)
theorem Ja_224 : mjMt 224 = some J_224 := by rfl
theorem D_224_0 : decode J_224.2.2.1 0 = .ok (.aload_n 0, 1) := dzq_42 (by decide +kernel)
theorem D_224_1 : decode J_224.2.2.1 1 = .ok (.getfield 67, 3) := dzq_180 (by decide +kernel)
theorem D_224_4 : decode J_224.2.2.1 4 = .ok (.iload_n 1, 1) := dzq_27 (by decide +kernel)
theorem D_224_5 : decode J_224.2.2.1 5 = .ok (.invokevirtual 238, 3) := dzq_182 (by decide +kernel)
theorem D_224_8 : decode J_224.2.2.1 8 = .ok (.ifCond .eq 15, 3) := dzq_153 (by decide +kernel)
theorem D_224_11 : decode J_224.2.2.1 11 = .ok (.aload_n 0, 1) := dzq_42 (by decide +kernel)
theorem D_224_12 : decode J_224.2.2.1 12 = .ok (.getfield 83, 3) := dzq_180 (by decide +kernel)
theorem D_224_15 : decode J_224.2.2.1 15 = .ok (.iload_n 1, 1) := dzq_27 (by decide +kernel)
theorem D_224_16 : decode J_224.2.2.1 16 = .ok (.iload_n 2, 1) := dzq_28 (by decide +kernel)
theorem D_224_17 : decode J_224.2.2.1 17 = .ok (.invokevirtual 274, 3) := dzq_182 (by decide +kernel)
theorem D_224_20 : decode J_224.2.2.1 20 = .ok (.goto 4, 3) := dzq_167 (by decide +kernel)
theorem D_224_23 : decode J_224.2.2.1 23 = .ok (.iconst (-1), 1) := dzq_2 (by decide +kernel)
theorem D_224_24 : decode J_224.2.2.1 24 = .ok (.ireturn, 1) := dzq_172 (by decide +kernel)
def P_224_0 (X : mjX) (d C S kc ks : Nat) (k : Nat → Int32 → Int32 → mjH → mjU) : Prop := ∀ (l0 : Nat) (l1 : Int32) (l2 : Int32) (hp : mjH) (q : Option Value × mjH), k l0 l1 l2 hp = some q → mjG X d C S J_224 (mjEq q) 0 [some (.ref l0), some (.int l1), some (.int l2)] [] hp kc ks
noncomputable def b_224_0 (R : mjR) (l0 : Nat) (l1 : Int32) (l2 : Int32) (hp : mjH) : mjU := gR hp l0 11 11 (fun v1 => rV hp v1 3 (bI (R 43 [.ref v1, .int l1] hp) (fun v2 hp3 => (if v2 = 0 then some (some (.int (-1 : Int32)), hp3) else gR hp3 l0 11 13 (fun v4 => rV hp3 v4 10 (bI (R 200 [.ref v4, .int l1, .int l2] hp3) (fun v5 hp6 => some (some (.int v5), hp6))))))))
theorem t_224_0 {X : mjX} {d C S kc ks : Nat} {R : mjR} (hR : mjC R d) (h1 : kc ≤ C) (h2 : ks ≤ S) : P_224_0 X (d + 1) C S kc ks (b_224_0 R) := by
  intro l0 l1 l2 hp q h
  unfold b_224_0 at h
  refine mjr_aload_n (x := l0) D_224_0 rfl ?_
  refine mjq_gR D_224_1 fr_11_67 h (fun v1 h => ?_)
  refine mjr_iload_n (x := l1) D_224_4 rfl ?_
  refine mjq_vI (As := [.int l1]) (rest := []) D_224_5 mr_11_238 V_43 rfl rfl rfl hR (Nat.le_refl _) h1 h2 h (fun v2 hp3 h => ?_)
  refine mjq_if_eq (tgt := 23) D_224_8 rfl h (fun h => ?_) (fun h => ?_)
  · refine mjq_ic (v := (-1 : Int32)) D_224_23 rfl ?_
    exact mjq_ret D_224_24 rfl h1 h2 h
  · refine mjr_aload_n (x := l0) D_224_11 rfl ?_
    refine mjq_gR D_224_12 fr_11_83 h (fun v4 h => ?_)
    refine mjr_iload_n (x := l1) D_224_15 rfl ?_
    refine mjr_iload_n (x := l2) D_224_16 rfl ?_
    refine mjq_vI (As := [.int l1, .int l2]) (rest := []) D_224_17 mr_11_274 V_200 rfl rfl rfl hR (Nat.le_refl _) h1 h2 h (fun v5 hp6 h => ?_)
    refine mjr_goto (tgt := 24) D_224_20 rfl ?_
    exact mjq_ret D_224_24 rfl h1 h2 h
noncomputable def f_224 (R : mjR) (a0 : Nat) (a1 : Int32) (a2 : Int32) (hp : mjH) : mjU := b_224_0 R a0 a1 a2 hp
theorem c_224 {R : mjR} {d : Nat} (hR : mjC R d) {a0 : Nat} {a1 : Int32} {a2 : Int32} {hp : mjH} {q : Option Value × mjH} (h : f_224 R a0 a1 a2 hp = some q) : mjM (d + 1) 0 0 224 [.ref a0, .int a1, .int a2] hp (mjEq q) :=
  mjM_of Ja_224 (Nat.le_of_ble_eq_true rfl) (mjG.fg (lo' := [some (.ref a0), some (.int a1), some (.int a2)]) (And.intro rfl (And.intro rfl (And.intro rfl True.intro))) ((t_224_0 hR (Nat.le_refl 0) (Nat.le_refl 0)) a0 a1 a2 hp q h))
def J_225 : mjI := (⟨"OwnerHeapModel", "<init>", "()V"⟩, 12, prog_14_method_1_code, 1, none, 0, false)
theorem Ja_225 : mjMt 225 = some J_225 := by rfl
theorem D_225_778 : decode J_225.2.2.1 778 = .ok (.aload_n 0, 1) := dzq_42 (by decide +kernel)
theorem D_225_779 : decode J_225.2.2.1 779 = .ok (.iconst 1, 1) := dzq_4 (by decide +kernel)
theorem D_225_780 : decode J_225.2.2.1 780 = .ok (.bipush 99, 2) := dzq_16 (by decide +kernel)
theorem D_225_782 : decode J_225.2.2.1 782 = .ok (.bipush 108, 2) := dzq_16 (by decide +kernel)
theorem D_225_784 : decode J_225.2.2.1 784 = .ok (.bipush 97, 2) := dzq_16 (by decide +kernel)
theorem D_225_786 : decode J_225.2.2.1 786 = .ok (.bipush 115, 2) := dzq_16 (by decide +kernel)
theorem D_225_788 : decode J_225.2.2.1 788 = .ok (.bipush 115, 2) := dzq_16 (by decide +kernel)
theorem D_225_790 : decode J_225.2.2.1 790 = .ok (.iconst 0, 1) := dzq_3 (by decide +kernel)
theorem D_225_791 : decode J_225.2.2.1 791 = .ok (.invokevirtual 290, 3) := dzq_182 (by decide +kernel)
theorem D_225_794 : decode J_225.2.2.1 794 = .ok (.aload_n 0, 1) := dzq_42 (by decide +kernel)
theorem D_225_795 : decode J_225.2.2.1 795 = .ok (.iconst 2, 1) := dzq_5 (by decide +kernel)
theorem D_225_796 : decode J_225.2.2.1 796 = .ok (.bipush 105, 2) := dzq_16 (by decide +kernel)
theorem D_225_798 : decode J_225.2.2.1 798 = .ok (.bipush 115, 2) := dzq_16 (by decide +kernel)
theorem D_225_800 : decode J_225.2.2.1 800 = .ok (.iconst 0, 1) := dzq_3 (by decide +kernel)
theorem D_225_801 : decode J_225.2.2.1 801 = .ok (.iconst 0, 1) := dzq_3 (by decide +kernel)
theorem D_225_802 : decode J_225.2.2.1 802 = .ok (.iconst 0, 1) := dzq_3 (by decide +kernel)
theorem D_225_803 : decode J_225.2.2.1 803 = .ok (.iconst 0, 1) := dzq_3 (by decide +kernel)
theorem D_225_804 : decode J_225.2.2.1 804 = .ok (.invokevirtual 290, 3) := dzq_182 (by decide +kernel)
theorem D_225_807 : decode J_225.2.2.1 807 = .ok (.aload_n 0, 1) := dzq_42 (by decide +kernel)
theorem D_225_808 : decode J_225.2.2.1 808 = .ok (.iconst 3, 1) := dzq_6 (by decide +kernel)
theorem D_225_809 : decode J_225.2.2.1 809 = .ok (.bipush 119, 2) := dzq_16 (by decide +kernel)
theorem D_225_811 : decode J_225.2.2.1 811 = .ok (.bipush 104, 2) := dzq_16 (by decide +kernel)
theorem D_225_813 : decode J_225.2.2.1 813 = .ok (.bipush 101, 2) := dzq_16 (by decide +kernel)
theorem D_225_815 : decode J_225.2.2.1 815 = .ok (.bipush 114, 2) := dzq_16 (by decide +kernel)
theorem D_225_817 : decode J_225.2.2.1 817 = .ok (.bipush 101, 2) := dzq_16 (by decide +kernel)
theorem D_225_819 : decode J_225.2.2.1 819 = .ok (.iconst 0, 1) := dzq_3 (by decide +kernel)
theorem D_225_820 : decode J_225.2.2.1 820 = .ok (.invokevirtual 290, 3) := dzq_182 (by decide +kernel)
theorem D_225_823 : decode J_225.2.2.1 823 = .ok (.aload_n 0, 1) := dzq_42 (by decide +kernel)
theorem D_225_824 : decode J_225.2.2.1 824 = .ok (.iconst 4, 1) := dzq_7 (by decide +kernel)
theorem D_225_825 : decode J_225.2.2.1 825 = .ok (.bipush 105, 2) := dzq_16 (by decide +kernel)
theorem D_225_827 : decode J_225.2.2.1 827 = .ok (.bipush 110, 2) := dzq_16 (by decide +kernel)
theorem D_225_829 : decode J_225.2.2.1 829 = .ok (.iconst 0, 1) := dzq_3 (by decide +kernel)
theorem D_225_830 : decode J_225.2.2.1 830 = .ok (.iconst 0, 1) := dzq_3 (by decide +kernel)
theorem D_225_831 : decode J_225.2.2.1 831 = .ok (.iconst 0, 1) := dzq_3 (by decide +kernel)
theorem D_225_832 : decode J_225.2.2.1 832 = .ok (.iconst 0, 1) := dzq_3 (by decide +kernel)
theorem D_225_833 : decode J_225.2.2.1 833 = .ok (.invokevirtual 290, 3) := dzq_182 (by decide +kernel)
theorem D_225_836 : decode J_225.2.2.1 836 = .ok (.aload_n 0, 1) := dzq_42 (by decide +kernel)
theorem D_225_837 : decode J_225.2.2.1 837 = .ok (.iconst 5, 1) := dzq_8 (by decide +kernel)
theorem D_225_838 : decode J_225.2.2.1 838 = .ok (.bipush 109, 2) := dzq_16 (by decide +kernel)
theorem D_225_840 : decode J_225.2.2.1 840 = .ok (.bipush 97, 2) := dzq_16 (by decide +kernel)
theorem D_225_842 : decode J_225.2.2.1 842 = .ok (.bipush 105, 2) := dzq_16 (by decide +kernel)
theorem D_225_844 : decode J_225.2.2.1 844 = .ok (.bipush 110, 2) := dzq_16 (by decide +kernel)
theorem D_225_846 : decode J_225.2.2.1 846 = .ok (.iconst 0, 1) := dzq_3 (by decide +kernel)
theorem D_225_847 : decode J_225.2.2.1 847 = .ok (.iconst 0, 1) := dzq_3 (by decide +kernel)
theorem D_225_848 : decode J_225.2.2.1 848 = .ok (.invokevirtual 290, 3) := dzq_182 (by decide +kernel)
theorem D_225_851 : decode J_225.2.2.1 851 = .ok (.aload_n 0, 1) := dzq_42 (by decide +kernel)
theorem D_225_852 : decode J_225.2.2.1 852 = .ok (.bipush 6, 2) := dzq_16 (by decide +kernel)
theorem D_225_854 : decode J_225.2.2.1 854 = .ok (.bipush 105, 2) := dzq_16 (by decide +kernel)
theorem D_225_856 : decode J_225.2.2.1 856 = .ok (.bipush 110, 2) := dzq_16 (by decide +kernel)
theorem D_225_858 : decode J_225.2.2.1 858 = .ok (.bipush 116, 2) := dzq_16 (by decide +kernel)
theorem D_225_860 : decode J_225.2.2.1 860 = .ok (.iconst 0, 1) := dzq_3 (by decide +kernel)
theorem D_225_861 : decode J_225.2.2.1 861 = .ok (.iconst 0, 1) := dzq_3 (by decide +kernel)
theorem D_225_862 : decode J_225.2.2.1 862 = .ok (.iconst 0, 1) := dzq_3 (by decide +kernel)
theorem D_225_863 : decode J_225.2.2.1 863 = .ok (.invokevirtual 290, 3) := dzq_182 (by decide +kernel)
theorem D_225_866 : decode J_225.2.2.1 866 = .ok (.aload_n 0, 1) := dzq_42 (by decide +kernel)
theorem D_225_867 : decode J_225.2.2.1 867 = .ok (.bipush 7, 2) := dzq_16 (by decide +kernel)
theorem D_225_869 : decode J_225.2.2.1 869 = .ok (.bipush 110, 2) := dzq_16 (by decide +kernel)
theorem D_225_871 : decode J_225.2.2.1 871 = .ok (.bipush 117, 2) := dzq_16 (by decide +kernel)
theorem D_225_873 : decode J_225.2.2.1 873 = .ok (.bipush 108, 2) := dzq_16 (by decide +kernel)
theorem D_225_875 : decode J_225.2.2.1 875 = .ok (.bipush 108, 2) := dzq_16 (by decide +kernel)
theorem D_225_877 : decode J_225.2.2.1 877 = .ok (.iconst 0, 1) := dzq_3 (by decide +kernel)
theorem D_225_878 : decode J_225.2.2.1 878 = .ok (.iconst 0, 1) := dzq_3 (by decide +kernel)
theorem D_225_879 : decode J_225.2.2.1 879 = .ok (.invokevirtual 290, 3) := dzq_182 (by decide +kernel)
theorem D_225_882 : decode J_225.2.2.1 882 = .ok (.aload_n 0, 1) := dzq_42 (by decide +kernel)
theorem D_225_883 : decode J_225.2.2.1 883 = .ok (.bipush 8, 2) := dzq_16 (by decide +kernel)
theorem D_225_885 : decode J_225.2.2.1 885 = .ok (.bipush 116, 2) := dzq_16 (by decide +kernel)
theorem D_225_887 : decode J_225.2.2.1 887 = .ok (.bipush 104, 2) := dzq_16 (by decide +kernel)
theorem D_225_889 : decode J_225.2.2.1 889 = .ok (.bipush 105, 2) := dzq_16 (by decide +kernel)
theorem D_225_891 : decode J_225.2.2.1 891 = .ok (.bipush 115, 2) := dzq_16 (by decide +kernel)
theorem D_225_893 : decode J_225.2.2.1 893 = .ok (.iconst 0, 1) := dzq_3 (by decide +kernel)
theorem D_225_894 : decode J_225.2.2.1 894 = .ok (.iconst 0, 1) := dzq_3 (by decide +kernel)
theorem D_225_895 : decode J_225.2.2.1 895 = .ok (.invokevirtual 290, 3) := dzq_182 (by decide +kernel)
theorem D_225_898 : decode J_225.2.2.1 898 = .ok (.aload_n 0, 1) := dzq_42 (by decide +kernel)
theorem D_225_899 : decode J_225.2.2.1 899 = .ok (.bipush 9, 2) := dzq_16 (by decide +kernel)
theorem D_225_901 : decode J_225.2.2.1 901 = .ok (.bipush 119, 2) := dzq_16 (by decide +kernel)
theorem D_225_903 : decode J_225.2.2.1 903 = .ok (.bipush 111, 2) := dzq_16 (by decide +kernel)
theorem D_225_905 : decode J_225.2.2.1 905 = .ok (.bipush 114, 2) := dzq_16 (by decide +kernel)
theorem D_225_907 : decode J_225.2.2.1 907 = .ok (.bipush 108, 2) := dzq_16 (by decide +kernel)
theorem D_225_909 : decode J_225.2.2.1 909 = .ok (.bipush 100, 2) := dzq_16 (by decide +kernel)
theorem D_225_911 : decode J_225.2.2.1 911 = .ok (.iconst 0, 1) := dzq_3 (by decide +kernel)
theorem D_225_912 : decode J_225.2.2.1 912 = .ok (.invokevirtual 290, 3) := dzq_182 (by decide +kernel)
theorem D_225_915 : decode J_225.2.2.1 915 = .ok (.aload_n 0, 1) := dzq_42 (by decide +kernel)
theorem D_225_916 : decode J_225.2.2.1 916 = .ok (.bipush 10, 2) := dzq_16 (by decide +kernel)
theorem D_225_918 : decode J_225.2.2.1 918 = .ok (.bipush 110, 2) := dzq_16 (by decide +kernel)
theorem D_225_920 : decode J_225.2.2.1 920 = .ok (.bipush 101, 2) := dzq_16 (by decide +kernel)
theorem D_225_922 : decode J_225.2.2.1 922 = .ok (.bipush 119, 2) := dzq_16 (by decide +kernel)
theorem D_225_924 : decode J_225.2.2.1 924 = .ok (.iconst 0, 1) := dzq_3 (by decide +kernel)
theorem D_225_925 : decode J_225.2.2.1 925 = .ok (.iconst 0, 1) := dzq_3 (by decide +kernel)
theorem D_225_926 : decode J_225.2.2.1 926 = .ok (.iconst 0, 1) := dzq_3 (by decide +kernel)
theorem D_225_927 : decode J_225.2.2.1 927 = .ok (.invokevirtual 290, 3) := dzq_182 (by decide +kernel)
theorem D_225_930 : decode J_225.2.2.1 930 = .ok (.aload_n 0, 1) := dzq_42 (by decide +kernel)
theorem D_225_931 : decode J_225.2.2.1 931 = .ok (.bipush 11, 2) := dzq_16 (by decide +kernel)
theorem D_225_933 : decode J_225.2.2.1 933 = .ok (.bipush 105, 2) := dzq_16 (by decide +kernel)
theorem D_225_935 : decode J_225.2.2.1 935 = .ok (.bipush 102, 2) := dzq_16 (by decide +kernel)
theorem D_225_937 : decode J_225.2.2.1 937 = .ok (.iconst 0, 1) := dzq_3 (by decide +kernel)
theorem D_225_938 : decode J_225.2.2.1 938 = .ok (.iconst 0, 1) := dzq_3 (by decide +kernel)
theorem D_225_939 : decode J_225.2.2.1 939 = .ok (.iconst 0, 1) := dzq_3 (by decide +kernel)
theorem D_225_940 : decode J_225.2.2.1 940 = .ok (.iconst 0, 1) := dzq_3 (by decide +kernel)
theorem D_225_941 : decode J_225.2.2.1 941 = .ok (.invokevirtual 290, 3) := dzq_182 (by decide +kernel)
theorem D_225_944 : decode J_225.2.2.1 944 = .ok (.aload_n 0, 1) := dzq_42 (by decide +kernel)
theorem D_225_945 : decode J_225.2.2.1 945 = .ok (.bipush 12, 2) := dzq_16 (by decide +kernel)
theorem D_225_947 : decode J_225.2.2.1 947 = .ok (.bipush 101, 2) := dzq_16 (by decide +kernel)
theorem D_225_949 : decode J_225.2.2.1 949 = .ok (.bipush 108, 2) := dzq_16 (by decide +kernel)
theorem D_225_951 : decode J_225.2.2.1 951 = .ok (.bipush 115, 2) := dzq_16 (by decide +kernel)
theorem D_225_953 : decode J_225.2.2.1 953 = .ok (.bipush 101, 2) := dzq_16 (by decide +kernel)
theorem D_225_955 : decode J_225.2.2.1 955 = .ok (.iconst 0, 1) := dzq_3 (by decide +kernel)
theorem D_225_956 : decode J_225.2.2.1 956 = .ok (.iconst 0, 1) := dzq_3 (by decide +kernel)
theorem D_225_957 : decode J_225.2.2.1 957 = .ok (.invokevirtual 290, 3) := dzq_182 (by decide +kernel)
theorem D_225_960 : decode J_225.2.2.1 960 = .ok (.aload_n 0, 1) := dzq_42 (by decide +kernel)
theorem D_225_961 : decode J_225.2.2.1 961 = .ok (.bipush 13, 2) := dzq_16 (by decide +kernel)
theorem D_225_963 : decode J_225.2.2.1 963 = .ok (.bipush 119, 2) := dzq_16 (by decide +kernel)
theorem D_225_965 : decode J_225.2.2.1 965 = .ok (.bipush 104, 2) := dzq_16 (by decide +kernel)
theorem D_225_967 : decode J_225.2.2.1 967 = .ok (.bipush 105, 2) := dzq_16 (by decide +kernel)
theorem D_225_969 : decode J_225.2.2.1 969 = .ok (.bipush 108, 2) := dzq_16 (by decide +kernel)
theorem D_225_971 : decode J_225.2.2.1 971 = .ok (.bipush 101, 2) := dzq_16 (by decide +kernel)
theorem D_225_973 : decode J_225.2.2.1 973 = .ok (.iconst 0, 1) := dzq_3 (by decide +kernel)
theorem D_225_974 : decode J_225.2.2.1 974 = .ok (.invokevirtual 290, 3) := dzq_182 (by decide +kernel)
theorem D_225_977 : decode J_225.2.2.1 977 = .ok (.aload_n 0, 1) := dzq_42 (by decide +kernel)
theorem D_225_978 : decode J_225.2.2.1 978 = .ok (.bipush 14, 2) := dzq_16 (by decide +kernel)
theorem D_225_980 : decode J_225.2.2.1 980 = .ok (.bipush 114, 2) := dzq_16 (by decide +kernel)
theorem D_225_982 : decode J_225.2.2.1 982 = .ok (.bipush 101, 2) := dzq_16 (by decide +kernel)
theorem D_225_984 : decode J_225.2.2.1 984 = .ok (.bipush 116, 2) := dzq_16 (by decide +kernel)
theorem D_225_986 : decode J_225.2.2.1 986 = .ok (.bipush 117, 2) := dzq_16 (by decide +kernel)
theorem D_225_988 : decode J_225.2.2.1 988 = .ok (.bipush 114, 2) := dzq_16 (by decide +kernel)
theorem D_225_990 : decode J_225.2.2.1 990 = .ok (.bipush 110, 2) := dzq_16 (by decide +kernel)
theorem D_225_992 : decode J_225.2.2.1 992 = .ok (.invokevirtual 290, 3) := dzq_182 (by decide +kernel)
theorem D_225_995 : decode J_225.2.2.1 995 = .ok (.aload_n 0, 1) := dzq_42 (by decide +kernel)
theorem D_225_996 : decode J_225.2.2.1 996 = .ok (.bipush 15, 2) := dzq_16 (by decide +kernel)
theorem D_225_998 : decode J_225.2.2.1 998 = .ok (.bipush 115, 2) := dzq_16 (by decide +kernel)
theorem D_225_1000 : decode J_225.2.2.1 1000 = .ok (.bipush 97, 2) := dzq_16 (by decide +kernel)
theorem D_225_1002 : decode J_225.2.2.1 1002 = .ok (.bipush 121, 2) := dzq_16 (by decide +kernel)
theorem D_225_1004 : decode J_225.2.2.1 1004 = .ok (.iconst 0, 1) := dzq_3 (by decide +kernel)
theorem D_225_1005 : decode J_225.2.2.1 1005 = .ok (.iconst 0, 1) := dzq_3 (by decide +kernel)
theorem D_225_1006 : decode J_225.2.2.1 1006 = .ok (.iconst 0, 1) := dzq_3 (by decide +kernel)
theorem D_225_1007 : decode J_225.2.2.1 1007 = .ok (.invokevirtual 290, 3) := dzq_182 (by decide +kernel)
theorem D_225_1010 : decode J_225.2.2.1 1010 = .ok (.aload_n 0, 1) := dzq_42 (by decide +kernel)
theorem D_225_1011 : decode J_225.2.2.1 1011 = .ok (.bipush 16, 2) := dzq_16 (by decide +kernel)
theorem D_225_1013 : decode J_225.2.2.1 1013 = .ok (.bipush 97, 2) := dzq_16 (by decide +kernel)
theorem D_225_1015 : decode J_225.2.2.1 1015 = .ok (.bipush 115, 2) := dzq_16 (by decide +kernel)
theorem D_225_1017 : decode J_225.2.2.1 1017 = .ok (.iconst 0, 1) := dzq_3 (by decide +kernel)
theorem D_225_1018 : decode J_225.2.2.1 1018 = .ok (.iconst 0, 1) := dzq_3 (by decide +kernel)
theorem D_225_1019 : decode J_225.2.2.1 1019 = .ok (.iconst 0, 1) := dzq_3 (by decide +kernel)
theorem D_225_1020 : decode J_225.2.2.1 1020 = .ok (.iconst 0, 1) := dzq_3 (by decide +kernel)
theorem D_225_1021 : decode J_225.2.2.1 1021 = .ok (.invokevirtual 290, 3) := dzq_182 (by decide +kernel)
theorem D_225_1024 : decode J_225.2.2.1 1024 = .ok (.return_, 1) := dzq_177 (by decide +kernel)
def P_225_778 (X : mjX) (d C S kc ks : Nat) (k : Nat → mjH → mjU) : Prop := ∀ (l0 : Nat) (hp : mjH) (q : Option Value × mjH), k l0 hp = some q → mjG X d C S J_225 (mjEq q) 778 [some (.ref l0)] [] hp kc ks
noncomputable def b_225_778 (R : mjR) (l0 : Nat) (hp : mjH) : mjU := rV hp l0 12 (bN (R 226 [.ref l0, .int (1 : Int32), .int (99 : Int32), .int (108 : Int32), .int (97 : Int32), .int (115 : Int32), .int (115 : Int32), .int (0 : Int32)] hp) (fun  hp1 => rV hp1 l0 12 (bN (R 226 [.ref l0, .int (2 : Int32), .int (105 : Int32), .int (115 : Int32), .int (0 : Int32), .int (0 : Int32), .int (0 : Int32), .int (0 : Int32)] hp1) (fun  hp2 => rV hp2 l0 12 (bN (R 226 [.ref l0, .int (3 : Int32), .int (119 : Int32), .int (104 : Int32), .int (101 : Int32), .int (114 : Int32), .int (101 : Int32), .int (0 : Int32)] hp2) (fun  hp3 => rV hp3 l0 12 (bN (R 226 [.ref l0, .int (4 : Int32), .int (105 : Int32), .int (110 : Int32), .int (0 : Int32), .int (0 : Int32), .int (0 : Int32), .int (0 : Int32)] hp3) (fun  hp4 => rV hp4 l0 12 (bN (R 226 [.ref l0, .int (5 : Int32), .int (109 : Int32), .int (97 : Int32), .int (105 : Int32), .int (110 : Int32), .int (0 : Int32), .int (0 : Int32)] hp4) (fun  hp5 => rV hp5 l0 12 (bN (R 226 [.ref l0, .int (6 : Int32), .int (105 : Int32), .int (110 : Int32), .int (116 : Int32), .int (0 : Int32), .int (0 : Int32), .int (0 : Int32)] hp5) (fun  hp6 => rV hp6 l0 12 (bN (R 226 [.ref l0, .int (7 : Int32), .int (110 : Int32), .int (117 : Int32), .int (108 : Int32), .int (108 : Int32), .int (0 : Int32), .int (0 : Int32)] hp6) (fun  hp7 => rV hp7 l0 12 (bN (R 226 [.ref l0, .int (8 : Int32), .int (116 : Int32), .int (104 : Int32), .int (105 : Int32), .int (115 : Int32), .int (0 : Int32), .int (0 : Int32)] hp7) (fun  hp8 => rV hp8 l0 12 (bN (R 226 [.ref l0, .int (9 : Int32), .int (119 : Int32), .int (111 : Int32), .int (114 : Int32), .int (108 : Int32), .int (100 : Int32), .int (0 : Int32)] hp8) (fun  hp9 => rV hp9 l0 12 (bN (R 226 [.ref l0, .int (10 : Int32), .int (110 : Int32), .int (101 : Int32), .int (119 : Int32), .int (0 : Int32), .int (0 : Int32), .int (0 : Int32)] hp9) (fun  hp10 => rV hp10 l0 12 (bN (R 226 [.ref l0, .int (11 : Int32), .int (105 : Int32), .int (102 : Int32), .int (0 : Int32), .int (0 : Int32), .int (0 : Int32), .int (0 : Int32)] hp10) (fun  hp11 => rV hp11 l0 12 (bN (R 226 [.ref l0, .int (12 : Int32), .int (101 : Int32), .int (108 : Int32), .int (115 : Int32), .int (101 : Int32), .int (0 : Int32), .int (0 : Int32)] hp11) (fun  hp12 => rV hp12 l0 12 (bN (R 226 [.ref l0, .int (13 : Int32), .int (119 : Int32), .int (104 : Int32), .int (105 : Int32), .int (108 : Int32), .int (101 : Int32), .int (0 : Int32)] hp12) (fun  hp13 => rV hp13 l0 12 (bN (R 226 [.ref l0, .int (14 : Int32), .int (114 : Int32), .int (101 : Int32), .int (116 : Int32), .int (117 : Int32), .int (114 : Int32), .int (110 : Int32)] hp13) (fun  hp14 => rV hp14 l0 12 (bN (R 226 [.ref l0, .int (15 : Int32), .int (115 : Int32), .int (97 : Int32), .int (121 : Int32), .int (0 : Int32), .int (0 : Int32), .int (0 : Int32)] hp14) (fun  hp15 => rV hp15 l0 12 (bN (R 226 [.ref l0, .int (16 : Int32), .int (97 : Int32), .int (115 : Int32), .int (0 : Int32), .int (0 : Int32), .int (0 : Int32), .int (0 : Int32)] hp15) (fun  hp16 => some (none, hp16)))))))))))))))))))))))))))))))))
theorem t_225_778 {X : mjX} {d C S kc ks : Nat} {R : mjR} (hR : mjC R d) (h1 : kc ≤ C) (h2 : ks ≤ S) : P_225_778 X (d + 1) C S kc ks (b_225_778 R) := by
  intro l0 hp q h
  unfold b_225_778 at h
  refine mjr_aload_n (x := l0) D_225_778 rfl ?_
  refine mjq_ic (v := (1 : Int32)) D_225_779 rfl ?_
  refine mjq_bi (v := (99 : Int32)) D_225_780 rfl ?_
  refine mjq_bi (v := (108 : Int32)) D_225_782 rfl ?_
  refine mjq_bi (v := (97 : Int32)) D_225_784 rfl ?_
  refine mjq_bi (v := (115 : Int32)) D_225_786 rfl ?_
  refine mjq_bi (v := (115 : Int32)) D_225_788 rfl ?_
  refine mjq_ic (v := (0 : Int32)) D_225_790 rfl ?_
  refine mjq_vN (As := [.int (1 : Int32), .int (99 : Int32), .int (108 : Int32), .int (97 : Int32), .int (115 : Int32), .int (115 : Int32), .int (0 : Int32)]) (rest := []) D_225_791 mr_12_290 V_226 rfl rfl rfl hR (Nat.le_refl _) h1 h2 h (fun  hp1 h => ?_)
  refine mjr_aload_n (x := l0) D_225_794 rfl ?_
  refine mjq_ic (v := (2 : Int32)) D_225_795 rfl ?_
  refine mjq_bi (v := (105 : Int32)) D_225_796 rfl ?_
  refine mjq_bi (v := (115 : Int32)) D_225_798 rfl ?_
  refine mjq_ic (v := (0 : Int32)) D_225_800 rfl ?_
  refine mjq_ic (v := (0 : Int32)) D_225_801 rfl ?_
  refine mjq_ic (v := (0 : Int32)) D_225_802 rfl ?_
  refine mjq_ic (v := (0 : Int32)) D_225_803 rfl ?_
  refine mjq_vN (As := [.int (2 : Int32), .int (105 : Int32), .int (115 : Int32), .int (0 : Int32), .int (0 : Int32), .int (0 : Int32), .int (0 : Int32)]) (rest := []) D_225_804 mr_12_290 V_226 rfl rfl rfl hR (Nat.le_refl _) h1 h2 h (fun  hp2 h => ?_)
  refine mjr_aload_n (x := l0) D_225_807 rfl ?_
  refine mjq_ic (v := (3 : Int32)) D_225_808 rfl ?_
  refine mjq_bi (v := (119 : Int32)) D_225_809 rfl ?_
  refine mjq_bi (v := (104 : Int32)) D_225_811 rfl ?_
  refine mjq_bi (v := (101 : Int32)) D_225_813 rfl ?_
  refine mjq_bi (v := (114 : Int32)) D_225_815 rfl ?_
  refine mjq_bi (v := (101 : Int32)) D_225_817 rfl ?_
  refine mjq_ic (v := (0 : Int32)) D_225_819 rfl ?_
  refine mjq_vN (As := [.int (3 : Int32), .int (119 : Int32), .int (104 : Int32), .int (101 : Int32), .int (114 : Int32), .int (101 : Int32), .int (0 : Int32)]) (rest := []) D_225_820 mr_12_290 V_226 rfl rfl rfl hR (Nat.le_refl _) h1 h2 h (fun  hp3 h => ?_)
  refine mjr_aload_n (x := l0) D_225_823 rfl ?_
  refine mjq_ic (v := (4 : Int32)) D_225_824 rfl ?_
  refine mjq_bi (v := (105 : Int32)) D_225_825 rfl ?_
  refine mjq_bi (v := (110 : Int32)) D_225_827 rfl ?_
  refine mjq_ic (v := (0 : Int32)) D_225_829 rfl ?_
  refine mjq_ic (v := (0 : Int32)) D_225_830 rfl ?_
  refine mjq_ic (v := (0 : Int32)) D_225_831 rfl ?_
  refine mjq_ic (v := (0 : Int32)) D_225_832 rfl ?_
  refine mjq_vN (As := [.int (4 : Int32), .int (105 : Int32), .int (110 : Int32), .int (0 : Int32), .int (0 : Int32), .int (0 : Int32), .int (0 : Int32)]) (rest := []) D_225_833 mr_12_290 V_226 rfl rfl rfl hR (Nat.le_refl _) h1 h2 h (fun  hp4 h => ?_)
  refine mjr_aload_n (x := l0) D_225_836 rfl ?_
  refine mjq_ic (v := (5 : Int32)) D_225_837 rfl ?_
  refine mjq_bi (v := (109 : Int32)) D_225_838 rfl ?_
  refine mjq_bi (v := (97 : Int32)) D_225_840 rfl ?_
  refine mjq_bi (v := (105 : Int32)) D_225_842 rfl ?_
  refine mjq_bi (v := (110 : Int32)) D_225_844 rfl ?_
  refine mjq_ic (v := (0 : Int32)) D_225_846 rfl ?_
  refine mjq_ic (v := (0 : Int32)) D_225_847 rfl ?_
  refine mjq_vN (As := [.int (5 : Int32), .int (109 : Int32), .int (97 : Int32), .int (105 : Int32), .int (110 : Int32), .int (0 : Int32), .int (0 : Int32)]) (rest := []) D_225_848 mr_12_290 V_226 rfl rfl rfl hR (Nat.le_refl _) h1 h2 h (fun  hp5 h => ?_)
  refine mjr_aload_n (x := l0) D_225_851 rfl ?_
  refine mjq_bi (v := (6 : Int32)) D_225_852 rfl ?_
  refine mjq_bi (v := (105 : Int32)) D_225_854 rfl ?_
  refine mjq_bi (v := (110 : Int32)) D_225_856 rfl ?_
  refine mjq_bi (v := (116 : Int32)) D_225_858 rfl ?_
  refine mjq_ic (v := (0 : Int32)) D_225_860 rfl ?_
  refine mjq_ic (v := (0 : Int32)) D_225_861 rfl ?_
  refine mjq_ic (v := (0 : Int32)) D_225_862 rfl ?_
  refine mjq_vN (As := [.int (6 : Int32), .int (105 : Int32), .int (110 : Int32), .int (116 : Int32), .int (0 : Int32), .int (0 : Int32), .int (0 : Int32)]) (rest := []) D_225_863 mr_12_290 V_226 rfl rfl rfl hR (Nat.le_refl _) h1 h2 h (fun  hp6 h => ?_)
  refine mjr_aload_n (x := l0) D_225_866 rfl ?_
  refine mjq_bi (v := (7 : Int32)) D_225_867 rfl ?_
  refine mjq_bi (v := (110 : Int32)) D_225_869 rfl ?_
  refine mjq_bi (v := (117 : Int32)) D_225_871 rfl ?_
  refine mjq_bi (v := (108 : Int32)) D_225_873 rfl ?_
  refine mjq_bi (v := (108 : Int32)) D_225_875 rfl ?_
  refine mjq_ic (v := (0 : Int32)) D_225_877 rfl ?_
  refine mjq_ic (v := (0 : Int32)) D_225_878 rfl ?_
  refine mjq_vN (As := [.int (7 : Int32), .int (110 : Int32), .int (117 : Int32), .int (108 : Int32), .int (108 : Int32), .int (0 : Int32), .int (0 : Int32)]) (rest := []) D_225_879 mr_12_290 V_226 rfl rfl rfl hR (Nat.le_refl _) h1 h2 h (fun  hp7 h => ?_)
  refine mjr_aload_n (x := l0) D_225_882 rfl ?_
  refine mjq_bi (v := (8 : Int32)) D_225_883 rfl ?_
  refine mjq_bi (v := (116 : Int32)) D_225_885 rfl ?_
  refine mjq_bi (v := (104 : Int32)) D_225_887 rfl ?_
  refine mjq_bi (v := (105 : Int32)) D_225_889 rfl ?_
  refine mjq_bi (v := (115 : Int32)) D_225_891 rfl ?_
  refine mjq_ic (v := (0 : Int32)) D_225_893 rfl ?_
  refine mjq_ic (v := (0 : Int32)) D_225_894 rfl ?_
  refine mjq_vN (As := [.int (8 : Int32), .int (116 : Int32), .int (104 : Int32), .int (105 : Int32), .int (115 : Int32), .int (0 : Int32), .int (0 : Int32)]) (rest := []) D_225_895 mr_12_290 V_226 rfl rfl rfl hR (Nat.le_refl _) h1 h2 h (fun  hp8 h => ?_)
  refine mjr_aload_n (x := l0) D_225_898 rfl ?_
  refine mjq_bi (v := (9 : Int32)) D_225_899 rfl ?_
  refine mjq_bi (v := (119 : Int32)) D_225_901 rfl ?_
  refine mjq_bi (v := (111 : Int32)) D_225_903 rfl ?_
  refine mjq_bi (v := (114 : Int32)) D_225_905 rfl ?_
  refine mjq_bi (v := (108 : Int32)) D_225_907 rfl ?_
  refine mjq_bi (v := (100 : Int32)) D_225_909 rfl ?_
  refine mjq_ic (v := (0 : Int32)) D_225_911 rfl ?_
  refine mjq_vN (As := [.int (9 : Int32), .int (119 : Int32), .int (111 : Int32), .int (114 : Int32), .int (108 : Int32), .int (100 : Int32), .int (0 : Int32)]) (rest := []) D_225_912 mr_12_290 V_226 rfl rfl rfl hR (Nat.le_refl _) h1 h2 h (fun  hp9 h => ?_)
  refine mjr_aload_n (x := l0) D_225_915 rfl ?_
  refine mjq_bi (v := (10 : Int32)) D_225_916 rfl ?_
  refine mjq_bi (v := (110 : Int32)) D_225_918 rfl ?_
  refine mjq_bi (v := (101 : Int32)) D_225_920 rfl ?_
  refine mjq_bi (v := (119 : Int32)) D_225_922 rfl ?_
  refine mjq_ic (v := (0 : Int32)) D_225_924 rfl ?_
  refine mjq_ic (v := (0 : Int32)) D_225_925 rfl ?_
  refine mjq_ic (v := (0 : Int32)) D_225_926 rfl ?_
  refine mjq_vN (As := [.int (10 : Int32), .int (110 : Int32), .int (101 : Int32), .int (119 : Int32), .int (0 : Int32), .int (0 : Int32), .int (0 : Int32)]) (rest := []) D_225_927 mr_12_290 V_226 rfl rfl rfl hR (Nat.le_refl _) h1 h2 h (fun  hp10 h => ?_)
  refine mjr_aload_n (x := l0) D_225_930 rfl ?_
  refine mjq_bi (v := (11 : Int32)) D_225_931 rfl ?_
  refine mjq_bi (v := (105 : Int32)) D_225_933 rfl ?_
  refine mjq_bi (v := (102 : Int32)) D_225_935 rfl ?_
  refine mjq_ic (v := (0 : Int32)) D_225_937 rfl ?_
  refine mjq_ic (v := (0 : Int32)) D_225_938 rfl ?_
  refine mjq_ic (v := (0 : Int32)) D_225_939 rfl ?_
  refine mjq_ic (v := (0 : Int32)) D_225_940 rfl ?_
  refine mjq_vN (As := [.int (11 : Int32), .int (105 : Int32), .int (102 : Int32), .int (0 : Int32), .int (0 : Int32), .int (0 : Int32), .int (0 : Int32)]) (rest := []) D_225_941 mr_12_290 V_226 rfl rfl rfl hR (Nat.le_refl _) h1 h2 h (fun  hp11 h => ?_)
  refine mjr_aload_n (x := l0) D_225_944 rfl ?_
  refine mjq_bi (v := (12 : Int32)) D_225_945 rfl ?_
  refine mjq_bi (v := (101 : Int32)) D_225_947 rfl ?_
  refine mjq_bi (v := (108 : Int32)) D_225_949 rfl ?_
  refine mjq_bi (v := (115 : Int32)) D_225_951 rfl ?_
  refine mjq_bi (v := (101 : Int32)) D_225_953 rfl ?_
  refine mjq_ic (v := (0 : Int32)) D_225_955 rfl ?_
  refine mjq_ic (v := (0 : Int32)) D_225_956 rfl ?_
  refine mjq_vN (As := [.int (12 : Int32), .int (101 : Int32), .int (108 : Int32), .int (115 : Int32), .int (101 : Int32), .int (0 : Int32), .int (0 : Int32)]) (rest := []) D_225_957 mr_12_290 V_226 rfl rfl rfl hR (Nat.le_refl _) h1 h2 h (fun  hp12 h => ?_)
  refine mjr_aload_n (x := l0) D_225_960 rfl ?_
  refine mjq_bi (v := (13 : Int32)) D_225_961 rfl ?_
  refine mjq_bi (v := (119 : Int32)) D_225_963 rfl ?_
  refine mjq_bi (v := (104 : Int32)) D_225_965 rfl ?_
  refine mjq_bi (v := (105 : Int32)) D_225_967 rfl ?_
  refine mjq_bi (v := (108 : Int32)) D_225_969 rfl ?_
  refine mjq_bi (v := (101 : Int32)) D_225_971 rfl ?_
  refine mjq_ic (v := (0 : Int32)) D_225_973 rfl ?_
  refine mjq_vN (As := [.int (13 : Int32), .int (119 : Int32), .int (104 : Int32), .int (105 : Int32), .int (108 : Int32), .int (101 : Int32), .int (0 : Int32)]) (rest := []) D_225_974 mr_12_290 V_226 rfl rfl rfl hR (Nat.le_refl _) h1 h2 h (fun  hp13 h => ?_)
  refine mjr_aload_n (x := l0) D_225_977 rfl ?_
  refine mjq_bi (v := (14 : Int32)) D_225_978 rfl ?_
  refine mjq_bi (v := (114 : Int32)) D_225_980 rfl ?_
  refine mjq_bi (v := (101 : Int32)) D_225_982 rfl ?_
  refine mjq_bi (v := (116 : Int32)) D_225_984 rfl ?_
  refine mjq_bi (v := (117 : Int32)) D_225_986 rfl ?_
  refine mjq_bi (v := (114 : Int32)) D_225_988 rfl ?_
  refine mjq_bi (v := (110 : Int32)) D_225_990 rfl ?_
  refine mjq_vN (As := [.int (14 : Int32), .int (114 : Int32), .int (101 : Int32), .int (116 : Int32), .int (117 : Int32), .int (114 : Int32), .int (110 : Int32)]) (rest := []) D_225_992 mr_12_290 V_226 rfl rfl rfl hR (Nat.le_refl _) h1 h2 h (fun  hp14 h => ?_)
  refine mjr_aload_n (x := l0) D_225_995 rfl ?_
  refine mjq_bi (v := (15 : Int32)) D_225_996 rfl ?_
  refine mjq_bi (v := (115 : Int32)) D_225_998 rfl ?_
  refine mjq_bi (v := (97 : Int32)) D_225_1000 rfl ?_
  refine mjq_bi (v := (121 : Int32)) D_225_1002 rfl ?_
  refine mjq_ic (v := (0 : Int32)) D_225_1004 rfl ?_
  refine mjq_ic (v := (0 : Int32)) D_225_1005 rfl ?_
  refine mjq_ic (v := (0 : Int32)) D_225_1006 rfl ?_
  refine mjq_vN (As := [.int (15 : Int32), .int (115 : Int32), .int (97 : Int32), .int (121 : Int32), .int (0 : Int32), .int (0 : Int32), .int (0 : Int32)]) (rest := []) D_225_1007 mr_12_290 V_226 rfl rfl rfl hR (Nat.le_refl _) h1 h2 h (fun  hp15 h => ?_)
  refine mjr_aload_n (x := l0) D_225_1010 rfl ?_
  refine mjq_bi (v := (16 : Int32)) D_225_1011 rfl ?_
  refine mjq_bi (v := (97 : Int32)) D_225_1013 rfl ?_
  refine mjq_bi (v := (115 : Int32)) D_225_1015 rfl ?_
  refine mjq_ic (v := (0 : Int32)) D_225_1017 rfl ?_
  refine mjq_ic (v := (0 : Int32)) D_225_1018 rfl ?_
  refine mjq_ic (v := (0 : Int32)) D_225_1019 rfl ?_
  refine mjq_ic (v := (0 : Int32)) D_225_1020 rfl ?_
  refine mjq_vN (As := [.int (16 : Int32), .int (97 : Int32), .int (115 : Int32), .int (0 : Int32), .int (0 : Int32), .int (0 : Int32), .int (0 : Int32)]) (rest := []) D_225_1021 mr_12_290 V_226 rfl rfl rfl hR (Nat.le_refl _) h1 h2 h (fun  hp16 h => ?_)
  exact mjq_nret D_225_1024 rfl h1 h2 h
def J_226 : mjI := (⟨"OwnerHeapModel", "keep", "(IIIIIII)V"⟩, 12, prog_14_method_4_code, 10, none, 7, false)
theorem Ja_226 : mjMt 226 = some J_226 := by rfl
theorem D_226_0 : decode J_226.2.2.1 0 = .ok (.lconst 0, 1) := by decide +kernel
theorem D_226_1 : decode J_226.2.2.1 1 = .ok (.iload_n 2, 1) := dzq_28 (by decide +kernel)
theorem D_226_2 : decode J_226.2.2.1 2 = .ok (.invokestatic 300, 3) := dzq_184 (by decide +kernel)
theorem D_226_5 : decode J_226.2.2.1 5 = .ok (.iload_n 3, 1) := dzq_29 (by decide +kernel)
theorem D_226_6 : decode J_226.2.2.1 6 = .ok (.invokestatic 300, 3) := dzq_184 (by decide +kernel)
theorem D_226_9 : decode J_226.2.2.1 9 = .ok (.iload 4, 2) := dzq_21 (by decide +kernel)
theorem D_226_11 : decode J_226.2.2.1 11 = .ok (.invokestatic 300, 3) := dzq_184 (by decide +kernel)
theorem D_226_14 : decode J_226.2.2.1 14 = .ok (.iload 5, 2) := dzq_21 (by decide +kernel)
theorem D_226_16 : decode J_226.2.2.1 16 = .ok (.invokestatic 300, 3) := dzq_184 (by decide +kernel)
theorem D_226_19 : decode J_226.2.2.1 19 = .ok (.iload 6, 2) := dzq_21 (by decide +kernel)
theorem D_226_21 : decode J_226.2.2.1 21 = .ok (.invokestatic 300, 3) := dzq_184 (by decide +kernel)
theorem D_226_24 : decode J_226.2.2.1 24 = .ok (.iload 7, 2) := dzq_21 (by decide +kernel)
theorem D_226_26 : decode J_226.2.2.1 26 = .ok (.invokestatic 300, 3) := dzq_184 (by decide +kernel)
theorem D_226_29 : decode J_226.2.2.1 29 = .ok (.lstore 8, 2) := by decide +kernel
theorem D_226_31 : decode J_226.2.2.1 31 = .ok (.aload_n 0, 1) := dzq_42 (by decide +kernel)
theorem D_226_32 : decode J_226.2.2.1 32 = .ok (.getfield 13, 3) := dzq_180 (by decide +kernel)
theorem D_226_35 : decode J_226.2.2.1 35 = .ok (.iload_n 1, 1) := dzq_27 (by decide +kernel)
theorem D_226_36 : decode J_226.2.2.1 36 = .ok (.lload 8, 2) := by decide +kernel
theorem D_226_38 : decode J_226.2.2.1 38 = .ok (.lastore, 1) := by decide +kernel
theorem D_226_39 : decode J_226.2.2.1 39 = .ok (.return_, 1) := dzq_177 (by decide +kernel)
def P_226_0 (X : mjX) (d C S kc ks : Nat) (k : Nat → Int32 → Int32 → Int32 → Int32 → Int32 → Int32 → Int32 → mjH → mjU) : Prop := ∀ (l0 : Nat) (l1 : Int32) (l2 : Int32) (l3 : Int32) (l4 : Int32) (l5 : Int32) (l6 : Int32) (l7 : Int32) (hp : mjH) (q : Option Value × mjH), k l0 l1 l2 l3 l4 l5 l6 l7 hp = some q → mjG X d C S J_226 (mjEq q) 0 [some (.ref l0), some (.int l1), some (.int l2), some (.int l3), some (.int l4), some (.int l5), some (.int l6), some (.int l7), none, none] [] hp kc ks
noncomputable def b_226_0 (R : mjR) (l0 : Nat) (l1 : Int32) (l2 : Int32) (l3 : Int32) (l4 : Int32) (l5 : Int32) (l6 : Int32) (l7 : Int32) (hp : mjH) : mjU := bL (R 227 [.long (0 : Int64), .int l2] hp) (fun v1 hp2 => bL (R 227 [.long v1, .int l3] hp2) (fun v3 hp4 => bL (R 227 [.long v3, .int l4] hp4) (fun v5 hp6 => bL (R 227 [.long v5, .int l5] hp6) (fun v7 hp8 => bL (R 227 [.long v7, .int l6] hp8) (fun v9 hp10 => bL (R 227 [.long v9, .int l7] hp10) (fun v11 hp12 => gR hp12 l0 12 8 (fun v13 => sL hp12 v13 l1 v11 (fun hp14 => some (none, hp14)))))))))
theorem t_226_0 {X : mjX} {d C S kc ks : Nat} {R : mjR} (hR : mjC R d) (h1 : kc ≤ C) (h2 : ks ≤ S) : P_226_0 X (d + 1) C S kc ks (b_226_0 R) := by
  intro l0 l1 l2 l3 l4 l5 l6 l7 hp q h
  unfold b_226_0 at h
  refine mjq_lc (v := (0 : Int64)) D_226_0 rfl ?_
  refine mjr_iload_n (x := l2) D_226_1 rfl ?_
  refine mjq_scL (As := [.long (0 : Int64), .int l2]) (rest := []) D_226_2 mr_12_300 V_227 rfl rfl rfl hR (Nat.le_refl _) h1 h2 h (fun v1 hp2 h => ?_)
  refine mjr_iload_n (x := l3) D_226_5 rfl ?_
  refine mjq_scL (As := [.long v1, .int l3]) (rest := []) D_226_6 mr_12_300 V_227 rfl rfl rfl hR (Nat.le_refl _) h1 h2 h (fun v3 hp4 h => ?_)
  refine mjr_iload (x := l4) D_226_9 rfl ?_
  refine mjq_scL (As := [.long v3, .int l4]) (rest := []) D_226_11 mr_12_300 V_227 rfl rfl rfl hR (Nat.le_refl _) h1 h2 h (fun v5 hp6 h => ?_)
  refine mjr_iload (x := l5) D_226_14 rfl ?_
  refine mjq_scL (As := [.long v5, .int l5]) (rest := []) D_226_16 mr_12_300 V_227 rfl rfl rfl hR (Nat.le_refl _) h1 h2 h (fun v7 hp8 h => ?_)
  refine mjr_iload (x := l6) D_226_19 rfl ?_
  refine mjq_scL (As := [.long v7, .int l6]) (rest := []) D_226_21 mr_12_300 V_227 rfl rfl rfl hR (Nat.le_refl _) h1 h2 h (fun v9 hp10 h => ?_)
  refine mjr_iload (x := l7) D_226_24 rfl ?_
  refine mjq_scL (As := [.long v9, .int l7]) (rest := []) D_226_26 mr_12_300 V_227 rfl rfl rfl hR (Nat.le_refl _) h1 h2 h (fun v11 hp12 h => ?_)
  refine mjq_lstore (lo' := [some (.ref l0), some (.int l1), some (.int l2), some (.int l3), some (.int l4), some (.int l5), some (.int l6), some (.int l7), some (.long v11), none]) D_226_29 (Nat.le_of_ble_eq_true rfl) rfl ?_
  refine mjr_aload_n (x := l0) D_226_31 rfl ?_
  refine mjq_gR D_226_32 fr_12_13 h (fun v13 h => ?_)
  refine mjr_iload_n (x := l1) D_226_35 rfl ?_
  refine mjr_lload (x := v11) D_226_36 rfl ?_
  refine mjq_sL D_226_38 h (fun hp14 h => ?_)
  exact mjq_nret D_226_39 rfl h1 h2 h
noncomputable def f_226 (R : mjR) (a0 : Nat) (a1 : Int32) (a2 : Int32) (a3 : Int32) (a4 : Int32) (a5 : Int32) (a6 : Int32) (a7 : Int32) (hp : mjH) : mjU := b_226_0 R a0 a1 a2 a3 a4 a5 a6 a7 hp
theorem c_226 {R : mjR} {d : Nat} (hR : mjC R d) {a0 : Nat} {a1 : Int32} {a2 : Int32} {a3 : Int32} {a4 : Int32} {a5 : Int32} {a6 : Int32} {a7 : Int32} {hp : mjH} {q : Option Value × mjH} (h : f_226 R a0 a1 a2 a3 a4 a5 a6 a7 hp = some q) : mjM (d + 1) 0 0 226 [.ref a0, .int a1, .int a2, .int a3, .int a4, .int a5, .int a6, .int a7] hp (mjEq q) :=
  mjM_of Ja_226 (Nat.le_of_ble_eq_true rfl) (mjG.fg (lo' := [some (.ref a0), some (.int a1), some (.int a2), some (.int a3), some (.int a4), some (.int a5), some (.int a6), some (.int a7), none, none]) (And.intro rfl (And.intro rfl (And.intro rfl (And.intro rfl (And.intro rfl (And.intro rfl (And.intro rfl (And.intro rfl True.intro)))))))) ((t_226_0 hR (Nat.le_refl 0) (Nat.le_refl 0)) a0 a1 a2 a3 a4 a5 a6 a7 hp q h))
def J_227 : mjI := (⟨"OwnerHeapModel", "longer", "(JI)J"⟩, 12, prog_14_method_3_code, 3, (some .long), 2, true)
theorem Ja_227 : mjMt 227 = some J_227 := by rfl
theorem D_227_0 : decode J_227.2.2.1 0 = .ok (.iload_n 2, 1) := dzq_28 (by decide +kernel)
theorem D_227_1 : decode J_227.2.2.1 1 = .ok (.invokestatic 294, 3) := dzq_184 (by decide +kernel)
theorem D_227_4 : decode J_227.2.2.1 4 = .ok (.ifCond .ne 7, 3) := dzq_154 (by decide +kernel)
theorem D_227_7 : decode J_227.2.2.1 7 = .ok (.lload_n 0, 1) := dzq_30 (by decide +kernel)
theorem D_227_8 : decode J_227.2.2.1 8 = .ok (.goto 14, 3) := dzq_167 (by decide +kernel)
theorem D_227_11 : decode J_227.2.2.1 11 = .ok (.ldc2_w 298, 3) := by decide +kernel
theorem D_227_14 : decode J_227.2.2.1 14 = .ok (.lload_n 0, 1) := dzq_30 (by decide +kernel)
theorem D_227_15 : decode J_227.2.2.1 15 = .ok (.lmul, 1) := by decide +kernel
theorem D_227_16 : decode J_227.2.2.1 16 = .ok (.iload_n 2, 1) := dzq_28 (by decide +kernel)
theorem D_227_17 : decode J_227.2.2.1 17 = .ok (.invokestatic 294, 3) := dzq_184 (by decide +kernel)
theorem D_227_20 : decode J_227.2.2.1 20 = .ok (.i2l, 1) := by decide +kernel
theorem D_227_21 : decode J_227.2.2.1 21 = .ok (.ladd, 1) := by decide +kernel
theorem D_227_22 : decode J_227.2.2.1 22 = .ok (.lreturn, 1) := by decide +kernel
def P_227_0 (X : mjX) (d C S kc ks : Nat) (k : Int64 → Int32 → mjH → mjU) : Prop := ∀ (l0 : Int64) (l2 : Int32) (hp : mjH) (q : Option Value × mjH), k l0 l2 hp = some q → mjG X d C S J_227 (mjEq q) 0 [some (.long l0), none, some (.int l2)] [] hp kc ks
noncomputable def b_227_0 (R : mjR) (l0 : Int64) (l2 : Int32) (hp : mjH) : mjU := bI (R 228 [.int l2] hp) (fun v1 hp2 => (if v1 = 0 then some (some (.long l0), hp2) else bI (R 228 [.int l2] hp2) (fun v3 hp4 => some (some (.long (((64 : Int64) * l0) + (v3).toInt64)), hp4))))
theorem t_227_0 {X : mjX} {d C S kc ks : Nat} {R : mjR} (hR : mjC R d) (h1 : kc ≤ C) (h2 : ks ≤ S) : P_227_0 X (d + 1) C S kc ks (b_227_0 R) := by
  intro l0 l2 hp q h
  unfold b_227_0 at h
  refine mjr_iload_n (x := l2) D_227_0 rfl ?_
  refine mjq_scI (As := [.int l2]) (rest := []) D_227_1 mr_12_294 V_228 rfl rfl rfl hR (Nat.le_refl _) h1 h2 h (fun v1 hp2 h => ?_)
  refine mjq_if_ne (tgt := 11) D_227_4 rfl h (fun h => ?_) (fun h => ?_)
  · refine mjr_ldc2 (v := (64 : Int64)) D_227_11 (by decide +kernel) ?_
    refine mjr_lload_n (x := l0) D_227_14 rfl ?_
    refine mjr_lmul D_227_15 ?_
    refine mjr_iload_n (x := l2) D_227_16 rfl ?_
    refine mjq_scI (As := [.int l2]) (rest := [.long ((64 : Int64) * l0)]) D_227_17 mr_12_294 V_228 rfl rfl rfl hR (Nat.le_refl _) h1 h2 h (fun v3 hp4 h => ?_)
    refine mjr_i2l D_227_20 ?_
    refine mjr_ladd D_227_21 ?_
    exact mjq_lret D_227_22 rfl h1 h2 h
  · refine mjr_lload_n (x := l0) D_227_7 rfl ?_
    refine mjr_goto (tgt := 22) D_227_8 rfl ?_
    exact mjq_lret D_227_22 rfl h1 h2 h
noncomputable def f_227 (R : mjR) (a0 : Int64) (a1 : Int32) (hp : mjH) : mjU := b_227_0 R a0 a1 hp
theorem c_227 {R : mjR} {d : Nat} (hR : mjC R d) {a0 : Int64} {a1 : Int32} {hp : mjH} {q : Option Value × mjH} (h : f_227 R a0 a1 hp = some q) : mjM (d + 1) 0 0 227 [.long a0, .int a1] hp (mjEq q) :=
  mjM_of Ja_227 (Nat.le_of_ble_eq_true rfl) (mjG.fg (lo' := [some (.long a0), none, some (.int a1)]) (And.intro rfl (And.intro rfl True.intro)) ((t_227_0 hR (Nat.le_refl 0) (Nat.le_refl 0)) a0 a1 hp q h))
def J_228 : mjI := (⟨"OwnerHeapModel", "code", "(I)I"⟩, 12, prog_14_method_2_code, 1, (some .int), 1, true)
theorem Ja_228 : mjMt 228 = some J_228 := by rfl
theorem D_228_0 : decode J_228.2.2.1 0 = .ok (.iload_n 0, 1) := dzq_26 (by decide +kernel)
theorem D_228_1 : decode J_228.2.2.1 1 = .ok (.bipush 97, 2) := dzq_16 (by decide +kernel)
theorem D_228_3 : decode J_228.2.2.1 3 = .ok (.if_icmp .lt 18, 3) := dzq_161 (by decide +kernel)
theorem D_228_6 : decode J_228.2.2.1 6 = .ok (.iload_n 0, 1) := dzq_26 (by decide +kernel)
theorem D_228_7 : decode J_228.2.2.1 7 = .ok (.bipush 122, 2) := dzq_16 (by decide +kernel)
theorem D_228_9 : decode J_228.2.2.1 9 = .ok (.if_icmp .gt 12, 3) := dzq_163 (by decide +kernel)
theorem D_228_12 : decode J_228.2.2.1 12 = .ok (.iload_n 0, 1) := dzq_26 (by decide +kernel)
theorem D_228_13 : decode J_228.2.2.1 13 = .ok (.bipush 97, 2) := dzq_16 (by decide +kernel)
theorem D_228_15 : decode J_228.2.2.1 15 = .ok (.isub, 1) := dzq_100 (by decide +kernel)
theorem D_228_16 : decode J_228.2.2.1 16 = .ok (.iconst 1, 1) := dzq_4 (by decide +kernel)
theorem D_228_17 : decode J_228.2.2.1 17 = .ok (.iadd, 1) := dzq_96 (by decide +kernel)
theorem D_228_18 : decode J_228.2.2.1 18 = .ok (.goto 48, 3) := dzq_167 (by decide +kernel)
theorem D_228_21 : decode J_228.2.2.1 21 = .ok (.iload_n 0, 1) := dzq_26 (by decide +kernel)
theorem D_228_22 : decode J_228.2.2.1 22 = .ok (.bipush 65, 2) := dzq_16 (by decide +kernel)
theorem D_228_24 : decode J_228.2.2.1 24 = .ok (.if_icmp .lt 19, 3) := dzq_161 (by decide +kernel)
theorem D_228_27 : decode J_228.2.2.1 27 = .ok (.iload_n 0, 1) := dzq_26 (by decide +kernel)
theorem D_228_28 : decode J_228.2.2.1 28 = .ok (.bipush 90, 2) := dzq_16 (by decide +kernel)
theorem D_228_30 : decode J_228.2.2.1 30 = .ok (.if_icmp .gt 13, 3) := dzq_163 (by decide +kernel)
theorem D_228_33 : decode J_228.2.2.1 33 = .ok (.iload_n 0, 1) := dzq_26 (by decide +kernel)
theorem D_228_34 : decode J_228.2.2.1 34 = .ok (.bipush 65, 2) := dzq_16 (by decide +kernel)
theorem D_228_36 : decode J_228.2.2.1 36 = .ok (.isub, 1) := dzq_100 (by decide +kernel)
theorem D_228_37 : decode J_228.2.2.1 37 = .ok (.bipush 27, 2) := dzq_16 (by decide +kernel)
theorem D_228_39 : decode J_228.2.2.1 39 = .ok (.iadd, 1) := dzq_96 (by decide +kernel)
theorem D_228_40 : decode J_228.2.2.1 40 = .ok (.goto 26, 3) := dzq_167 (by decide +kernel)
theorem D_228_43 : decode J_228.2.2.1 43 = .ok (.iload_n 0, 1) := dzq_26 (by decide +kernel)
theorem D_228_44 : decode J_228.2.2.1 44 = .ok (.bipush 48, 2) := dzq_16 (by decide +kernel)
theorem D_228_46 : decode J_228.2.2.1 46 = .ok (.if_icmp .lt 19, 3) := dzq_161 (by decide +kernel)
theorem D_228_49 : decode J_228.2.2.1 49 = .ok (.iload_n 0, 1) := dzq_26 (by decide +kernel)
theorem D_228_50 : decode J_228.2.2.1 50 = .ok (.bipush 57, 2) := dzq_16 (by decide +kernel)
theorem D_228_52 : decode J_228.2.2.1 52 = .ok (.if_icmp .gt 13, 3) := dzq_163 (by decide +kernel)
theorem D_228_55 : decode J_228.2.2.1 55 = .ok (.iload_n 0, 1) := dzq_26 (by decide +kernel)
theorem D_228_56 : decode J_228.2.2.1 56 = .ok (.bipush 48, 2) := dzq_16 (by decide +kernel)
theorem D_228_58 : decode J_228.2.2.1 58 = .ok (.isub, 1) := dzq_100 (by decide +kernel)
theorem D_228_59 : decode J_228.2.2.1 59 = .ok (.bipush 53, 2) := dzq_16 (by decide +kernel)
theorem D_228_61 : decode J_228.2.2.1 61 = .ok (.iadd, 1) := dzq_96 (by decide +kernel)
theorem D_228_62 : decode J_228.2.2.1 62 = .ok (.goto 4, 3) := dzq_167 (by decide +kernel)
theorem D_228_65 : decode J_228.2.2.1 65 = .ok (.iconst 0, 1) := dzq_3 (by decide +kernel)
theorem D_228_66 : decode J_228.2.2.1 66 = .ok (.ireturn, 1) := dzq_172 (by decide +kernel)
def P_228_65 (X : mjX) (d C S kc ks : Nat) (k : mjH → mjU) : Prop := ∀  (hp : mjH) (q : Option Value × mjH), k  hp = some q → mjG X d C S J_228 (mjEq q) 65 [none] [] hp kc ks
def P_228_43 (X : mjX) (d C S kc ks : Nat) (k : Int32 → mjH → mjU) : Prop := ∀ (l0 : Int32) (hp : mjH) (q : Option Value × mjH), k l0 hp = some q → mjG X d C S J_228 (mjEq q) 43 [some (.int l0)] [] hp kc ks
def P_228_21 (X : mjX) (d C S kc ks : Nat) (k : Int32 → mjH → mjU) : Prop := ∀ (l0 : Int32) (hp : mjH) (q : Option Value × mjH), k l0 hp = some q → mjG X d C S J_228 (mjEq q) 21 [some (.int l0)] [] hp kc ks
def P_228_0 (X : mjX) (d C S kc ks : Nat) (k : Int32 → mjH → mjU) : Prop := ∀ (l0 : Int32) (hp : mjH) (q : Option Value × mjH), k l0 hp = some q → mjG X d C S J_228 (mjEq q) 0 [some (.int l0)] [] hp kc ks
noncomputable def b_228_65 (R : mjR)  (hp : mjH) : mjU := some (some (.int (0 : Int32)), hp)
theorem t_228_65 {X : mjX} {d C S kc ks : Nat} {R : mjR} (hR : mjC R d) (h1 : kc ≤ C) (h2 : ks ≤ S) : P_228_65 X (d + 1) C S kc ks (b_228_65 R) := by
  intro  hp q h
  unfold b_228_65 at h
  refine mjq_ic (v := (0 : Int32)) D_228_65 rfl ?_
  exact mjq_ret D_228_66 rfl h1 h2 h
noncomputable def b_228_43 (R : mjR) (l0 : Int32) (hp : mjH) : mjU := (if l0 < (48 : Int32) then b_228_65 R hp else (if (57 : Int32) < l0 then b_228_65 R hp else some (some (.int ((l0 - (48 : Int32)) + (53 : Int32))), hp)))
theorem t_228_43 {X : mjX} {d C S kc ks : Nat} {R : mjR} (hR : mjC R d) (h1 : kc ≤ C) (h2 : ks ≤ S) : P_228_43 X (d + 1) C S kc ks (b_228_43 R) := by
  intro l0 hp q h
  unfold b_228_43 at h
  refine mjr_iload_n (x := l0) D_228_43 rfl ?_
  refine mjq_bi (v := (48 : Int32)) D_228_44 rfl ?_
  refine mjq_icmp_lt (tgt := 65) D_228_46 rfl h (fun h => ?_) (fun h => ?_)
  · exact mjG.fg (lo' := [none]) True.intro ((t_228_65 hR h1 h2) _ _ h)
  · refine mjr_iload_n (x := l0) D_228_49 rfl ?_
    refine mjq_bi (v := (57 : Int32)) D_228_50 rfl ?_
    refine mjq_icmp_gt (tgt := 65) D_228_52 rfl h (fun h => ?_) (fun h => ?_)
    · exact mjG.fg (lo' := [none]) True.intro ((t_228_65 hR h1 h2) _ _ h)
    · refine mjr_iload_n (x := l0) D_228_55 rfl ?_
      refine mjq_bi (v := (48 : Int32)) D_228_56 rfl ?_
      refine mjr_isub D_228_58 ?_
      refine mjq_bi (v := (53 : Int32)) D_228_59 rfl ?_
      refine mjr_iadd D_228_61 ?_
      refine mjr_goto (tgt := 66) D_228_62 rfl ?_
      exact mjq_ret D_228_66 rfl h1 h2 h
noncomputable def b_228_21 (R : mjR) (l0 : Int32) (hp : mjH) : mjU := (if l0 < (65 : Int32) then b_228_43 R l0 hp else (if (90 : Int32) < l0 then b_228_43 R l0 hp else some (some (.int ((l0 - (65 : Int32)) + (27 : Int32))), hp)))
theorem t_228_21 {X : mjX} {d C S kc ks : Nat} {R : mjR} (hR : mjC R d) (h1 : kc ≤ C) (h2 : ks ≤ S) : P_228_21 X (d + 1) C S kc ks (b_228_21 R) := by
  intro l0 hp q h
  unfold b_228_21 at h
  refine mjr_iload_n (x := l0) D_228_21 rfl ?_
  refine mjq_bi (v := (65 : Int32)) D_228_22 rfl ?_
  refine mjq_icmp_lt (tgt := 43) D_228_24 rfl h (fun h => ?_) (fun h => ?_)
  · exact (t_228_43 hR h1 h2) _ _ _ h
  · refine mjr_iload_n (x := l0) D_228_27 rfl ?_
    refine mjq_bi (v := (90 : Int32)) D_228_28 rfl ?_
    refine mjq_icmp_gt (tgt := 43) D_228_30 rfl h (fun h => ?_) (fun h => ?_)
    · exact (t_228_43 hR h1 h2) _ _ _ h
    · refine mjr_iload_n (x := l0) D_228_33 rfl ?_
      refine mjq_bi (v := (65 : Int32)) D_228_34 rfl ?_
      refine mjr_isub D_228_36 ?_
      refine mjq_bi (v := (27 : Int32)) D_228_37 rfl ?_
      refine mjr_iadd D_228_39 ?_
      refine mjr_goto (tgt := 66) D_228_40 rfl ?_
      exact mjq_ret D_228_66 rfl h1 h2 h
noncomputable def b_228_0 (R : mjR) (l0 : Int32) (hp : mjH) : mjU := (if l0 < (97 : Int32) then b_228_21 R l0 hp else (if (122 : Int32) < l0 then b_228_21 R l0 hp else some (some (.int ((l0 - (97 : Int32)) + (1 : Int32))), hp)))
theorem t_228_0 {X : mjX} {d C S kc ks : Nat} {R : mjR} (hR : mjC R d) (h1 : kc ≤ C) (h2 : ks ≤ S) : P_228_0 X (d + 1) C S kc ks (b_228_0 R) := by
  intro l0 hp q h
  unfold b_228_0 at h
  refine mjr_iload_n (x := l0) D_228_0 rfl ?_
  refine mjq_bi (v := (97 : Int32)) D_228_1 rfl ?_
  refine mjq_icmp_lt (tgt := 21) D_228_3 rfl h (fun h => ?_) (fun h => ?_)
  · exact (t_228_21 hR h1 h2) _ _ _ h
  · refine mjr_iload_n (x := l0) D_228_6 rfl ?_
    refine mjq_bi (v := (122 : Int32)) D_228_7 rfl ?_
    refine mjq_icmp_gt (tgt := 21) D_228_9 rfl h (fun h => ?_) (fun h => ?_)
    · exact (t_228_21 hR h1 h2) _ _ _ h
    · refine mjr_iload_n (x := l0) D_228_12 rfl ?_
      refine mjq_bi (v := (97 : Int32)) D_228_13 rfl ?_
      refine mjr_isub D_228_15 ?_
      refine mjq_ic (v := (1 : Int32)) D_228_16 rfl ?_
      refine mjr_iadd D_228_17 ?_
      refine mjr_goto (tgt := 66) D_228_18 rfl ?_
      exact mjq_ret D_228_66 rfl h1 h2 h
noncomputable def f_228 (R : mjR) (a0 : Int32) (hp : mjH) : mjU := b_228_0 R a0 hp
theorem c_228 {R : mjR} {d : Nat} (hR : mjC R d) {a0 : Int32} {hp : mjH} {q : Option Value × mjH} (h : f_228 R a0 hp = some q) : mjM (d + 1) 0 0 228 [.int a0] hp (mjEq q) :=
  mjM_of Ja_228 (Nat.le_of_ble_eq_true rfl) (mjG.fg (lo' := [some (.int a0)]) (And.intro rfl True.intro) ((t_228_0 hR (Nat.le_refl 0) (Nat.le_refl 0)) a0 hp q h))
def J_229 : mjI := (⟨"OwnerHeapModel", "run", "(I)I"⟩, 12, prog_14_method_88_code, 5, (some .int), 1, false)
theorem Ja_229 : mjMt 229 = some J_229 := by rfl
theorem D_229_0 : decode J_229.2.2.1 0 = .ok (.aload_n 0, 1) := dzq_42 (by decide +kernel)
theorem D_229_1 : decode J_229.2.2.1 1 = .ok (.getfield 636, 3) := dzq_180 (by decide +kernel)
theorem D_229_4 : decode J_229.2.2.1 4 = .ok (.iconst 1, 1) := dzq_4 (by decide +kernel)
theorem D_229_5 : decode J_229.2.2.1 5 = .ok (.if_icmp .ne 15, 3) := dzq_160 (by decide +kernel)
theorem D_229_8 : decode J_229.2.2.1 8 = .ok (.iload_n 1, 1) := dzq_27 (by decide +kernel)
theorem D_229_9 : decode J_229.2.2.1 9 = .ok (.iconst 1, 1) := dzq_4 (by decide +kernel)
theorem D_229_10 : decode J_229.2.2.1 10 = .ok (.if_icmp .lt 10, 3) := dzq_161 (by decide +kernel)
theorem D_229_13 : decode J_229.2.2.1 13 = .ok (.iload_n 1, 1) := dzq_27 (by decide +kernel)
theorem D_229_14 : decode J_229.2.2.1 14 = .ok (.sipush 2000, 3) := dzq_17 (by decide +kernel)
theorem D_229_17 : decode J_229.2.2.1 17 = .ok (.if_icmp .le 5, 3) := dzq_164 (by decide +kernel)
theorem D_229_20 : decode J_229.2.2.1 20 = .ok (.iconst (-1), 1) := dzq_2 (by decide +kernel)
theorem D_229_21 : decode J_229.2.2.1 21 = .ok (.ireturn, 1) := dzq_172 (by decide +kernel)
theorem D_229_22 : decode J_229.2.2.1 22 = .ok (.iload_n 1, 1) := dzq_27 (by decide +kernel)
theorem D_229_23 : decode J_229.2.2.1 23 = .ok (.istore_n 2, 1) := dzq_61 (by decide +kernel)
theorem D_229_24 : decode J_229.2.2.1 24 = .ok (.aload_n 0, 1) := dzq_42 (by decide +kernel)
theorem D_229_25 : decode J_229.2.2.1 25 = .ok (.iconst 0, 1) := dzq_3 (by decide +kernel)
theorem D_229_26 : decode J_229.2.2.1 26 = .ok (.putfield 645, 3) := dzq_181 (by decide +kernel)
theorem D_229_29 : decode J_229.2.2.1 29 = .ok (.iconst 1, 1) := dzq_4 (by decide +kernel)
theorem D_229_30 : decode J_229.2.2.1 30 = .ok (.istore_n 3, 1) := dzq_62 (by decide +kernel)
theorem D_229_31 : decode J_229.2.2.1 31 = .ok (.iload_n 3, 1) := dzq_29 (by decide +kernel)
theorem D_229_32 : decode J_229.2.2.1 32 = .ok (.ifCond .eq 94, 3) := dzq_153 (by decide +kernel)
theorem D_229_35 : decode J_229.2.2.1 35 = .ok (.sipush 5000, 3) := dzq_17 (by decide +kernel)
theorem D_229_38 : decode J_229.2.2.1 38 = .ok (.aload_n 0, 1) := dzq_42 (by decide +kernel)
theorem D_229_39 : decode J_229.2.2.1 39 = .ok (.getfield 648, 3) := dzq_180 (by decide +kernel)
theorem D_229_42 : decode J_229.2.2.1 42 = .ok (.imul, 1) := dzq_104 (by decide +kernel)
theorem D_229_43 : decode J_229.2.2.1 43 = .ok (.aload_n 0, 1) := dzq_42 (by decide +kernel)
theorem D_229_44 : decode J_229.2.2.1 44 = .ok (.getfield 651, 3) := dzq_180 (by decide +kernel)
theorem D_229_47 : decode J_229.2.2.1 47 = .ok (.iadd, 1) := dzq_96 (by decide +kernel)
theorem D_229_48 : decode J_229.2.2.1 48 = .ok (.istore 4, 2) := dzq_54 (by decide +kernel)
theorem D_229_50 : decode J_229.2.2.1 50 = .ok (.aload_n 0, 1) := dzq_42 (by decide +kernel)
theorem D_229_51 : decode J_229.2.2.1 51 = .ok (.getfield 148, 3) := dzq_180 (by decide +kernel)
theorem D_229_54 : decode J_229.2.2.1 54 = .ok (.iload 4, 2) := dzq_21 (by decide +kernel)
theorem D_229_56 : decode J_229.2.2.1 56 = .ok (.iaload, 1) := dzq_46 (by decide +kernel)
theorem D_229_57 : decode J_229.2.2.1 57 = .ok (.invokestatic 654, 3) := dzq_184 (by decide +kernel)
theorem D_229_60 : decode J_229.2.2.1 60 = .ok (.ifCond .eq 33, 3) := dzq_153 (by decide +kernel)
theorem D_229_63 : decode J_229.2.2.1 63 = .ok (.iload_n 2, 1) := dzq_28 (by decide +kernel)
theorem D_229_64 : decode J_229.2.2.1 64 = .ok (.ifCond .le 7, 3) := dzq_158 (by decide +kernel)
theorem D_229_67 : decode J_229.2.2.1 67 = .ok (.iconst 1, 1) := dzq_4 (by decide +kernel)
theorem D_229_68 : decode J_229.2.2.1 68 = .ok (.goto 4, 3) := dzq_167 (by decide +kernel)
theorem D_229_71 : decode J_229.2.2.1 71 = .ok (.iconst 0, 1) := dzq_3 (by decide +kernel)
theorem D_229_72 : decode J_229.2.2.1 72 = .ok (.istore_n 3, 1) := dzq_62 (by decide +kernel)
theorem D_229_73 : decode J_229.2.2.1 73 = .ok (.iload_n 3, 1) := dzq_29 (by decide +kernel)
theorem D_229_74 : decode J_229.2.2.1 74 = .ok (.ifCond .ne 6, 3) := dzq_154 (by decide +kernel)
theorem D_229_77 : decode J_229.2.2.1 77 = .ok (.goto (-46), 3) := dzq_167 (by decide +kernel)
theorem D_229_80 : decode J_229.2.2.1 80 = .ok (.iinc 2 (-1), 3) := dzq_132 (by decide +kernel)
theorem D_229_83 : decode J_229.2.2.1 83 = .ok (.aload_n 0, 1) := dzq_42 (by decide +kernel)
theorem D_229_84 : decode J_229.2.2.1 84 = .ok (.dup, 1) := dzq_89 (by decide +kernel)
theorem D_229_85 : decode J_229.2.2.1 85 = .ok (.getfield 657, 3) := dzq_180 (by decide +kernel)
theorem D_229_88 : decode J_229.2.2.1 88 = .ok (.iconst 1, 1) := dzq_4 (by decide +kernel)
theorem D_229_89 : decode J_229.2.2.1 89 = .ok (.iadd, 1) := dzq_96 (by decide +kernel)
theorem D_229_90 : decode J_229.2.2.1 90 = .ok (.putfield 657, 3) := dzq_181 (by decide +kernel)
theorem D_229_93 : decode J_229.2.2.1 93 = .ok (.aload_n 0, 1) := dzq_42 (by decide +kernel)
theorem D_229_94 : decode J_229.2.2.1 94 = .ok (.dup, 1) := dzq_89 (by decide +kernel)
theorem D_229_95 : decode J_229.2.2.1 95 = .ok (.getfield 651, 3) := dzq_180 (by decide +kernel)
theorem D_229_98 : decode J_229.2.2.1 98 = .ok (.iconst 1, 1) := dzq_4 (by decide +kernel)
theorem D_229_99 : decode J_229.2.2.1 99 = .ok (.iadd, 1) := dzq_96 (by decide +kernel)
theorem D_229_100 : decode J_229.2.2.1 100 = .ok (.putfield 651, 3) := dzq_181 (by decide +kernel)
theorem D_229_103 : decode J_229.2.2.1 103 = .ok (.aload_n 0, 1) := dzq_42 (by decide +kernel)
theorem D_229_104 : decode J_229.2.2.1 104 = .ok (.iload 4, 2) := dzq_21 (by decide +kernel)
theorem D_229_106 : decode J_229.2.2.1 106 = .ok (.invokevirtual 660, 3) := dzq_182 (by decide +kernel)
theorem D_229_109 : decode J_229.2.2.1 109 = .ok (.aload_n 0, 1) := dzq_42 (by decide +kernel)
theorem D_229_110 : decode J_229.2.2.1 110 = .ok (.getfield 636, 3) := dzq_180 (by decide +kernel)
theorem D_229_113 : decode J_229.2.2.1 113 = .ok (.iconst 1, 1) := dzq_4 (by decide +kernel)
theorem D_229_114 : decode J_229.2.2.1 114 = .ok (.if_icmp .ne 7, 3) := dzq_160 (by decide +kernel)
theorem D_229_117 : decode J_229.2.2.1 117 = .ok (.iconst 1, 1) := dzq_4 (by decide +kernel)
theorem D_229_118 : decode J_229.2.2.1 118 = .ok (.goto 4, 3) := dzq_167 (by decide +kernel)
theorem D_229_121 : decode J_229.2.2.1 121 = .ok (.iconst 0, 1) := dzq_3 (by decide +kernel)
theorem D_229_122 : decode J_229.2.2.1 122 = .ok (.istore_n 3, 1) := dzq_62 (by decide +kernel)
theorem D_229_123 : decode J_229.2.2.1 123 = .ok (.goto (-92), 3) := dzq_167 (by decide +kernel)
theorem D_229_126 : decode J_229.2.2.1 126 = .ok (.aload_n 0, 1) := dzq_42 (by decide +kernel)
theorem D_229_127 : decode J_229.2.2.1 127 = .ok (.getfield 636, 3) := dzq_180 (by decide +kernel)
theorem D_229_130 : decode J_229.2.2.1 130 = .ok (.ireturn, 1) := dzq_172 (by decide +kernel)
def P_229_20 (X : mjX) (d C S kc ks : Nat) (k : mjH → mjU) : Prop := ∀  (hp : mjH) (q : Option Value × mjH), k  hp = some q → mjG X d C S J_229 (mjEq q) 20 [none, none, none, none, none] [] hp kc ks
def P_229_122 (X : mjX) (d C S kc ks : Nat) (k : Nat → Int32 → Int32 → mjH → mjU) : Prop := ∀ (l0 : Nat) (l2 : Int32) (s0 : Int32) (hp : mjH) (q : Option Value × mjH), k l0 l2 s0 hp = some q → mjG X d C S J_229 (mjEq q) 122 [some (.ref l0), none, some (.int l2), none, none] [.int s0] hp kc ks
def P_229_93 (X : mjX) (d C S kc ks : Nat) (k : Nat → Int32 → Int32 → mjH → mjU) : Prop := ∀ (l0 : Nat) (l2 : Int32) (l4 : Int32) (hp : mjH) (q : Option Value × mjH), k l0 l2 l4 hp = some q → mjG X d C S J_229 (mjEq q) 93 [some (.ref l0), none, some (.int l2), none, some (.int l4)] [] hp kc ks
def P_229_72 (X : mjX) (d C S kc ks : Nat) (k : Nat → Int32 → Int32 → Int32 → mjH → mjU) : Prop := ∀ (l0 : Nat) (l2 : Int32) (l4 : Int32) (s0 : Int32) (hp : mjH) (q : Option Value × mjH), k l0 l2 l4 s0 hp = some q → mjG X d C S J_229 (mjEq q) 72 [some (.ref l0), none, some (.int l2), none, some (.int l4)] [.int s0] hp kc ks
def P_229_31 (X : mjX) (d C S kc ks : Nat) (k : Nat → Int32 → Int32 → mjH → mjU) : Prop := ∀ (l0 : Nat) (l2 : Int32) (l3 : Int32) (hp : mjH) (q : Option Value × mjH), k l0 l2 l3 hp = some q → mjG X d C S J_229 (mjEq q) 31 [some (.ref l0), none, some (.int l2), some (.int l3), none] [] hp kc ks
def P_229_0 (X : mjX) (d C S kc ks : Nat) (k : Nat → Int32 → mjH → mjU) : Prop := ∀ (l0 : Nat) (l1 : Int32) (hp : mjH) (q : Option Value × mjH), k l0 l1 hp = some q → mjG X d C S J_229 (mjEq q) 0 [some (.ref l0), some (.int l1), none, none, none] [] hp kc ks
noncomputable def b_229_20 (R : mjR)  (hp : mjH) : mjU := some (some (.int (-1 : Int32)), hp)
theorem t_229_20 {X : mjX} {d C S kc ks : Nat} {R : mjR} (hR : mjC R d) (h1 : kc ≤ C) (h2 : ks ≤ S) : P_229_20 X (d + 1) C S kc ks (b_229_20 R) := by
  intro  hp q h
  unfold b_229_20 at h
  refine mjq_ic (v := (-1 : Int32)) D_229_20 rfl ?_
  exact mjq_ret D_229_21 rfl h1 h2 h
noncomputable def b_229_122 (R : mjR) (k31 : Nat → Int32 → Int32 → mjH → mjU) (l0 : Nat) (l2 : Int32) (s0 : Int32) (hp : mjH) : mjU := k31 l0 l2 s0 hp
theorem t_229_122 {X : mjX} {d C S kc ks : Nat} {R : mjR} (hR : mjC R d) (h1 : kc ≤ C) (h2 : ks ≤ S) {k31 : Nat → Int32 → Int32 → mjH → mjU} (hk31 : P_229_31 X (d + 1) C S kc ks k31) : P_229_122 X (d + 1) C S kc ks (b_229_122 R k31) := by
  intro l0 l2 s0 hp q h
  unfold b_229_122 at h
  refine mjq_istore_n (lo' := [some (.ref l0), none, some (.int l2), some (.int s0), none]) D_229_122 (Nat.le_of_ble_eq_true rfl) rfl ?_
  refine mjr_goto (tgt := 31) D_229_123 rfl ?_
  exact hk31 _ _ _ _ _ h
noncomputable def b_229_93 (R : mjR) (k31 : Nat → Int32 → Int32 → mjH → mjU) (l0 : Nat) (l2 : Int32) (l4 : Int32) (hp : mjH) : mjU := gI hp l0 12 119 (fun v1 => pI hp l0 12 119 (v1 + (1 : Int32)) (fun hp2 => rV hp2 l0 12 (bN (R 231 [.ref l0, .int l4] hp2) (fun  hp3 => gI hp3 l0 12 96 (fun v4 => (if v4 = (1 : Int32) then b_229_122 R k31 l0 l2 (1 : Int32) hp3 else b_229_122 R k31 l0 l2 (0 : Int32) hp3))))))
theorem t_229_93 {X : mjX} {d C S kc ks : Nat} {R : mjR} (hR : mjC R d) (h1 : kc ≤ C) (h2 : ks ≤ S) {k31 : Nat → Int32 → Int32 → mjH → mjU} (hk31 : P_229_31 X (d + 1) C S kc ks k31) : P_229_93 X (d + 1) C S kc ks (b_229_93 R k31) := by
  intro l0 l2 l4 hp q h
  unfold b_229_93 at h
  refine mjr_aload_n (x := l0) D_229_93 rfl ?_
  refine mjr_dup D_229_94 rfl ?_
  refine mjq_gI D_229_95 fr_12_651 h (fun v1 h => ?_)
  refine mjq_ic (v := (1 : Int32)) D_229_98 rfl ?_
  refine mjr_iadd D_229_99 ?_
  refine mjq_pI D_229_100 fr_12_651 rfl rfl h (fun hp2 h => ?_)
  refine mjr_aload_n (x := l0) D_229_103 rfl ?_
  refine mjr_iload (x := l4) D_229_104 rfl ?_
  refine mjq_vN (As := [.int l4]) (rest := []) D_229_106 mr_12_660 V_231 rfl rfl rfl hR (Nat.le_refl _) h1 h2 h (fun  hp3 h => ?_)
  refine mjr_aload_n (x := l0) D_229_109 rfl ?_
  refine mjq_gI D_229_110 fr_12_636 h (fun v4 h => ?_)
  refine mjq_ic (v := (1 : Int32)) D_229_113 rfl ?_
  refine mjq_icmp_ne (tgt := 121) D_229_114 rfl h (fun h => ?_) (fun h => ?_)
  · refine mjq_ic (v := (0 : Int32)) D_229_121 rfl ?_
    exact mjG.fg (lo' := [some (.ref l0), none, some (.int l2), none, none]) (And.intro rfl (And.intro rfl True.intro)) ((t_229_122 hR h1 h2 hk31) _ _ _ _ _ h)
  · refine mjq_ic (v := (1 : Int32)) D_229_117 rfl ?_
    refine mjr_goto (tgt := 122) D_229_118 rfl ?_
    exact mjG.fg (lo' := [some (.ref l0), none, some (.int l2), none, none]) (And.intro rfl (And.intro rfl True.intro)) ((t_229_122 hR h1 h2 hk31) _ _ _ _ _ h)
noncomputable def b_229_72 (R : mjR) (k31 : Nat → Int32 → Int32 → mjH → mjU) (l0 : Nat) (l2 : Int32) (l4 : Int32) (s0 : Int32) (hp : mjH) : mjU := (if s0 = 0 then k31 l0 l2 s0 hp else gI hp l0 12 100 (fun v1 => pI hp l0 12 100 (v1 + (1 : Int32)) (fun hp2 => b_229_93 R k31 l0 (l2 + (-1 : Int32)) l4 hp2)))
theorem t_229_72 {X : mjX} {d C S kc ks : Nat} {R : mjR} (hR : mjC R d) (h1 : kc ≤ C) (h2 : ks ≤ S) {k31 : Nat → Int32 → Int32 → mjH → mjU} (hk31 : P_229_31 X (d + 1) C S kc ks k31) : P_229_72 X (d + 1) C S kc ks (b_229_72 R k31) := by
  intro l0 l2 l4 s0 hp q h
  unfold b_229_72 at h
  refine mjq_istore_n (lo' := [some (.ref l0), none, some (.int l2), some (.int s0), some (.int l4)]) D_229_72 (Nat.le_of_ble_eq_true rfl) rfl ?_
  refine mjr_iload_n (x := s0) D_229_73 rfl ?_
  refine mjq_if_ne (tgt := 80) D_229_74 rfl h (fun h => ?_) (fun h => ?_)
  · refine mjq_iinc (x := l2) (c := (-1 : Int32)) (lo' := [some (.ref l0), none, some (.int (l2 + (-1 : Int32))), some (.int s0), some (.int l4)]) D_229_80 rfl (Nat.le_of_ble_eq_true rfl) rfl rfl ?_
    refine mjr_aload_n (x := l0) D_229_83 rfl ?_
    refine mjr_dup D_229_84 rfl ?_
    refine mjq_gI D_229_85 fr_12_657 h (fun v1 h => ?_)
    refine mjq_ic (v := (1 : Int32)) D_229_88 rfl ?_
    refine mjr_iadd D_229_89 ?_
    refine mjq_pI D_229_90 fr_12_657 rfl rfl h (fun hp2 h => ?_)
    exact mjG.fg (lo' := [some (.ref l0), none, some (.int (l2 + (-1 : Int32))), none, some (.int l4)]) (And.intro rfl (And.intro rfl (And.intro rfl True.intro))) ((t_229_93 hR h1 h2 hk31) _ _ _ _ _ h)
  · refine mjr_goto (tgt := 31) D_229_77 rfl ?_
    exact mjG.fg (lo' := [some (.ref l0), none, some (.int l2), some (.int s0), none]) (And.intro rfl (And.intro rfl (And.intro rfl True.intro))) (hk31 _ _ _ _ _ h)
noncomputable def b_229_31 (R : mjR) (k31 : Nat → Int32 → Int32 → mjH → mjU) (l0 : Nat) (l2 : Int32) (l3 : Int32) (hp : mjH) : mjU := (if l3 = 0 then gI hp l0 12 96 (fun v1 => some (some (.int v1), hp)) else gI hp l0 12 9 (fun v2 => gI hp l0 12 119 (fun v3 => gR hp l0 12 54 (fun v4 => aI hp v4 (((5000 : Int32) * v2) + v3) (fun v5 => bI (R 230 [.int v5] hp) (fun v6 hp7 => (if v6 = 0 then b_229_93 R k31 l0 l2 (((5000 : Int32) * v2) + v3) hp7 else (if l2 ≤ 0 then b_229_72 R k31 l0 l2 (((5000 : Int32) * v2) + v3) (0 : Int32) hp7 else b_229_72 R k31 l0 l2 (((5000 : Int32) * v2) + v3) (1 : Int32) hp7))))))))
theorem t_229_31 {X : mjX} {d C S kc ks : Nat} {R : mjR} (hR : mjC R d) (h1 : kc ≤ C) (h2 : ks ≤ S) {k31 : Nat → Int32 → Int32 → mjH → mjU} (hk31 : P_229_31 X (d + 1) C S kc ks k31) : P_229_31 X (d + 1) C S kc ks (b_229_31 R k31) := by
  intro l0 l2 l3 hp q h
  unfold b_229_31 at h
  refine mjr_iload_n (x := l3) D_229_31 rfl ?_
  refine mjq_if_eq (tgt := 126) D_229_32 rfl h (fun h => ?_) (fun h => ?_)
  · refine mjr_aload_n (x := l0) D_229_126 rfl ?_
    refine mjq_gI D_229_127 fr_12_636 h (fun v1 h => ?_)
    exact mjq_ret D_229_130 rfl h1 h2 h
  · refine mjq_si (v := (5000 : Int32)) D_229_35 rfl ?_
    refine mjr_aload_n (x := l0) D_229_38 rfl ?_
    refine mjq_gI D_229_39 fr_12_648 h (fun v2 h => ?_)
    refine mjr_imul D_229_42 ?_
    refine mjr_aload_n (x := l0) D_229_43 rfl ?_
    refine mjq_gI D_229_44 fr_12_651 h (fun v3 h => ?_)
    refine mjr_iadd D_229_47 ?_
    refine mjq_istore (lo' := [some (.ref l0), none, some (.int l2), some (.int l3), some (.int (((5000 : Int32) * v2) + v3))]) D_229_48 (Nat.le_of_ble_eq_true rfl) rfl ?_
    refine mjr_aload_n (x := l0) D_229_50 rfl ?_
    refine mjq_gR D_229_51 fr_12_148 h (fun v4 h => ?_)
    refine mjr_iload (x := (((5000 : Int32) * v2) + v3)) D_229_54 rfl ?_
    refine mjq_aI D_229_56 h (fun v5 h => ?_)
    refine mjq_scI (As := [.int v5]) (rest := []) D_229_57 mr_12_654 V_230 rfl rfl rfl hR (Nat.le_refl _) h1 h2 h (fun v6 hp7 h => ?_)
    refine mjq_if_eq (tgt := 93) D_229_60 rfl h (fun h => ?_) (fun h => ?_)
    · exact mjG.fg (lo' := [some (.ref l0), none, some (.int l2), none, some (.int (((5000 : Int32) * v2) + v3))]) (And.intro rfl (And.intro rfl (And.intro rfl True.intro))) ((t_229_93 hR h1 h2 hk31) _ _ _ _ _ h)
    · refine mjr_iload_n (x := l2) D_229_63 rfl ?_
      refine mjq_if_le (tgt := 71) D_229_64 rfl h (fun h => ?_) (fun h => ?_)
      · refine mjq_ic (v := (0 : Int32)) D_229_71 rfl ?_
        exact mjG.fg (lo' := [some (.ref l0), none, some (.int l2), none, some (.int (((5000 : Int32) * v2) + v3))]) (And.intro rfl (And.intro rfl (And.intro rfl True.intro))) ((t_229_72 hR h1 h2 hk31) _ _ _ _ _ _ h)
      · refine mjq_ic (v := (1 : Int32)) D_229_67 rfl ?_
        refine mjr_goto (tgt := 72) D_229_68 rfl ?_
        exact mjG.fg (lo' := [some (.ref l0), none, some (.int l2), none, some (.int (((5000 : Int32) * v2) + v3))]) (And.intro rfl (And.intro rfl (And.intro rfl True.intro))) ((t_229_72 hR h1 h2 hk31) _ _ _ _ _ _ h)
noncomputable def L_229_31 (R : mjR) (n : Nat) : Nat → Int32 → Int32 → mjH → mjU := Nat.rec (motive := fun _ => Nat → Int32 → Int32 → mjH → mjU) (fun _ _ _ _ => none) (fun _ self => b_229_31 R self) n
theorem T_229_31 {X : mjX} {d C S kc ks : Nat} {R : mjR} (hR : mjC R d) (h1 : kc ≤ C) (h2 : ks ≤ S) (n : Nat) : P_229_31 X (d + 1) C S kc ks (L_229_31 R n) := by
  induction n with
  | zero => intro _ _ _ _ _ h; exact mj_no h
  | succ n ih => exact t_229_31 hR h1 h2 ih
noncomputable def b_229_0 (R : mjR) (l0 : Nat) (l1 : Int32) (hp : mjH) : mjU := gI hp l0 12 96 (fun v1 => (if v1 = (1 : Int32) then (if l1 < (1 : Int32) then b_229_20 R hp else (if l1 ≤ (2000 : Int32) then pZ hp l0 12 126 (0 : Int32) (fun hp2 => L_229_31 R mjN l0 l1 (1 : Int32) hp2) else b_229_20 R hp)) else b_229_20 R hp))
theorem t_229_0 {X : mjX} {d C S kc ks : Nat} {R : mjR} (hR : mjC R d) (h1 : kc ≤ C) (h2 : ks ≤ S) : P_229_0 X (d + 1) C S kc ks (b_229_0 R) := by
  intro l0 l1 hp q h
  unfold b_229_0 at h
  refine mjr_aload_n (x := l0) D_229_0 rfl ?_
  refine mjq_gI D_229_1 fr_12_636 h (fun v1 h => ?_)
  refine mjq_ic (v := (1 : Int32)) D_229_4 rfl ?_
  refine mjq_icmp_ne (tgt := 20) D_229_5 rfl h (fun h => ?_) (fun h => ?_)
  · exact mjG.fg (lo' := [none, none, none, none, none]) True.intro ((t_229_20 hR h1 h2) _ _ h)
  · refine mjr_iload_n (x := l1) D_229_8 rfl ?_
    refine mjq_ic (v := (1 : Int32)) D_229_9 rfl ?_
    refine mjq_icmp_lt (tgt := 20) D_229_10 rfl h (fun h => ?_) (fun h => ?_)
    · exact mjG.fg (lo' := [none, none, none, none, none]) True.intro ((t_229_20 hR h1 h2) _ _ h)
    · refine mjr_iload_n (x := l1) D_229_13 rfl ?_
      refine mjq_si (v := (2000 : Int32)) D_229_14 rfl ?_
      refine mjq_icmp_le (tgt := 22) D_229_17 rfl h (fun h => ?_) (fun h => ?_)
      · refine mjr_iload_n (x := l1) D_229_22 rfl ?_
        refine mjq_istore_n (lo' := [some (.ref l0), some (.int l1), some (.int l1), none, none]) D_229_23 (Nat.le_of_ble_eq_true rfl) rfl ?_
        refine mjr_aload_n (x := l0) D_229_24 rfl ?_
        refine mjq_ic (v := (0 : Int32)) D_229_25 rfl ?_
        refine mjq_pZ D_229_26 fr_12_645 rfl rfl h (fun hp2 h => ?_)
        refine mjq_ic (v := (1 : Int32)) D_229_29 rfl ?_
        refine mjq_istore_n (lo' := [some (.ref l0), some (.int l1), some (.int l1), some (.int (1 : Int32)), none]) D_229_30 (Nat.le_of_ble_eq_true rfl) rfl ?_
        exact mjG.fg (lo' := [some (.ref l0), none, some (.int l1), some (.int (1 : Int32)), none]) (And.intro rfl (And.intro rfl (And.intro rfl True.intro))) ((T_229_31 hR h1 h2 mjN) _ _ _ _ _ h)
      · exact mjG.fg (lo' := [none, none, none, none, none]) True.intro ((t_229_20 hR h1 h2) _ _ h)
noncomputable def f_229 (R : mjR) (a0 : Nat) (a1 : Int32) (hp : mjH) : mjU := b_229_0 R a0 a1 hp
theorem c_229 {R : mjR} {d : Nat} (hR : mjC R d) {a0 : Nat} {a1 : Int32} {hp : mjH} {q : Option Value × mjH} (h : f_229 R a0 a1 hp = some q) : mjM (d + 1) 0 0 229 [.ref a0, .int a1] hp (mjEq q) :=
  mjM_of Ja_229 (Nat.le_of_ble_eq_true rfl) (mjG.fg (lo' := [some (.ref a0), some (.int a1), none, none, none]) (And.intro rfl (And.intro rfl True.intro)) ((t_229_0 hR (Nat.le_refl 0) (Nat.le_refl 0)) a0 a1 hp q h))
def J_230 : mjI := (⟨"OwnerHeapModel", "costs", "(I)Z"⟩, 12, prog_14_method_87_code, 1, (some .boolean), 1, true)
theorem Ja_230 : mjMt 230 = some J_230 := by rfl
theorem D_230_0 : decode J_230.2.2.1 0 = .ok (.iload_n 0, 1) := dzq_26 (by decide +kernel)
theorem D_230_1 : decode J_230.2.2.1 1 = .ok (.iconst 1, 1) := dzq_4 (by decide +kernel)
theorem D_230_2 : decode J_230.2.2.1 2 = .ok (.if_icmp .eq 44, 3) := dzq_159 (by decide +kernel)
theorem D_230_5 : decode J_230.2.2.1 5 = .ok (.iload_n 0, 1) := dzq_26 (by decide +kernel)
theorem D_230_6 : decode J_230.2.2.1 6 = .ok (.iconst 2, 1) := dzq_5 (by decide +kernel)
theorem D_230_7 : decode J_230.2.2.1 7 = .ok (.if_icmp .eq 39, 3) := dzq_159 (by decide +kernel)
theorem D_230_10 : decode J_230.2.2.1 10 = .ok (.iload_n 0, 1) := dzq_26 (by decide +kernel)
theorem D_230_11 : decode J_230.2.2.1 11 = .ok (.bipush 8, 2) := dzq_16 (by decide +kernel)
theorem D_230_13 : decode J_230.2.2.1 13 = .ok (.if_icmp .eq 33, 3) := dzq_159 (by decide +kernel)
theorem D_230_16 : decode J_230.2.2.1 16 = .ok (.iload_n 0, 1) := dzq_26 (by decide +kernel)
theorem D_230_17 : decode J_230.2.2.1 17 = .ok (.bipush 9, 2) := dzq_16 (by decide +kernel)
theorem D_230_19 : decode J_230.2.2.1 19 = .ok (.if_icmp .eq 27, 3) := dzq_159 (by decide +kernel)
theorem D_230_22 : decode J_230.2.2.1 22 = .ok (.iload_n 0, 1) := dzq_26 (by decide +kernel)
theorem D_230_23 : decode J_230.2.2.1 23 = .ok (.bipush 10, 2) := dzq_16 (by decide +kernel)
theorem D_230_25 : decode J_230.2.2.1 25 = .ok (.if_icmp .eq 21, 3) := dzq_159 (by decide +kernel)
theorem D_230_28 : decode J_230.2.2.1 28 = .ok (.iload_n 0, 1) := dzq_26 (by decide +kernel)
theorem D_230_29 : decode J_230.2.2.1 29 = .ok (.bipush 13, 2) := dzq_16 (by decide +kernel)
theorem D_230_31 : decode J_230.2.2.1 31 = .ok (.if_icmp .eq 15, 3) := dzq_159 (by decide +kernel)
theorem D_230_34 : decode J_230.2.2.1 34 = .ok (.iload_n 0, 1) := dzq_26 (by decide +kernel)
theorem D_230_35 : decode J_230.2.2.1 35 = .ok (.bipush 7, 2) := dzq_16 (by decide +kernel)
theorem D_230_37 : decode J_230.2.2.1 37 = .ok (.if_icmp .eq 9, 3) := dzq_159 (by decide +kernel)
theorem D_230_40 : decode J_230.2.2.1 40 = .ok (.iload_n 0, 1) := dzq_26 (by decide +kernel)
theorem D_230_41 : decode J_230.2.2.1 41 = .ok (.bipush 14, 2) := dzq_16 (by decide +kernel)
theorem D_230_43 : decode J_230.2.2.1 43 = .ok (.if_icmp .ne 7, 3) := dzq_160 (by decide +kernel)
theorem D_230_46 : decode J_230.2.2.1 46 = .ok (.iconst 1, 1) := dzq_4 (by decide +kernel)
theorem D_230_47 : decode J_230.2.2.1 47 = .ok (.goto 4, 3) := dzq_167 (by decide +kernel)
theorem D_230_50 : decode J_230.2.2.1 50 = .ok (.iconst 0, 1) := dzq_3 (by decide +kernel)
theorem D_230_51 : decode J_230.2.2.1 51 = .ok (.ireturn, 1) := dzq_172 (by decide +kernel)
def P_230_46 (X : mjX) (d C S kc ks : Nat) (k : mjH → mjU) : Prop := ∀  (hp : mjH) (q : Option Value × mjH), k  hp = some q → mjG X d C S J_230 (mjEq q) 46 [none] [] hp kc ks
def P_230_0 (X : mjX) (d C S kc ks : Nat) (k : Int32 → mjH → mjU) : Prop := ∀ (l0 : Int32) (hp : mjH) (q : Option Value × mjH), k l0 hp = some q → mjG X d C S J_230 (mjEq q) 0 [some (.int l0)] [] hp kc ks
noncomputable def b_230_46 (R : mjR)  (hp : mjH) : mjU := some (some (.int (1 : Int32)), hp)
theorem t_230_46 {X : mjX} {d C S kc ks : Nat} {R : mjR} (hR : mjC R d) (h1 : kc ≤ C) (h2 : ks ≤ S) : P_230_46 X (d + 1) C S kc ks (b_230_46 R) := by
  intro  hp q h
  unfold b_230_46 at h
  refine mjq_ic (v := (1 : Int32)) D_230_46 rfl ?_
  refine mjr_goto (tgt := 51) D_230_47 rfl ?_
  exact mjr_ireturn D_230_51 rfl rfl h1 h2 (Option.some.inj h)
noncomputable def b_230_0 (R : mjR) (l0 : Int32) (hp : mjH) : mjU := (if l0 = (1 : Int32) then b_230_46 R hp else (if l0 = (2 : Int32) then b_230_46 R hp else (if l0 = (8 : Int32) then b_230_46 R hp else (if l0 = (9 : Int32) then b_230_46 R hp else (if l0 = (10 : Int32) then b_230_46 R hp else (if l0 = (13 : Int32) then b_230_46 R hp else (if l0 = (7 : Int32) then b_230_46 R hp else (if l0 = (14 : Int32) then b_230_46 R hp else some (some (.int (0 : Int32)), hp)))))))))
theorem t_230_0 {X : mjX} {d C S kc ks : Nat} {R : mjR} (hR : mjC R d) (h1 : kc ≤ C) (h2 : ks ≤ S) : P_230_0 X (d + 1) C S kc ks (b_230_0 R) := by
  intro l0 hp q h
  unfold b_230_0 at h
  refine mjr_iload_n (x := l0) D_230_0 rfl ?_
  refine mjq_ic (v := (1 : Int32)) D_230_1 rfl ?_
  refine mjq_icmp_eq (tgt := 46) D_230_2 rfl h (fun h => ?_) (fun h => ?_)
  · exact mjG.fg (lo' := [none]) True.intro ((t_230_46 hR h1 h2) _ _ h)
  · refine mjr_iload_n (x := l0) D_230_5 rfl ?_
    refine mjq_ic (v := (2 : Int32)) D_230_6 rfl ?_
    refine mjq_icmp_eq (tgt := 46) D_230_7 rfl h (fun h => ?_) (fun h => ?_)
    · exact mjG.fg (lo' := [none]) True.intro ((t_230_46 hR h1 h2) _ _ h)
    · refine mjr_iload_n (x := l0) D_230_10 rfl ?_
      refine mjq_bi (v := (8 : Int32)) D_230_11 rfl ?_
      refine mjq_icmp_eq (tgt := 46) D_230_13 rfl h (fun h => ?_) (fun h => ?_)
      · exact mjG.fg (lo' := [none]) True.intro ((t_230_46 hR h1 h2) _ _ h)
      · refine mjr_iload_n (x := l0) D_230_16 rfl ?_
        refine mjq_bi (v := (9 : Int32)) D_230_17 rfl ?_
        refine mjq_icmp_eq (tgt := 46) D_230_19 rfl h (fun h => ?_) (fun h => ?_)
        · exact mjG.fg (lo' := [none]) True.intro ((t_230_46 hR h1 h2) _ _ h)
        · refine mjr_iload_n (x := l0) D_230_22 rfl ?_
          refine mjq_bi (v := (10 : Int32)) D_230_23 rfl ?_
          refine mjq_icmp_eq (tgt := 46) D_230_25 rfl h (fun h => ?_) (fun h => ?_)
          · exact mjG.fg (lo' := [none]) True.intro ((t_230_46 hR h1 h2) _ _ h)
          · refine mjr_iload_n (x := l0) D_230_28 rfl ?_
            refine mjq_bi (v := (13 : Int32)) D_230_29 rfl ?_
            refine mjq_icmp_eq (tgt := 46) D_230_31 rfl h (fun h => ?_) (fun h => ?_)
            · exact mjG.fg (lo' := [none]) True.intro ((t_230_46 hR h1 h2) _ _ h)
            · refine mjr_iload_n (x := l0) D_230_34 rfl ?_
              refine mjq_bi (v := (7 : Int32)) D_230_35 rfl ?_
              refine mjq_icmp_eq (tgt := 46) D_230_37 rfl h (fun h => ?_) (fun h => ?_)
              · exact mjG.fg (lo' := [none]) True.intro ((t_230_46 hR h1 h2) _ _ h)
              · refine mjr_iload_n (x := l0) D_230_40 rfl ?_
                refine mjq_bi (v := (14 : Int32)) D_230_41 rfl ?_
                refine mjq_icmp_ne (tgt := 50) D_230_43 rfl h (fun h => ?_) (fun h => ?_)
                · refine mjq_ic (v := (0 : Int32)) D_230_50 rfl ?_
                  exact mjr_ireturn D_230_51 rfl rfl h1 h2 (Option.some.inj h)
                · exact mjG.fg (lo' := [none]) True.intro ((t_230_46 hR h1 h2) _ _ h)
noncomputable def f_230 (R : mjR) (a0 : Int32) (hp : mjH) : mjU := b_230_0 R a0 hp
theorem c_230 {R : mjR} {d : Nat} (hR : mjC R d) {a0 : Int32} {hp : mjH} {q : Option Value × mjH} (h : f_230 R a0 hp = some q) : mjM (d + 1) 0 0 230 [.int a0] hp (mjEq q) :=
  mjM_of Ja_230 (Nat.le_of_ble_eq_true rfl) (mjG.fg (lo' := [some (.int a0)]) (And.intro rfl True.intro) ((t_230_0 hR (Nat.le_refl 0) (Nat.le_refl 0)) a0 hp q h))
def J_231 : mjI := (⟨"OwnerHeapModel", "act", "(I)V"⟩, 12, prog_14_method_89_code, 5, none, 1, false)
theorem Ja_231 : mjMt 231 = some J_231 := by rfl
theorem D_231_0 : decode J_231.2.2.1 0 = .ok (.aload_n 0, 1) := dzq_42 (by decide +kernel)
theorem D_231_1 : decode J_231.2.2.1 1 = .ok (.getfield 627, 3) := dzq_180 (by decide +kernel)
theorem D_231_4 : decode J_231.2.2.1 4 = .ok (.iconst 1, 1) := dzq_4 (by decide +kernel)
theorem D_231_5 : decode J_231.2.2.1 5 = .ok (.isub, 1) := dzq_100 (by decide +kernel)
theorem D_231_6 : decode J_231.2.2.1 6 = .ok (.istore_n 2, 1) := dzq_61 (by decide +kernel)
theorem D_231_7 : decode J_231.2.2.1 7 = .ok (.aload_n 0, 1) := dzq_42 (by decide +kernel)
theorem D_231_8 : decode J_231.2.2.1 8 = .ok (.getfield 148, 3) := dzq_180 (by decide +kernel)
theorem D_231_11 : decode J_231.2.2.1 11 = .ok (.iload_n 1, 1) := dzq_27 (by decide +kernel)
theorem D_231_12 : decode J_231.2.2.1 12 = .ok (.iaload, 1) := dzq_46 (by decide +kernel)
theorem D_231_13 : decode J_231.2.2.1 13 = .ok (.tableswitch 531 1 28 #[127, 531, 142, 155, 163, 176, 199, 207, 219, 227, 531, 531, 287, 295, 531, 531, 333, 356, 531, 333, 422, 442, 442, 455, 493, 531, 531, 506], 127) := by decide +kernel
theorem D_231_140 : decode J_231.2.2.1 140 = .ok (.aload_n 0, 1) := dzq_42 (by decide +kernel)
theorem D_231_141 : decode J_231.2.2.1 141 = .ok (.getfield 245, 3) := dzq_180 (by decide +kernel)
theorem D_231_144 : decode J_231.2.2.1 144 = .ok (.iload_n 2, 1) := dzq_28 (by decide +kernel)
theorem D_231_145 : decode J_231.2.2.1 145 = .ok (.aload_n 0, 1) := dzq_42 (by decide +kernel)
theorem D_231_146 : decode J_231.2.2.1 146 = .ok (.getfield 151, 3) := dzq_180 (by decide +kernel)
theorem D_231_149 : decode J_231.2.2.1 149 = .ok (.iload_n 1, 1) := dzq_27 (by decide +kernel)
theorem D_231_150 : decode J_231.2.2.1 150 = .ok (.iaload, 1) := dzq_46 (by decide +kernel)
theorem D_231_151 : decode J_231.2.2.1 151 = .ok (.iastore, 1) := dzq_79 (by decide +kernel)
theorem D_231_152 : decode J_231.2.2.1 152 = .ok (.goto 392, 3) := dzq_167 (by decide +kernel)
theorem D_231_155 : decode J_231.2.2.1 155 = .ok (.aload_n 0, 1) := dzq_42 (by decide +kernel)
theorem D_231_156 : decode J_231.2.2.1 156 = .ok (.aload_n 0, 1) := dzq_42 (by decide +kernel)
theorem D_231_157 : decode J_231.2.2.1 157 = .ok (.getfield 154, 3) := dzq_180 (by decide +kernel)
theorem D_231_160 : decode J_231.2.2.1 160 = .ok (.iload_n 1, 1) := dzq_27 (by decide +kernel)
theorem D_231_161 : decode J_231.2.2.1 161 = .ok (.iaload, 1) := dzq_46 (by decide +kernel)
theorem D_231_162 : decode J_231.2.2.1 162 = .ok (.invokevirtual 663, 3) := dzq_182 (by decide +kernel)
theorem D_231_165 : decode J_231.2.2.1 165 = .ok (.goto 379, 3) := dzq_167 (by decide +kernel)
theorem D_231_168 : decode J_231.2.2.1 168 = .ok (.aload_n 0, 1) := dzq_42 (by decide +kernel)
theorem D_231_169 : decode J_231.2.2.1 169 = .ok (.iconst 0, 1) := dzq_3 (by decide +kernel)
theorem D_231_170 : decode J_231.2.2.1 170 = .ok (.invokevirtual 663, 3) := dzq_182 (by decide +kernel)
theorem D_231_173 : decode J_231.2.2.1 173 = .ok (.goto 371, 3) := dzq_167 (by decide +kernel)
theorem D_231_176 : decode J_231.2.2.1 176 = .ok (.aload_n 0, 1) := dzq_42 (by decide +kernel)
theorem D_231_177 : decode J_231.2.2.1 177 = .ok (.aload_n 0, 1) := dzq_42 (by decide +kernel)
theorem D_231_178 : decode J_231.2.2.1 178 = .ok (.getfield 242, 3) := dzq_180 (by decide +kernel)
theorem D_231_181 : decode J_231.2.2.1 181 = .ok (.iload_n 2, 1) := dzq_28 (by decide +kernel)
theorem D_231_182 : decode J_231.2.2.1 182 = .ok (.iaload, 1) := dzq_46 (by decide +kernel)
theorem D_231_183 : decode J_231.2.2.1 183 = .ok (.invokevirtual 663, 3) := dzq_182 (by decide +kernel)
theorem D_231_186 : decode J_231.2.2.1 186 = .ok (.goto 358, 3) := dzq_167 (by decide +kernel)
theorem D_231_189 : decode J_231.2.2.1 189 = .ok (.aload_n 0, 1) := dzq_42 (by decide +kernel)
theorem D_231_190 : decode J_231.2.2.1 190 = .ok (.aload_n 0, 1) := dzq_42 (by decide +kernel)
theorem D_231_191 : decode J_231.2.2.1 191 = .ok (.getfield 251, 3) := dzq_180 (by decide +kernel)
theorem D_231_194 : decode J_231.2.2.1 194 = .ok (.bipush 16, 2) := dzq_16 (by decide +kernel)
theorem D_231_196 : decode J_231.2.2.1 196 = .ok (.iload_n 2, 1) := dzq_28 (by decide +kernel)
theorem D_231_197 : decode J_231.2.2.1 197 = .ok (.imul, 1) := dzq_104 (by decide +kernel)
theorem D_231_198 : decode J_231.2.2.1 198 = .ok (.aload_n 0, 1) := dzq_42 (by decide +kernel)
theorem D_231_199 : decode J_231.2.2.1 199 = .ok (.getfield 154, 3) := dzq_180 (by decide +kernel)
theorem D_231_202 : decode J_231.2.2.1 202 = .ok (.iload_n 1, 1) := dzq_27 (by decide +kernel)
theorem D_231_203 : decode J_231.2.2.1 203 = .ok (.iaload, 1) := dzq_46 (by decide +kernel)
theorem D_231_204 : decode J_231.2.2.1 204 = .ok (.iadd, 1) := dzq_96 (by decide +kernel)
theorem D_231_205 : decode J_231.2.2.1 205 = .ok (.iaload, 1) := dzq_46 (by decide +kernel)
theorem D_231_206 : decode J_231.2.2.1 206 = .ok (.invokevirtual 663, 3) := dzq_182 (by decide +kernel)
theorem D_231_209 : decode J_231.2.2.1 209 = .ok (.goto 335, 3) := dzq_167 (by decide +kernel)
theorem D_231_212 : decode J_231.2.2.1 212 = .ok (.aload_n 0, 1) := dzq_42 (by decide +kernel)
theorem D_231_213 : decode J_231.2.2.1 213 = .ok (.iload_n 1, 1) := dzq_27 (by decide +kernel)
theorem D_231_214 : decode J_231.2.2.1 214 = .ok (.invokevirtual 666, 3) := dzq_182 (by decide +kernel)
theorem D_231_217 : decode J_231.2.2.1 217 = .ok (.goto 327, 3) := dzq_167 (by decide +kernel)
theorem D_231_220 : decode J_231.2.2.1 220 = .ok (.aload_n 0, 1) := dzq_42 (by decide +kernel)
theorem D_231_221 : decode J_231.2.2.1 221 = .ok (.aload_n 0, 1) := dzq_42 (by decide +kernel)
theorem D_231_222 : decode J_231.2.2.1 222 = .ok (.invokevirtual 669, 3) := dzq_182 (by decide +kernel)
theorem D_231_225 : decode J_231.2.2.1 225 = .ok (.ineg, 1) := by decide +kernel
theorem D_231_226 : decode J_231.2.2.1 226 = .ok (.invokevirtual 663, 3) := dzq_182 (by decide +kernel)
theorem D_231_229 : decode J_231.2.2.1 229 = .ok (.goto 315, 3) := dzq_167 (by decide +kernel)
theorem D_231_232 : decode J_231.2.2.1 232 = .ok (.aload_n 0, 1) := dzq_42 (by decide +kernel)
theorem D_231_233 : decode J_231.2.2.1 233 = .ok (.iload_n 1, 1) := dzq_27 (by decide +kernel)
theorem D_231_234 : decode J_231.2.2.1 234 = .ok (.invokevirtual 672, 3) := dzq_182 (by decide +kernel)
theorem D_231_237 : decode J_231.2.2.1 237 = .ok (.goto 307, 3) := dzq_167 (by decide +kernel)
theorem D_231_240 : decode J_231.2.2.1 240 = .ok (.aload_n 0, 1) := dzq_42 (by decide +kernel)
theorem D_231_241 : decode J_231.2.2.1 241 = .ok (.invokevirtual 669, 3) := dzq_182 (by decide +kernel)
theorem D_231_244 : decode J_231.2.2.1 244 = .ok (.istore_n 3, 1) := dzq_62 (by decide +kernel)
theorem D_231_245 : decode J_231.2.2.1 245 = .ok (.iload_n 3, 1) := dzq_29 (by decide +kernel)
theorem D_231_246 : decode J_231.2.2.1 246 = .ok (.ifCond .ne 17, 3) := dzq_154 (by decide +kernel)
theorem D_231_249 : decode J_231.2.2.1 249 = .ok (.aload_n 0, 1) := dzq_42 (by decide +kernel)
theorem D_231_250 : decode J_231.2.2.1 250 = .ok (.iconst 1, 1) := dzq_4 (by decide +kernel)
theorem D_231_251 : decode J_231.2.2.1 251 = .ok (.aload_n 0, 1) := dzq_42 (by decide +kernel)
theorem D_231_252 : decode J_231.2.2.1 252 = .ok (.getfield 151, 3) := dzq_180 (by decide +kernel)
theorem D_231_255 : decode J_231.2.2.1 255 = .ok (.iload_n 1, 1) := dzq_27 (by decide +kernel)
theorem D_231_256 : decode J_231.2.2.1 256 = .ok (.iaload, 1) := dzq_46 (by decide +kernel)
theorem D_231_257 : decode J_231.2.2.1 257 = .ok (.invokevirtual 675, 3) := dzq_182 (by decide +kernel)
theorem D_231_260 : decode J_231.2.2.1 260 = .ok (.goto 284, 3) := dzq_167 (by decide +kernel)
theorem D_231_263 : decode J_231.2.2.1 263 = .ok (.aload_n 0, 1) := dzq_42 (by decide +kernel)
theorem D_231_264 : decode J_231.2.2.1 264 = .ok (.aload_n 0, 1) := dzq_42 (by decide +kernel)
theorem D_231_265 : decode J_231.2.2.1 265 = .ok (.getfield 230, 3) := dzq_180 (by decide +kernel)
theorem D_231_268 : decode J_231.2.2.1 268 = .ok (.aload_n 0, 1) := dzq_42 (by decide +kernel)
theorem D_231_269 : decode J_231.2.2.1 269 = .ok (.getfield 236, 3) := dzq_180 (by decide +kernel)
theorem D_231_272 : decode J_231.2.2.1 272 = .ok (.iload_n 3, 1) := dzq_29 (by decide +kernel)
theorem D_231_273 : decode J_231.2.2.1 273 = .ok (.iaload, 1) := dzq_46 (by decide +kernel)
theorem D_231_274 : decode J_231.2.2.1 274 = .ok (.aload_n 0, 1) := dzq_42 (by decide +kernel)
theorem D_231_275 : decode J_231.2.2.1 275 = .ok (.getfield 30, 3) := dzq_180 (by decide +kernel)
theorem D_231_278 : decode J_231.2.2.1 278 = .ok (.aload_n 0, 1) := dzq_42 (by decide +kernel)
theorem D_231_279 : decode J_231.2.2.1 279 = .ok (.getfield 233, 3) := dzq_180 (by decide +kernel)
theorem D_231_282 : decode J_231.2.2.1 282 = .ok (.iload_n 3, 1) := dzq_29 (by decide +kernel)
theorem D_231_283 : decode J_231.2.2.1 283 = .ok (.iaload, 1) := dzq_46 (by decide +kernel)
theorem D_231_284 : decode J_231.2.2.1 284 = .ok (.iaload, 1) := dzq_46 (by decide +kernel)
theorem D_231_285 : decode J_231.2.2.1 285 = .ok (.iadd, 1) := dzq_96 (by decide +kernel)
theorem D_231_286 : decode J_231.2.2.1 286 = .ok (.aload_n 0, 1) := dzq_42 (by decide +kernel)
theorem D_231_287 : decode J_231.2.2.1 287 = .ok (.getfield 154, 3) := dzq_180 (by decide +kernel)
theorem D_231_290 : decode J_231.2.2.1 290 = .ok (.iload_n 1, 1) := dzq_27 (by decide +kernel)
theorem D_231_291 : decode J_231.2.2.1 291 = .ok (.iaload, 1) := dzq_46 (by decide +kernel)
theorem D_231_292 : decode J_231.2.2.1 292 = .ok (.iadd, 1) := dzq_96 (by decide +kernel)
theorem D_231_293 : decode J_231.2.2.1 293 = .ok (.iaload, 1) := dzq_46 (by decide +kernel)
theorem D_231_294 : decode J_231.2.2.1 294 = .ok (.invokevirtual 663, 3) := dzq_182 (by decide +kernel)
theorem D_231_297 : decode J_231.2.2.1 297 = .ok (.goto 247, 3) := dzq_167 (by decide +kernel)
theorem D_231_300 : decode J_231.2.2.1 300 = .ok (.aload_n 0, 1) := dzq_42 (by decide +kernel)
theorem D_231_301 : decode J_231.2.2.1 301 = .ok (.iload_n 1, 1) := dzq_27 (by decide +kernel)
theorem D_231_302 : decode J_231.2.2.1 302 = .ok (.invokevirtual 678, 3) := dzq_182 (by decide +kernel)
theorem D_231_305 : decode J_231.2.2.1 305 = .ok (.goto 239, 3) := dzq_167 (by decide +kernel)
theorem D_231_308 : decode J_231.2.2.1 308 = .ok (.aload_n 0, 1) := dzq_42 (by decide +kernel)
theorem D_231_309 : decode J_231.2.2.1 309 = .ok (.aload_n 0, 1) := dzq_42 (by decide +kernel)
theorem D_231_310 : decode J_231.2.2.1 310 = .ok (.getfield 254, 3) := dzq_180 (by decide +kernel)
theorem D_231_313 : decode J_231.2.2.1 313 = .ok (.aload_n 0, 1) := dzq_42 (by decide +kernel)
theorem D_231_314 : decode J_231.2.2.1 314 = .ok (.getfield 633, 3) := dzq_180 (by decide +kernel)
theorem D_231_317 : decode J_231.2.2.1 317 = .ok (.iconst 1, 1) := dzq_4 (by decide +kernel)
theorem D_231_318 : decode J_231.2.2.1 318 = .ok (.isub, 1) := dzq_100 (by decide +kernel)
theorem D_231_319 : decode J_231.2.2.1 319 = .ok (.iaload, 1) := dzq_46 (by decide +kernel)
theorem D_231_320 : decode J_231.2.2.1 320 = .ok (.aload_n 0, 1) := dzq_42 (by decide +kernel)
theorem D_231_321 : decode J_231.2.2.1 321 = .ok (.getfield 154, 3) := dzq_180 (by decide +kernel)
theorem D_231_324 : decode J_231.2.2.1 324 = .ok (.iload_n 1, 1) := dzq_27 (by decide +kernel)
theorem D_231_325 : decode J_231.2.2.1 325 = .ok (.iaload, 1) := dzq_46 (by decide +kernel)
theorem D_231_326 : decode J_231.2.2.1 326 = .ok (.invokevirtual 681, 3) := dzq_182 (by decide +kernel)
theorem D_231_329 : decode J_231.2.2.1 329 = .ok (.ifCond .ne 215, 3) := dzq_154 (by decide +kernel)
theorem D_231_332 : decode J_231.2.2.1 332 = .ok (.aload_n 0, 1) := dzq_42 (by decide +kernel)
theorem D_231_333 : decode J_231.2.2.1 333 = .ok (.iconst 3, 1) := dzq_6 (by decide +kernel)
theorem D_231_334 : decode J_231.2.2.1 334 = .ok (.aload_n 0, 1) := dzq_42 (by decide +kernel)
theorem D_231_335 : decode J_231.2.2.1 335 = .ok (.getfield 151, 3) := dzq_180 (by decide +kernel)
theorem D_231_338 : decode J_231.2.2.1 338 = .ok (.iload_n 1, 1) := dzq_27 (by decide +kernel)
theorem D_231_339 : decode J_231.2.2.1 339 = .ok (.iaload, 1) := dzq_46 (by decide +kernel)
theorem D_231_340 : decode J_231.2.2.1 340 = .ok (.invokevirtual 675, 3) := dzq_182 (by decide +kernel)
theorem D_231_343 : decode J_231.2.2.1 343 = .ok (.goto 201, 3) := dzq_167 (by decide +kernel)
theorem D_231_346 : decode J_231.2.2.1 346 = .ok (.aload_n 0, 1) := dzq_42 (by decide +kernel)
theorem D_231_347 : decode J_231.2.2.1 347 = .ok (.getfield 251, 3) := dzq_180 (by decide +kernel)
theorem D_231_350 : decode J_231.2.2.1 350 = .ok (.bipush 16, 2) := dzq_16 (by decide +kernel)
theorem D_231_352 : decode J_231.2.2.1 352 = .ok (.iload_n 2, 1) := dzq_28 (by decide +kernel)
theorem D_231_353 : decode J_231.2.2.1 353 = .ok (.imul, 1) := dzq_104 (by decide +kernel)
theorem D_231_354 : decode J_231.2.2.1 354 = .ok (.aload_n 0, 1) := dzq_42 (by decide +kernel)
theorem D_231_355 : decode J_231.2.2.1 355 = .ok (.getfield 154, 3) := dzq_180 (by decide +kernel)
theorem D_231_358 : decode J_231.2.2.1 358 = .ok (.iload_n 1, 1) := dzq_27 (by decide +kernel)
theorem D_231_359 : decode J_231.2.2.1 359 = .ok (.iaload, 1) := dzq_46 (by decide +kernel)
theorem D_231_360 : decode J_231.2.2.1 360 = .ok (.iadd, 1) := dzq_96 (by decide +kernel)
theorem D_231_361 : decode J_231.2.2.1 361 = .ok (.aload_n 0, 1) := dzq_42 (by decide +kernel)
theorem D_231_362 : decode J_231.2.2.1 362 = .ok (.invokevirtual 669, 3) := dzq_182 (by decide +kernel)
theorem D_231_365 : decode J_231.2.2.1 365 = .ok (.iastore, 1) := dzq_79 (by decide +kernel)
theorem D_231_366 : decode J_231.2.2.1 366 = .ok (.goto 178, 3) := dzq_167 (by decide +kernel)
theorem D_231_369 : decode J_231.2.2.1 369 = .ok (.aload_n 0, 1) := dzq_42 (by decide +kernel)
theorem D_231_370 : decode J_231.2.2.1 370 = .ok (.invokevirtual 669, 3) := dzq_182 (by decide +kernel)
theorem D_231_373 : decode J_231.2.2.1 373 = .ok (.istore_n 3, 1) := dzq_62 (by decide +kernel)
theorem D_231_374 : decode J_231.2.2.1 374 = .ok (.aload_n 0, 1) := dzq_42 (by decide +kernel)
theorem D_231_375 : decode J_231.2.2.1 375 = .ok (.invokevirtual 669, 3) := dzq_182 (by decide +kernel)
theorem D_231_378 : decode J_231.2.2.1 378 = .ok (.istore 4, 2) := dzq_54 (by decide +kernel)
theorem D_231_380 : decode J_231.2.2.1 380 = .ok (.iload 4, 2) := dzq_21 (by decide +kernel)
theorem D_231_382 : decode J_231.2.2.1 382 = .ok (.ifCond .ne 17, 3) := dzq_154 (by decide +kernel)
theorem D_231_385 : decode J_231.2.2.1 385 = .ok (.aload_n 0, 1) := dzq_42 (by decide +kernel)
theorem D_231_386 : decode J_231.2.2.1 386 = .ok (.iconst 1, 1) := dzq_4 (by decide +kernel)
theorem D_231_387 : decode J_231.2.2.1 387 = .ok (.aload_n 0, 1) := dzq_42 (by decide +kernel)
theorem D_231_388 : decode J_231.2.2.1 388 = .ok (.getfield 157, 3) := dzq_180 (by decide +kernel)
theorem D_231_391 : decode J_231.2.2.1 391 = .ok (.iload_n 1, 1) := dzq_27 (by decide +kernel)
theorem D_231_392 : decode J_231.2.2.1 392 = .ok (.iaload, 1) := dzq_46 (by decide +kernel)
theorem D_231_393 : decode J_231.2.2.1 393 = .ok (.invokevirtual 675, 3) := dzq_182 (by decide +kernel)
theorem D_231_396 : decode J_231.2.2.1 396 = .ok (.goto 148, 3) := dzq_167 (by decide +kernel)
theorem D_231_399 : decode J_231.2.2.1 399 = .ok (.aload_n 0, 1) := dzq_42 (by decide +kernel)
theorem D_231_400 : decode J_231.2.2.1 400 = .ok (.getfield 230, 3) := dzq_180 (by decide +kernel)
theorem D_231_403 : decode J_231.2.2.1 403 = .ok (.aload_n 0, 1) := dzq_42 (by decide +kernel)
theorem D_231_404 : decode J_231.2.2.1 404 = .ok (.getfield 236, 3) := dzq_180 (by decide +kernel)
theorem D_231_407 : decode J_231.2.2.1 407 = .ok (.iload 4, 2) := dzq_21 (by decide +kernel)
theorem D_231_409 : decode J_231.2.2.1 409 = .ok (.iaload, 1) := dzq_46 (by decide +kernel)
theorem D_231_410 : decode J_231.2.2.1 410 = .ok (.aload_n 0, 1) := dzq_42 (by decide +kernel)
theorem D_231_411 : decode J_231.2.2.1 411 = .ok (.getfield 30, 3) := dzq_180 (by decide +kernel)
theorem D_231_414 : decode J_231.2.2.1 414 = .ok (.aload_n 0, 1) := dzq_42 (by decide +kernel)
theorem D_231_415 : decode J_231.2.2.1 415 = .ok (.getfield 233, 3) := dzq_180 (by decide +kernel)
theorem D_231_418 : decode J_231.2.2.1 418 = .ok (.iload 4, 2) := dzq_21 (by decide +kernel)
theorem D_231_420 : decode J_231.2.2.1 420 = .ok (.iaload, 1) := dzq_46 (by decide +kernel)
theorem D_231_421 : decode J_231.2.2.1 421 = .ok (.iaload, 1) := dzq_46 (by decide +kernel)
theorem D_231_422 : decode J_231.2.2.1 422 = .ok (.iadd, 1) := dzq_96 (by decide +kernel)
theorem D_231_423 : decode J_231.2.2.1 423 = .ok (.aload_n 0, 1) := dzq_42 (by decide +kernel)
theorem D_231_424 : decode J_231.2.2.1 424 = .ok (.getfield 154, 3) := dzq_180 (by decide +kernel)
theorem D_231_427 : decode J_231.2.2.1 427 = .ok (.iload_n 1, 1) := dzq_27 (by decide +kernel)
theorem D_231_428 : decode J_231.2.2.1 428 = .ok (.iaload, 1) := dzq_46 (by decide +kernel)
theorem D_231_429 : decode J_231.2.2.1 429 = .ok (.iadd, 1) := dzq_96 (by decide +kernel)
theorem D_231_430 : decode J_231.2.2.1 430 = .ok (.iload_n 3, 1) := dzq_29 (by decide +kernel)
theorem D_231_431 : decode J_231.2.2.1 431 = .ok (.iastore, 1) := dzq_79 (by decide +kernel)
theorem D_231_432 : decode J_231.2.2.1 432 = .ok (.goto 112, 3) := dzq_167 (by decide +kernel)
theorem D_231_435 : decode J_231.2.2.1 435 = .ok (.aload_n 0, 1) := dzq_42 (by decide +kernel)
theorem D_231_436 : decode J_231.2.2.1 436 = .ok (.invokevirtual 669, 3) := dzq_182 (by decide +kernel)
theorem D_231_439 : decode J_231.2.2.1 439 = .ok (.ifCond .ne 105, 3) := dzq_154 (by decide +kernel)
theorem D_231_442 : decode J_231.2.2.1 442 = .ok (.aload_n 0, 1) := dzq_42 (by decide +kernel)
theorem D_231_443 : decode J_231.2.2.1 443 = .ok (.aload_n 0, 1) := dzq_42 (by decide +kernel)
theorem D_231_444 : decode J_231.2.2.1 444 = .ok (.getfield 154, 3) := dzq_180 (by decide +kernel)
theorem D_231_447 : decode J_231.2.2.1 447 = .ok (.iload_n 1, 1) := dzq_27 (by decide +kernel)
theorem D_231_448 : decode J_231.2.2.1 448 = .ok (.iaload, 1) := dzq_46 (by decide +kernel)
theorem D_231_449 : decode J_231.2.2.1 449 = .ok (.putfield 651, 3) := dzq_181 (by decide +kernel)
theorem D_231_452 : decode J_231.2.2.1 452 = .ok (.goto 92, 3) := dzq_167 (by decide +kernel)
theorem D_231_455 : decode J_231.2.2.1 455 = .ok (.aload_n 0, 1) := dzq_42 (by decide +kernel)
theorem D_231_456 : decode J_231.2.2.1 456 = .ok (.aload_n 0, 1) := dzq_42 (by decide +kernel)
theorem D_231_457 : decode J_231.2.2.1 457 = .ok (.getfield 154, 3) := dzq_180 (by decide +kernel)
theorem D_231_460 : decode J_231.2.2.1 460 = .ok (.iload_n 1, 1) := dzq_27 (by decide +kernel)
theorem D_231_461 : decode J_231.2.2.1 461 = .ok (.iaload, 1) := dzq_46 (by decide +kernel)
theorem D_231_462 : decode J_231.2.2.1 462 = .ok (.putfield 651, 3) := dzq_181 (by decide +kernel)
theorem D_231_465 : decode J_231.2.2.1 465 = .ok (.goto 79, 3) := dzq_167 (by decide +kernel)
theorem D_231_468 : decode J_231.2.2.1 468 = .ok (.aload_n 0, 1) := dzq_42 (by decide +kernel)
theorem D_231_469 : decode J_231.2.2.1 469 = .ok (.invokevirtual 669, 3) := dzq_182 (by decide +kernel)
theorem D_231_472 : decode J_231.2.2.1 472 = .ok (.istore_n 3, 1) := dzq_62 (by decide +kernel)
theorem D_231_473 : decode J_231.2.2.1 473 = .ok (.aload_n 0, 1) := dzq_42 (by decide +kernel)
theorem D_231_474 : decode J_231.2.2.1 474 = .ok (.getfield 684, 3) := dzq_180 (by decide +kernel)
theorem D_231_477 : decode J_231.2.2.1 477 = .ok (.sipush 200, 3) := dzq_17 (by decide +kernel)
theorem D_231_480 : decode J_231.2.2.1 480 = .ok (.if_icmp .ge 13, 3) := dzq_162 (by decide +kernel)
theorem D_231_483 : decode J_231.2.2.1 483 = .ok (.aload_n 0, 1) := dzq_42 (by decide +kernel)
theorem D_231_484 : decode J_231.2.2.1 484 = .ok (.getfield 227, 3) := dzq_180 (by decide +kernel)
theorem D_231_487 : decode J_231.2.2.1 487 = .ok (.aload_n 0, 1) := dzq_42 (by decide +kernel)
theorem D_231_488 : decode J_231.2.2.1 488 = .ok (.getfield 684, 3) := dzq_180 (by decide +kernel)
theorem D_231_491 : decode J_231.2.2.1 491 = .ok (.iload_n 3, 1) := dzq_29 (by decide +kernel)
theorem D_231_492 : decode J_231.2.2.1 492 = .ok (.iastore, 1) := dzq_79 (by decide +kernel)
theorem D_231_493 : decode J_231.2.2.1 493 = .ok (.aload_n 0, 1) := dzq_42 (by decide +kernel)
theorem D_231_494 : decode J_231.2.2.1 494 = .ok (.dup, 1) := dzq_89 (by decide +kernel)
theorem D_231_495 : decode J_231.2.2.1 495 = .ok (.getfield 684, 3) := dzq_180 (by decide +kernel)
theorem D_231_498 : decode J_231.2.2.1 498 = .ok (.iconst 1, 1) := dzq_4 (by decide +kernel)
theorem D_231_499 : decode J_231.2.2.1 499 = .ok (.iadd, 1) := dzq_96 (by decide +kernel)
theorem D_231_500 : decode J_231.2.2.1 500 = .ok (.putfield 684, 3) := dzq_181 (by decide +kernel)
theorem D_231_503 : decode J_231.2.2.1 503 = .ok (.goto 41, 3) := dzq_167 (by decide +kernel)
theorem D_231_506 : decode J_231.2.2.1 506 = .ok (.aload_n 0, 1) := dzq_42 (by decide +kernel)
theorem D_231_507 : decode J_231.2.2.1 507 = .ok (.dup, 1) := dzq_89 (by decide +kernel)
theorem D_231_508 : decode J_231.2.2.1 508 = .ok (.getfield 633, 3) := dzq_180 (by decide +kernel)
theorem D_231_511 : decode J_231.2.2.1 511 = .ok (.iconst 1, 1) := dzq_4 (by decide +kernel)
theorem D_231_512 : decode J_231.2.2.1 512 = .ok (.isub, 1) := dzq_100 (by decide +kernel)
theorem D_231_513 : decode J_231.2.2.1 513 = .ok (.putfield 633, 3) := dzq_181 (by decide +kernel)
theorem D_231_516 : decode J_231.2.2.1 516 = .ok (.goto 28, 3) := dzq_167 (by decide +kernel)
theorem D_231_519 : decode J_231.2.2.1 519 = .ok (.aload_n 0, 1) := dzq_42 (by decide +kernel)
theorem D_231_520 : decode J_231.2.2.1 520 = .ok (.aload_n 0, 1) := dzq_42 (by decide +kernel)
theorem D_231_521 : decode J_231.2.2.1 521 = .ok (.getfield 154, 3) := dzq_180 (by decide +kernel)
theorem D_231_524 : decode J_231.2.2.1 524 = .ok (.iload_n 1, 1) := dzq_27 (by decide +kernel)
theorem D_231_525 : decode J_231.2.2.1 525 = .ok (.iaload, 1) := dzq_46 (by decide +kernel)
theorem D_231_526 : decode J_231.2.2.1 526 = .ok (.iconst 1, 1) := dzq_4 (by decide +kernel)
theorem D_231_527 : decode J_231.2.2.1 527 = .ok (.if_icmp .ne 10, 3) := dzq_160 (by decide +kernel)
theorem D_231_530 : decode J_231.2.2.1 530 = .ok (.aload_n 0, 1) := dzq_42 (by decide +kernel)
theorem D_231_531 : decode J_231.2.2.1 531 = .ok (.invokevirtual 669, 3) := dzq_182 (by decide +kernel)
theorem D_231_534 : decode J_231.2.2.1 534 = .ok (.goto 4, 3) := dzq_167 (by decide +kernel)
theorem D_231_537 : decode J_231.2.2.1 537 = .ok (.iconst 0, 1) := dzq_3 (by decide +kernel)
theorem D_231_538 : decode J_231.2.2.1 538 = .ok (.invokevirtual 687, 3) := dzq_182 (by decide +kernel)
theorem D_231_541 : decode J_231.2.2.1 541 = .ok (.goto 3, 3) := dzq_167 (by decide +kernel)
theorem D_231_544 : decode J_231.2.2.1 544 = .ok (.return_, 1) := dzq_177 (by decide +kernel)
def P_231_346 (X : mjX) (d C S kc ks : Nat) (k : Nat → Int32 → Int32 → mjH → mjU) : Prop := ∀ (l0 : Nat) (l1 : Int32) (l2 : Int32) (hp : mjH) (q : Option Value × mjH), k l0 l1 l2 hp = some q → mjG X d C S J_231 (mjEq q) 346 [some (.ref l0), some (.int l1), some (.int l2), none, none] [] hp kc ks
def P_231_455 (X : mjX) (d C S kc ks : Nat) (k : Nat → Int32 → mjH → mjU) : Prop := ∀ (l0 : Nat) (l1 : Int32) (hp : mjH) (q : Option Value × mjH), k l0 l1 hp = some q → mjG X d C S J_231 (mjEq q) 455 [some (.ref l0), some (.int l1), none, none, none] [] hp kc ks
def P_231_493 (X : mjX) (d C S kc ks : Nat) (k : Nat → mjH → mjU) : Prop := ∀ (l0 : Nat) (hp : mjH) (q : Option Value × mjH), k l0 hp = some q → mjG X d C S J_231 (mjEq q) 493 [some (.ref l0), none, none, none, none] [] hp kc ks
def P_231_538 (X : mjX) (d C S kc ks : Nat) (k : Nat → Int32 → mjH → mjU) : Prop := ∀ (s0 : Nat) (s1 : Int32) (hp : mjH) (q : Option Value × mjH), k s0 s1 hp = some q → mjG X d C S J_231 (mjEq q) 538 [none, none, none, none, none] [.int s1, .ref s0] hp kc ks
def P_231_0 (X : mjX) (d C S kc ks : Nat) (k : Nat → Int32 → mjH → mjU) : Prop := ∀ (l0 : Nat) (l1 : Int32) (hp : mjH) (q : Option Value × mjH), k l0 l1 hp = some q → mjG X d C S J_231 (mjEq q) 0 [some (.ref l0), some (.int l1), none, none, none] [] hp kc ks
noncomputable def b_231_346 (R : mjR) (l0 : Nat) (l1 : Int32) (l2 : Int32) (hp : mjH) : mjU := gR hp l0 12 115 (fun v1 => gR hp l0 12 56 (fun v2 => aI hp v2 l1 (fun v3 => rV hp l0 12 (bI (R 238 [.ref l0] hp) (fun v4 hp5 => sI hp5 v1 (((16 : Int32) * l2) + v3) v4 (fun hp6 => some (none, hp6)))))))
theorem t_231_346 {X : mjX} {d C S kc ks : Nat} {R : mjR} (hR : mjC R d) (h1 : kc ≤ C) (h2 : ks ≤ S) : P_231_346 X (d + 1) C S kc ks (b_231_346 R) := by
  intro l0 l1 l2 hp q h
  unfold b_231_346 at h
  refine mjr_aload_n (x := l0) D_231_346 rfl ?_
  refine mjq_gR D_231_347 fr_12_251 h (fun v1 h => ?_)
  refine mjq_bi (v := (16 : Int32)) D_231_350 rfl ?_
  refine mjr_iload_n (x := l2) D_231_352 rfl ?_
  refine mjr_imul D_231_353 ?_
  refine mjr_aload_n (x := l0) D_231_354 rfl ?_
  refine mjq_gR D_231_355 fr_12_154 h (fun v2 h => ?_)
  refine mjr_iload_n (x := l1) D_231_358 rfl ?_
  refine mjq_aI D_231_359 h (fun v3 h => ?_)
  refine mjr_iadd D_231_360 ?_
  refine mjr_aload_n (x := l0) D_231_361 rfl ?_
  refine mjq_vI (As := []) (rest := [.int (((16 : Int32) * l2) + v3), .ref v1]) D_231_362 mr_12_669 V_238 rfl rfl rfl hR (Nat.le_refl _) h1 h2 h (fun v4 hp5 h => ?_)
  refine mjq_sI D_231_365 h (fun hp6 h => ?_)
  refine mjr_goto (tgt := 544) D_231_366 rfl ?_
  exact mjq_nret D_231_544 rfl h1 h2 h
noncomputable def b_231_455 (R : mjR) (l0 : Nat) (l1 : Int32) (hp : mjH) : mjU := gR hp l0 12 56 (fun v1 => aI hp v1 l1 (fun v2 => pI hp l0 12 119 v2 (fun hp3 => some (none, hp3))))
theorem t_231_455 {X : mjX} {d C S kc ks : Nat} {R : mjR} (hR : mjC R d) (h1 : kc ≤ C) (h2 : ks ≤ S) : P_231_455 X (d + 1) C S kc ks (b_231_455 R) := by
  intro l0 l1 hp q h
  unfold b_231_455 at h
  refine mjr_aload_n (x := l0) D_231_455 rfl ?_
  refine mjr_aload_n (x := l0) D_231_456 rfl ?_
  refine mjq_gR D_231_457 fr_12_154 h (fun v1 h => ?_)
  refine mjr_iload_n (x := l1) D_231_460 rfl ?_
  refine mjq_aI D_231_461 h (fun v2 h => ?_)
  refine mjq_pI D_231_462 fr_12_651 rfl rfl h (fun hp3 h => ?_)
  refine mjr_goto (tgt := 544) D_231_465 rfl ?_
  exact mjq_nret D_231_544 rfl h1 h2 h
noncomputable def b_231_493 (R : mjR) (l0 : Nat) (hp : mjH) : mjU := gI hp l0 12 106 (fun v1 => pI hp l0 12 106 (v1 + (1 : Int32)) (fun hp2 => some (none, hp2)))
theorem t_231_493 {X : mjX} {d C S kc ks : Nat} {R : mjR} (hR : mjC R d) (h1 : kc ≤ C) (h2 : ks ≤ S) : P_231_493 X (d + 1) C S kc ks (b_231_493 R) := by
  intro l0 hp q h
  unfold b_231_493 at h
  refine mjr_aload_n (x := l0) D_231_493 rfl ?_
  refine mjr_dup D_231_494 rfl ?_
  refine mjq_gI D_231_495 fr_12_684 h (fun v1 h => ?_)
  refine mjq_ic (v := (1 : Int32)) D_231_498 rfl ?_
  refine mjr_iadd D_231_499 ?_
  refine mjq_pI D_231_500 fr_12_684 rfl rfl h (fun hp2 h => ?_)
  refine mjr_goto (tgt := 544) D_231_503 rfl ?_
  exact mjq_nret D_231_544 rfl h1 h2 h
noncomputable def b_231_538 (R : mjR) (s0 : Nat) (s1 : Int32) (hp : mjH) : mjU := rV hp s0 12 (bN (R 244 [.ref s0, .int s1] hp) (fun  hp1 => some (none, hp1)))
theorem t_231_538 {X : mjX} {d C S kc ks : Nat} {R : mjR} (hR : mjC R d) (h1 : kc ≤ C) (h2 : ks ≤ S) : P_231_538 X (d + 1) C S kc ks (b_231_538 R) := by
  intro s0 s1 hp q h
  unfold b_231_538 at h
  refine mjq_vN (As := [.int s1]) (rest := []) D_231_538 mr_12_687 V_244 rfl rfl rfl hR (Nat.le_refl _) h1 h2 h (fun  hp1 h => ?_)
  refine mjr_goto (tgt := 544) D_231_541 rfl ?_
  exact mjq_nret D_231_544 rfl h1 h2 h
noncomputable def b_231_0 (R : mjR) (l0 : Nat) (l1 : Int32) (hp : mjH) : mjU := gI hp l0 12 116 (fun v1 => gR hp l0 12 54 (fun v2 => aI hp v2 l1 (fun v3 => (if v3 = (1 : Int32) then gR hp l0 12 113 (fun v5 => gR hp l0 12 55 (fun v6 => aI hp v6 l1 (fun v7 => sI hp v5 (v1 - (1 : Int32)) v7 (fun hp8 => some (none, hp8))))) else if v3 = (2 : Int32) then some (none, hp) else if v3 = (3 : Int32) then gR hp l0 12 56 (fun v11 => aI hp v11 l1 (fun v12 => rV hp l0 12 (bN (R 232 [.ref l0, .int v12] hp) (fun  hp13 => some (none, hp13))))) else if v3 = (4 : Int32) then rV hp l0 12 (bN (R 232 [.ref l0, .int (0 : Int32)] hp) (fun  hp15 => some (none, hp15))) else if v3 = (5 : Int32) then gR hp l0 12 112 (fun v17 => aI hp v17 (v1 - (1 : Int32)) (fun v18 => rV hp l0 12 (bN (R 232 [.ref l0, .int v18] hp) (fun  hp19 => some (none, hp19))))) else if v3 = (6 : Int32) then gR hp l0 12 115 (fun v21 => gR hp l0 12 56 (fun v22 => aI hp v22 l1 (fun v23 => aI hp v21 (((16 : Int32) * (v1 - (1 : Int32))) + v23) (fun v24 => rV hp l0 12 (bN (R 232 [.ref l0, .int v24] hp) (fun  hp25 => some (none, hp25))))))) else if v3 = (7 : Int32) then rV hp l0 12 (bN (R 233 [.ref l0, .int l1] hp) (fun  hp27 => some (none, hp27))) else if v3 = (8 : Int32) then rV hp l0 12 (bI (R 238 [.ref l0] hp) (fun v29 hp30 => rV hp30 l0 12 (bN (R 232 [.ref l0, .int (-v29)] hp30) (fun  hp31 => some (none, hp31))))) else if v3 = (9 : Int32) then rV hp l0 12 (bN (R 239 [.ref l0, .int l1] hp) (fun  hp33 => some (none, hp33))) else if v3 = (10 : Int32) then rV hp l0 12 (bI (R 238 [.ref l0] hp) (fun v35 hp36 => (if v35 = 0 then gR hp36 l0 12 55 (fun v48 => aI hp36 v48 l1 (fun v49 => rV hp36 l0 12 (bN (R 234 [.ref l0, .int (1 : Int32), .int v49] hp36) (fun  hp50 => some (none, hp50))))) else gR hp36 l0 12 108 (fun v37 => gR hp36 l0 12 110 (fun v38 => aI hp36 v38 v35 (fun v39 => gR hp36 l0 12 15 (fun v40 => gR hp36 l0 12 109 (fun v41 => aI hp36 v41 v35 (fun v42 => aI hp36 v40 v42 (fun v43 => gR hp36 l0 12 56 (fun v44 => aI hp36 v44 l1 (fun v45 => aI hp36 v37 ((v39 + v43) + v45) (fun v46 => rV hp36 l0 12 (bN (R 232 [.ref l0, .int v46] hp36) (fun  hp47 => some (none, hp47)))))))))))))))) else if v3 = (11 : Int32) then some (none, hp) else if v3 = (12 : Int32) then some (none, hp) else if v3 = (13 : Int32) then rV hp l0 12 (bN (R 240 [.ref l0, .int l1] hp) (fun  hp54 => some (none, hp54))) else if v3 = (14 : Int32) then gR hp l0 12 117 (fun v56 => gI hp l0 12 118 (fun v57 => aI hp v56 (v57 - (1 : Int32)) (fun v58 => gR hp l0 12 56 (fun v59 => aI hp v59 l1 (fun v60 => rV hp l0 12 (bI (R 243 [.ref l0, .int v58, .int v60] hp) (fun v61 hp62 => (if v61 = 0 then gR hp62 l0 12 55 (fun v63 => aI hp62 v63 l1 (fun v64 => rV hp62 l0 12 (bN (R 234 [.ref l0, .int (3 : Int32), .int v64] hp62) (fun  hp65 => some (none, hp65))))) else some (none, hp62))))))))) else if v3 = (15 : Int32) then some (none, hp) else if v3 = (16 : Int32) then some (none, hp) else if v3 = (17 : Int32) then b_231_346 R l0 l1 (v1 - (1 : Int32)) hp else if v3 = (18 : Int32) then rV hp l0 12 (bI (R 238 [.ref l0] hp) (fun v70 hp71 => rV hp71 l0 12 (bI (R 238 [.ref l0] hp71) (fun v72 hp73 => (if v72 = 0 then gR hp73 l0 12 57 (fun v84 => aI hp73 v84 l1 (fun v85 => rV hp73 l0 12 (bN (R 234 [.ref l0, .int (1 : Int32), .int v85] hp73) (fun  hp86 => some (none, hp86))))) else gR hp73 l0 12 108 (fun v74 => gR hp73 l0 12 110 (fun v75 => aI hp73 v75 v72 (fun v76 => gR hp73 l0 12 15 (fun v77 => gR hp73 l0 12 109 (fun v78 => aI hp73 v78 v72 (fun v79 => aI hp73 v77 v79 (fun v80 => gR hp73 l0 12 56 (fun v81 => aI hp73 v81 l1 (fun v82 => sI hp73 v74 ((v76 + v80) + v82) v70 (fun hp83 => some (none, hp83)))))))))))))))) else if v3 = (19 : Int32) then some (none, hp) else if v3 = (20 : Int32) then b_231_346 R l0 l1 (v1 - (1 : Int32)) hp else if v3 = (21 : Int32) then rV hp l0 12 (bI (R 238 [.ref l0] hp) (fun v90 hp91 => (if v90 = 0 then gR hp91 l0 12 56 (fun v92 => aI hp91 v92 l1 (fun v93 => pI hp91 l0 12 119 v93 (fun hp94 => some (none, hp94)))) else some (none, hp91)))) else if v3 = (22 : Int32) then b_231_455 R l0 l1 hp else if v3 = (23 : Int32) then b_231_455 R l0 l1 hp else if v3 = (24 : Int32) then rV hp l0 12 (bI (R 238 [.ref l0] hp) (fun v98 hp99 => gI hp99 l0 12 106 (fun v100 => (if (200 : Int32) ≤ v100 then b_231_493 R l0 hp99 else gR hp99 l0 12 107 (fun v101 => gI hp99 l0 12 106 (fun v102 => sI hp99 v101 v102 v98 (fun hp103 => b_231_493 R l0 hp103))))))) else if v3 = (25 : Int32) then gI hp l0 12 118 (fun v105 => pI hp l0 12 118 (v105 - (1 : Int32)) (fun hp106 => some (none, hp106))) else if v3 = (26 : Int32) then some (none, hp) else if v3 = (27 : Int32) then some (none, hp) else if v3 = (28 : Int32) then gR hp l0 12 56 (fun v110 => aI hp v110 l1 (fun v111 => (if v111 = (1 : Int32) then rV hp l0 12 (bI (R 238 [.ref l0] hp) (fun v112 hp113 => b_231_538 R l0 v112 hp113)) else b_231_538 R l0 (0 : Int32) hp))) else some (none, hp)))))
theorem t_231_0 {X : mjX} {d C S kc ks : Nat} {R : mjR} (hR : mjC R d) (h1 : kc ≤ C) (h2 : ks ≤ S) : P_231_0 X (d + 1) C S kc ks (b_231_0 R) := by
  intro l0 l1 hp q h
  unfold b_231_0 at h
  refine mjr_aload_n (x := l0) D_231_0 rfl ?_
  refine mjq_gI D_231_1 fr_12_627 h (fun v1 h => ?_)
  refine mjq_ic (v := (1 : Int32)) D_231_4 rfl ?_
  refine mjr_isub D_231_5 ?_
  refine mjq_istore_n (lo' := [some (.ref l0), some (.int l1), some (.int (v1 - (1 : Int32))), none, none]) D_231_6 (Nat.le_of_ble_eq_true rfl) rfl ?_
  refine mjr_aload_n (x := l0) D_231_7 rfl ?_
  refine mjq_gR D_231_8 fr_12_148 h (fun v2 h => ?_)
  refine mjr_iload_n (x := l1) D_231_11 rfl ?_
  refine mjq_aI D_231_12 h (fun v3 h => ?_)
  refine mjq_tsw (c := (1 : Int32)) (tgt := 140) D_231_13 (by decide) (by decide) rfl rfl h (fun h => ?_) (fun n4 h => ?_)
  · refine mjr_aload_n (x := l0) D_231_140 rfl ?_
    refine mjq_gR D_231_141 fr_12_245 h (fun v5 h => ?_)
    refine mjr_iload_n (x := (v1 - (1 : Int32))) D_231_144 rfl ?_
    refine mjr_aload_n (x := l0) D_231_145 rfl ?_
    refine mjq_gR D_231_146 fr_12_151 h (fun v6 h => ?_)
    refine mjr_iload_n (x := l1) D_231_149 rfl ?_
    refine mjq_aI D_231_150 h (fun v7 h => ?_)
    refine mjq_sI D_231_151 h (fun hp8 h => ?_)
    refine mjr_goto (tgt := 544) D_231_152 rfl ?_
    exact mjq_nret D_231_544 rfl h1 h2 h
  refine mjq_tsw (c := (2 : Int32)) (tgt := 544) D_231_13 (by decide) (by decide) rfl rfl h (fun h => ?_) (fun n9 h => ?_)
  · exact mjq_nret D_231_544 rfl h1 h2 h
  refine mjq_tsw (c := (3 : Int32)) (tgt := 155) D_231_13 (by decide) (by decide) rfl rfl h (fun h => ?_) (fun n10 h => ?_)
  · refine mjr_aload_n (x := l0) D_231_155 rfl ?_
    refine mjr_aload_n (x := l0) D_231_156 rfl ?_
    refine mjq_gR D_231_157 fr_12_154 h (fun v11 h => ?_)
    refine mjr_iload_n (x := l1) D_231_160 rfl ?_
    refine mjq_aI D_231_161 h (fun v12 h => ?_)
    refine mjq_vN (As := [.int v12]) (rest := []) D_231_162 mr_12_663 V_232 rfl rfl rfl hR (Nat.le_refl _) h1 h2 h (fun  hp13 h => ?_)
    refine mjr_goto (tgt := 544) D_231_165 rfl ?_
    exact mjq_nret D_231_544 rfl h1 h2 h
  refine mjq_tsw (c := (4 : Int32)) (tgt := 168) D_231_13 (by decide) (by decide) rfl rfl h (fun h => ?_) (fun n14 h => ?_)
  · refine mjr_aload_n (x := l0) D_231_168 rfl ?_
    refine mjq_ic (v := (0 : Int32)) D_231_169 rfl ?_
    refine mjq_vN (As := [.int (0 : Int32)]) (rest := []) D_231_170 mr_12_663 V_232 rfl rfl rfl hR (Nat.le_refl _) h1 h2 h (fun  hp15 h => ?_)
    refine mjr_goto (tgt := 544) D_231_173 rfl ?_
    exact mjq_nret D_231_544 rfl h1 h2 h
  refine mjq_tsw (c := (5 : Int32)) (tgt := 176) D_231_13 (by decide) (by decide) rfl rfl h (fun h => ?_) (fun n16 h => ?_)
  · refine mjr_aload_n (x := l0) D_231_176 rfl ?_
    refine mjr_aload_n (x := l0) D_231_177 rfl ?_
    refine mjq_gR D_231_178 fr_12_242 h (fun v17 h => ?_)
    refine mjr_iload_n (x := (v1 - (1 : Int32))) D_231_181 rfl ?_
    refine mjq_aI D_231_182 h (fun v18 h => ?_)
    refine mjq_vN (As := [.int v18]) (rest := []) D_231_183 mr_12_663 V_232 rfl rfl rfl hR (Nat.le_refl _) h1 h2 h (fun  hp19 h => ?_)
    refine mjr_goto (tgt := 544) D_231_186 rfl ?_
    exact mjq_nret D_231_544 rfl h1 h2 h
  refine mjq_tsw (c := (6 : Int32)) (tgt := 189) D_231_13 (by decide) (by decide) rfl rfl h (fun h => ?_) (fun n20 h => ?_)
  · refine mjr_aload_n (x := l0) D_231_189 rfl ?_
    refine mjr_aload_n (x := l0) D_231_190 rfl ?_
    refine mjq_gR D_231_191 fr_12_251 h (fun v21 h => ?_)
    refine mjq_bi (v := (16 : Int32)) D_231_194 rfl ?_
    refine mjr_iload_n (x := (v1 - (1 : Int32))) D_231_196 rfl ?_
    refine mjr_imul D_231_197 ?_
    refine mjr_aload_n (x := l0) D_231_198 rfl ?_
    refine mjq_gR D_231_199 fr_12_154 h (fun v22 h => ?_)
    refine mjr_iload_n (x := l1) D_231_202 rfl ?_
    refine mjq_aI D_231_203 h (fun v23 h => ?_)
    refine mjr_iadd D_231_204 ?_
    refine mjq_aI D_231_205 h (fun v24 h => ?_)
    refine mjq_vN (As := [.int v24]) (rest := []) D_231_206 mr_12_663 V_232 rfl rfl rfl hR (Nat.le_refl _) h1 h2 h (fun  hp25 h => ?_)
    refine mjr_goto (tgt := 544) D_231_209 rfl ?_
    exact mjq_nret D_231_544 rfl h1 h2 h
  refine mjq_tsw (c := (7 : Int32)) (tgt := 212) D_231_13 (by decide) (by decide) rfl rfl h (fun h => ?_) (fun n26 h => ?_)
  · refine mjr_aload_n (x := l0) D_231_212 rfl ?_
    refine mjr_iload_n (x := l1) D_231_213 rfl ?_
    refine mjq_vN (As := [.int l1]) (rest := []) D_231_214 mr_12_666 V_233 rfl rfl rfl hR (Nat.le_refl _) h1 h2 h (fun  hp27 h => ?_)
    refine mjr_goto (tgt := 544) D_231_217 rfl ?_
    exact mjq_nret D_231_544 rfl h1 h2 h
  refine mjq_tsw (c := (8 : Int32)) (tgt := 220) D_231_13 (by decide) (by decide) rfl rfl h (fun h => ?_) (fun n28 h => ?_)
  · refine mjr_aload_n (x := l0) D_231_220 rfl ?_
    refine mjr_aload_n (x := l0) D_231_221 rfl ?_
    refine mjq_vI (As := []) (rest := [.ref l0]) D_231_222 mr_12_669 V_238 rfl rfl rfl hR (Nat.le_refl _) h1 h2 h (fun v29 hp30 h => ?_)
    refine mjr_ineg D_231_225 ?_
    refine mjq_vN (As := [.int (-v29)]) (rest := []) D_231_226 mr_12_663 V_232 rfl rfl rfl hR (Nat.le_refl _) h1 h2 h (fun  hp31 h => ?_)
    refine mjr_goto (tgt := 544) D_231_229 rfl ?_
    exact mjq_nret D_231_544 rfl h1 h2 h
  refine mjq_tsw (c := (9 : Int32)) (tgt := 232) D_231_13 (by decide) (by decide) rfl rfl h (fun h => ?_) (fun n32 h => ?_)
  · refine mjr_aload_n (x := l0) D_231_232 rfl ?_
    refine mjr_iload_n (x := l1) D_231_233 rfl ?_
    refine mjq_vN (As := [.int l1]) (rest := []) D_231_234 mr_12_672 V_239 rfl rfl rfl hR (Nat.le_refl _) h1 h2 h (fun  hp33 h => ?_)
    refine mjr_goto (tgt := 544) D_231_237 rfl ?_
    exact mjq_nret D_231_544 rfl h1 h2 h
  refine mjq_tsw (c := (10 : Int32)) (tgt := 240) D_231_13 (by decide) (by decide) rfl rfl h (fun h => ?_) (fun n34 h => ?_)
  · refine mjr_aload_n (x := l0) D_231_240 rfl ?_
    refine mjq_vI (As := []) (rest := []) D_231_241 mr_12_669 V_238 rfl rfl rfl hR (Nat.le_refl _) h1 h2 h (fun v35 hp36 h => ?_)
    refine mjq_istore_n (lo' := [some (.ref l0), some (.int l1), some (.int (v1 - (1 : Int32))), some (.int v35), none]) D_231_244 (Nat.le_of_ble_eq_true rfl) rfl ?_
    refine mjr_iload_n (x := v35) D_231_245 rfl ?_
    refine mjq_if_ne (tgt := 263) D_231_246 rfl h (fun h => ?_) (fun h => ?_)
    · refine mjr_aload_n (x := l0) D_231_263 rfl ?_
      refine mjr_aload_n (x := l0) D_231_264 rfl ?_
      refine mjq_gR D_231_265 fr_12_230 h (fun v37 h => ?_)
      refine mjr_aload_n (x := l0) D_231_268 rfl ?_
      refine mjq_gR D_231_269 fr_12_236 h (fun v38 h => ?_)
      refine mjr_iload_n (x := v35) D_231_272 rfl ?_
      refine mjq_aI D_231_273 h (fun v39 h => ?_)
      refine mjr_aload_n (x := l0) D_231_274 rfl ?_
      refine mjq_gR D_231_275 fr_12_30 h (fun v40 h => ?_)
      refine mjr_aload_n (x := l0) D_231_278 rfl ?_
      refine mjq_gR D_231_279 fr_12_233 h (fun v41 h => ?_)
      refine mjr_iload_n (x := v35) D_231_282 rfl ?_
      refine mjq_aI D_231_283 h (fun v42 h => ?_)
      refine mjq_aI D_231_284 h (fun v43 h => ?_)
      refine mjr_iadd D_231_285 ?_
      refine mjr_aload_n (x := l0) D_231_286 rfl ?_
      refine mjq_gR D_231_287 fr_12_154 h (fun v44 h => ?_)
      refine mjr_iload_n (x := l1) D_231_290 rfl ?_
      refine mjq_aI D_231_291 h (fun v45 h => ?_)
      refine mjr_iadd D_231_292 ?_
      refine mjq_aI D_231_293 h (fun v46 h => ?_)
      refine mjq_vN (As := [.int v46]) (rest := []) D_231_294 mr_12_663 V_232 rfl rfl rfl hR (Nat.le_refl _) h1 h2 h (fun  hp47 h => ?_)
      refine mjr_goto (tgt := 544) D_231_297 rfl ?_
      exact mjq_nret D_231_544 rfl h1 h2 h
    · refine mjr_aload_n (x := l0) D_231_249 rfl ?_
      refine mjq_ic (v := (1 : Int32)) D_231_250 rfl ?_
      refine mjr_aload_n (x := l0) D_231_251 rfl ?_
      refine mjq_gR D_231_252 fr_12_151 h (fun v48 h => ?_)
      refine mjr_iload_n (x := l1) D_231_255 rfl ?_
      refine mjq_aI D_231_256 h (fun v49 h => ?_)
      refine mjq_vN (As := [.int (1 : Int32), .int v49]) (rest := []) D_231_257 mr_12_675 V_234 rfl rfl rfl hR (Nat.le_refl _) h1 h2 h (fun  hp50 h => ?_)
      refine mjr_goto (tgt := 544) D_231_260 rfl ?_
      exact mjq_nret D_231_544 rfl h1 h2 h
  refine mjq_tsw (c := (11 : Int32)) (tgt := 544) D_231_13 (by decide) (by decide) rfl rfl h (fun h => ?_) (fun n51 h => ?_)
  · exact mjq_nret D_231_544 rfl h1 h2 h
  refine mjq_tsw (c := (12 : Int32)) (tgt := 544) D_231_13 (by decide) (by decide) rfl rfl h (fun h => ?_) (fun n52 h => ?_)
  · exact mjq_nret D_231_544 rfl h1 h2 h
  refine mjq_tsw (c := (13 : Int32)) (tgt := 300) D_231_13 (by decide) (by decide) rfl rfl h (fun h => ?_) (fun n53 h => ?_)
  · refine mjr_aload_n (x := l0) D_231_300 rfl ?_
    refine mjr_iload_n (x := l1) D_231_301 rfl ?_
    refine mjq_vN (As := [.int l1]) (rest := []) D_231_302 mr_12_678 V_240 rfl rfl rfl hR (Nat.le_refl _) h1 h2 h (fun  hp54 h => ?_)
    refine mjr_goto (tgt := 544) D_231_305 rfl ?_
    exact mjq_nret D_231_544 rfl h1 h2 h
  refine mjq_tsw (c := (14 : Int32)) (tgt := 308) D_231_13 (by decide) (by decide) rfl rfl h (fun h => ?_) (fun n55 h => ?_)
  · refine mjr_aload_n (x := l0) D_231_308 rfl ?_
    refine mjr_aload_n (x := l0) D_231_309 rfl ?_
    refine mjq_gR D_231_310 fr_12_254 h (fun v56 h => ?_)
    refine mjr_aload_n (x := l0) D_231_313 rfl ?_
    refine mjq_gI D_231_314 fr_12_633 h (fun v57 h => ?_)
    refine mjq_ic (v := (1 : Int32)) D_231_317 rfl ?_
    refine mjr_isub D_231_318 ?_
    refine mjq_aI D_231_319 h (fun v58 h => ?_)
    refine mjr_aload_n (x := l0) D_231_320 rfl ?_
    refine mjq_gR D_231_321 fr_12_154 h (fun v59 h => ?_)
    refine mjr_iload_n (x := l1) D_231_324 rfl ?_
    refine mjq_aI D_231_325 h (fun v60 h => ?_)
    refine mjq_vI (As := [.int v58, .int v60]) (rest := []) D_231_326 mr_12_681 V_243 rfl rfl rfl hR (Nat.le_refl _) h1 h2 h (fun v61 hp62 h => ?_)
    refine mjq_if_ne (tgt := 544) D_231_329 rfl h (fun h => ?_) (fun h => ?_)
    · exact mjq_nret D_231_544 rfl h1 h2 h
    · refine mjr_aload_n (x := l0) D_231_332 rfl ?_
      refine mjq_ic (v := (3 : Int32)) D_231_333 rfl ?_
      refine mjr_aload_n (x := l0) D_231_334 rfl ?_
      refine mjq_gR D_231_335 fr_12_151 h (fun v63 h => ?_)
      refine mjr_iload_n (x := l1) D_231_338 rfl ?_
      refine mjq_aI D_231_339 h (fun v64 h => ?_)
      refine mjq_vN (As := [.int (3 : Int32), .int v64]) (rest := []) D_231_340 mr_12_675 V_234 rfl rfl rfl hR (Nat.le_refl _) h1 h2 h (fun  hp65 h => ?_)
      refine mjr_goto (tgt := 544) D_231_343 rfl ?_
      exact mjq_nret D_231_544 rfl h1 h2 h
  refine mjq_tsw (c := (15 : Int32)) (tgt := 544) D_231_13 (by decide) (by decide) rfl rfl h (fun h => ?_) (fun n66 h => ?_)
  · exact mjq_nret D_231_544 rfl h1 h2 h
  refine mjq_tsw (c := (16 : Int32)) (tgt := 544) D_231_13 (by decide) (by decide) rfl rfl h (fun h => ?_) (fun n67 h => ?_)
  · exact mjq_nret D_231_544 rfl h1 h2 h
  refine mjq_tsw (c := (17 : Int32)) (tgt := 346) D_231_13 (by decide) (by decide) rfl rfl h (fun h => ?_) (fun n68 h => ?_)
  · exact (t_231_346 hR h1 h2) _ _ _ _ _ h
  refine mjq_tsw (c := (18 : Int32)) (tgt := 369) D_231_13 (by decide) (by decide) rfl rfl h (fun h => ?_) (fun n69 h => ?_)
  · refine mjr_aload_n (x := l0) D_231_369 rfl ?_
    refine mjq_vI (As := []) (rest := []) D_231_370 mr_12_669 V_238 rfl rfl rfl hR (Nat.le_refl _) h1 h2 h (fun v70 hp71 h => ?_)
    refine mjq_istore_n (lo' := [some (.ref l0), some (.int l1), some (.int (v1 - (1 : Int32))), some (.int v70), none]) D_231_373 (Nat.le_of_ble_eq_true rfl) rfl ?_
    refine mjr_aload_n (x := l0) D_231_374 rfl ?_
    refine mjq_vI (As := []) (rest := []) D_231_375 mr_12_669 V_238 rfl rfl rfl hR (Nat.le_refl _) h1 h2 h (fun v72 hp73 h => ?_)
    refine mjq_istore (lo' := [some (.ref l0), some (.int l1), some (.int (v1 - (1 : Int32))), some (.int v70), some (.int v72)]) D_231_378 (Nat.le_of_ble_eq_true rfl) rfl ?_
    refine mjr_iload (x := v72) D_231_380 rfl ?_
    refine mjq_if_ne (tgt := 399) D_231_382 rfl h (fun h => ?_) (fun h => ?_)
    · refine mjr_aload_n (x := l0) D_231_399 rfl ?_
      refine mjq_gR D_231_400 fr_12_230 h (fun v74 h => ?_)
      refine mjr_aload_n (x := l0) D_231_403 rfl ?_
      refine mjq_gR D_231_404 fr_12_236 h (fun v75 h => ?_)
      refine mjr_iload (x := v72) D_231_407 rfl ?_
      refine mjq_aI D_231_409 h (fun v76 h => ?_)
      refine mjr_aload_n (x := l0) D_231_410 rfl ?_
      refine mjq_gR D_231_411 fr_12_30 h (fun v77 h => ?_)
      refine mjr_aload_n (x := l0) D_231_414 rfl ?_
      refine mjq_gR D_231_415 fr_12_233 h (fun v78 h => ?_)
      refine mjr_iload (x := v72) D_231_418 rfl ?_
      refine mjq_aI D_231_420 h (fun v79 h => ?_)
      refine mjq_aI D_231_421 h (fun v80 h => ?_)
      refine mjr_iadd D_231_422 ?_
      refine mjr_aload_n (x := l0) D_231_423 rfl ?_
      refine mjq_gR D_231_424 fr_12_154 h (fun v81 h => ?_)
      refine mjr_iload_n (x := l1) D_231_427 rfl ?_
      refine mjq_aI D_231_428 h (fun v82 h => ?_)
      refine mjr_iadd D_231_429 ?_
      refine mjr_iload_n (x := v70) D_231_430 rfl ?_
      refine mjq_sI D_231_431 h (fun hp83 h => ?_)
      refine mjr_goto (tgt := 544) D_231_432 rfl ?_
      exact mjq_nret D_231_544 rfl h1 h2 h
    · refine mjr_aload_n (x := l0) D_231_385 rfl ?_
      refine mjq_ic (v := (1 : Int32)) D_231_386 rfl ?_
      refine mjr_aload_n (x := l0) D_231_387 rfl ?_
      refine mjq_gR D_231_388 fr_12_157 h (fun v84 h => ?_)
      refine mjr_iload_n (x := l1) D_231_391 rfl ?_
      refine mjq_aI D_231_392 h (fun v85 h => ?_)
      refine mjq_vN (As := [.int (1 : Int32), .int v85]) (rest := []) D_231_393 mr_12_675 V_234 rfl rfl rfl hR (Nat.le_refl _) h1 h2 h (fun  hp86 h => ?_)
      refine mjr_goto (tgt := 544) D_231_396 rfl ?_
      exact mjq_nret D_231_544 rfl h1 h2 h
  refine mjq_tsw (c := (19 : Int32)) (tgt := 544) D_231_13 (by decide) (by decide) rfl rfl h (fun h => ?_) (fun n87 h => ?_)
  · exact mjq_nret D_231_544 rfl h1 h2 h
  refine mjq_tsw (c := (20 : Int32)) (tgt := 346) D_231_13 (by decide) (by decide) rfl rfl h (fun h => ?_) (fun n88 h => ?_)
  · exact (t_231_346 hR h1 h2) _ _ _ _ _ h
  refine mjq_tsw (c := (21 : Int32)) (tgt := 435) D_231_13 (by decide) (by decide) rfl rfl h (fun h => ?_) (fun n89 h => ?_)
  · refine mjr_aload_n (x := l0) D_231_435 rfl ?_
    refine mjq_vI (As := []) (rest := []) D_231_436 mr_12_669 V_238 rfl rfl rfl hR (Nat.le_refl _) h1 h2 h (fun v90 hp91 h => ?_)
    refine mjq_if_ne (tgt := 544) D_231_439 rfl h (fun h => ?_) (fun h => ?_)
    · exact mjq_nret D_231_544 rfl h1 h2 h
    · refine mjr_aload_n (x := l0) D_231_442 rfl ?_
      refine mjr_aload_n (x := l0) D_231_443 rfl ?_
      refine mjq_gR D_231_444 fr_12_154 h (fun v92 h => ?_)
      refine mjr_iload_n (x := l1) D_231_447 rfl ?_
      refine mjq_aI D_231_448 h (fun v93 h => ?_)
      refine mjq_pI D_231_449 fr_12_651 rfl rfl h (fun hp94 h => ?_)
      refine mjr_goto (tgt := 544) D_231_452 rfl ?_
      exact mjq_nret D_231_544 rfl h1 h2 h
  refine mjq_tsw (c := (22 : Int32)) (tgt := 455) D_231_13 (by decide) (by decide) rfl rfl h (fun h => ?_) (fun n95 h => ?_)
  · exact mjG.fg (lo' := [some (.ref l0), some (.int l1), none, none, none]) (And.intro rfl (And.intro rfl True.intro)) ((t_231_455 hR h1 h2) _ _ _ _ h)
  refine mjq_tsw (c := (23 : Int32)) (tgt := 455) D_231_13 (by decide) (by decide) rfl rfl h (fun h => ?_) (fun n96 h => ?_)
  · exact mjG.fg (lo' := [some (.ref l0), some (.int l1), none, none, none]) (And.intro rfl (And.intro rfl True.intro)) ((t_231_455 hR h1 h2) _ _ _ _ h)
  refine mjq_tsw (c := (24 : Int32)) (tgt := 468) D_231_13 (by decide) (by decide) rfl rfl h (fun h => ?_) (fun n97 h => ?_)
  · refine mjr_aload_n (x := l0) D_231_468 rfl ?_
    refine mjq_vI (As := []) (rest := []) D_231_469 mr_12_669 V_238 rfl rfl rfl hR (Nat.le_refl _) h1 h2 h (fun v98 hp99 h => ?_)
    refine mjq_istore_n (lo' := [some (.ref l0), some (.int l1), some (.int (v1 - (1 : Int32))), some (.int v98), none]) D_231_472 (Nat.le_of_ble_eq_true rfl) rfl ?_
    refine mjr_aload_n (x := l0) D_231_473 rfl ?_
    refine mjq_gI D_231_474 fr_12_684 h (fun v100 h => ?_)
    refine mjq_si (v := (200 : Int32)) D_231_477 rfl ?_
    refine mjq_icmp_ge (tgt := 493) D_231_480 rfl h (fun h => ?_) (fun h => ?_)
    · exact mjG.fg (lo' := [some (.ref l0), none, none, none, none]) (And.intro rfl True.intro) ((t_231_493 hR h1 h2) _ _ _ h)
    · refine mjr_aload_n (x := l0) D_231_483 rfl ?_
      refine mjq_gR D_231_484 fr_12_227 h (fun v101 h => ?_)
      refine mjr_aload_n (x := l0) D_231_487 rfl ?_
      refine mjq_gI D_231_488 fr_12_684 h (fun v102 h => ?_)
      refine mjr_iload_n (x := v98) D_231_491 rfl ?_
      refine mjq_sI D_231_492 h (fun hp103 h => ?_)
      exact mjG.fg (lo' := [some (.ref l0), none, none, none, none]) (And.intro rfl True.intro) ((t_231_493 hR h1 h2) _ _ _ h)
  refine mjq_tsw (c := (25 : Int32)) (tgt := 506) D_231_13 (by decide) (by decide) rfl rfl h (fun h => ?_) (fun n104 h => ?_)
  · refine mjr_aload_n (x := l0) D_231_506 rfl ?_
    refine mjr_dup D_231_507 rfl ?_
    refine mjq_gI D_231_508 fr_12_633 h (fun v105 h => ?_)
    refine mjq_ic (v := (1 : Int32)) D_231_511 rfl ?_
    refine mjr_isub D_231_512 ?_
    refine mjq_pI D_231_513 fr_12_633 rfl rfl h (fun hp106 h => ?_)
    refine mjr_goto (tgt := 544) D_231_516 rfl ?_
    exact mjq_nret D_231_544 rfl h1 h2 h
  refine mjq_tsw (c := (26 : Int32)) (tgt := 544) D_231_13 (by decide) (by decide) rfl rfl h (fun h => ?_) (fun n107 h => ?_)
  · exact mjq_nret D_231_544 rfl h1 h2 h
  refine mjq_tsw (c := (27 : Int32)) (tgt := 544) D_231_13 (by decide) (by decide) rfl rfl h (fun h => ?_) (fun n108 h => ?_)
  · exact mjq_nret D_231_544 rfl h1 h2 h
  refine mjq_tsw (c := (28 : Int32)) (tgt := 519) D_231_13 (by decide) (by decide) rfl rfl h (fun h => ?_) (fun n109 h => ?_)
  · refine mjr_aload_n (x := l0) D_231_519 rfl ?_
    refine mjr_aload_n (x := l0) D_231_520 rfl ?_
    refine mjq_gR D_231_521 fr_12_154 h (fun v110 h => ?_)
    refine mjr_iload_n (x := l1) D_231_524 rfl ?_
    refine mjq_aI D_231_525 h (fun v111 h => ?_)
    refine mjq_ic (v := (1 : Int32)) D_231_526 rfl ?_
    refine mjq_icmp_ne (tgt := 537) D_231_527 rfl h (fun h => ?_) (fun h => ?_)
    · refine mjq_ic (v := (0 : Int32)) D_231_537 rfl ?_
      exact mjG.fg (lo' := [none, none, none, none, none]) True.intro ((t_231_538 hR h1 h2) _ _ _ _ h)
    · refine mjr_aload_n (x := l0) D_231_530 rfl ?_
      refine mjq_vI (As := []) (rest := [.ref l0]) D_231_531 mr_12_669 V_238 rfl rfl rfl hR (Nat.le_refl _) h1 h2 h (fun v112 hp113 h => ?_)
      refine mjr_goto (tgt := 538) D_231_534 rfl ?_
      exact mjG.fg (lo' := [none, none, none, none, none]) True.intro ((t_231_538 hR h1 h2) _ _ _ _ h)
  refine mjr_tableOut (tgt := 544) D_231_13 (mj_swout [(1 : Int32), (2 : Int32), (3 : Int32), (4 : Int32), (5 : Int32), (6 : Int32), (7 : Int32), (8 : Int32), (9 : Int32), (10 : Int32), (11 : Int32), (12 : Int32), (13 : Int32), (14 : Int32), (15 : Int32), (16 : Int32), (17 : Int32), (18 : Int32), (19 : Int32), (20 : Int32), (21 : Int32), (22 : Int32), (23 : Int32), (24 : Int32), (25 : Int32), (26 : Int32), (27 : Int32), (28 : Int32)] (by decide) (mj_all1 n4 (mj_all1 n9 (mj_all1 n10 (mj_all1 n14 (mj_all1 n16 (mj_all1 n20 (mj_all1 n26 (mj_all1 n28 (mj_all1 n32 (mj_all1 n34 (mj_all1 n51 (mj_all1 n52 (mj_all1 n53 (mj_all1 n55 (mj_all1 n66 (mj_all1 n67 (mj_all1 n68 (mj_all1 n69 (mj_all1 n87 (mj_all1 n88 (mj_all1 n89 (mj_all1 n95 (mj_all1 n96 (mj_all1 n97 (mj_all1 n104 (mj_all1 n107 (mj_all1 n108 (mj_all1 n109 mj_all0))))))))))))))))))))))))))))) rfl ?_
  exact mjq_nret D_231_544 rfl h1 h2 h
noncomputable def f_231 (R : mjR) (a0 : Nat) (a1 : Int32) (hp : mjH) : mjU := b_231_0 R a0 a1 hp
theorem c_231 {R : mjR} {d : Nat} (hR : mjC R d) {a0 : Nat} {a1 : Int32} {hp : mjH} {q : Option Value × mjH} (h : f_231 R a0 a1 hp = some q) : mjM (d + 1) 0 0 231 [.ref a0, .int a1] hp (mjEq q) :=
  mjM_of Ja_231 (Nat.le_of_ble_eq_true rfl) (mjG.fg (lo' := [some (.ref a0), some (.int a1), none, none, none]) (And.intro rfl (And.intro rfl True.intro)) ((t_231_0 hR (Nat.le_refl 0) (Nat.le_refl 0)) a0 a1 hp q h))
def J_232 : mjI := (⟨"OwnerHeapModel", "push", "(I)V"⟩, 12, prog_14_method_84_code, 2, none, 1, false)
theorem Ja_232 : mjMt 232 = some J_232 := by rfl
theorem D_232_0 : decode J_232.2.2.1 0 = .ok (.aload_n 0, 1) := dzq_42 (by decide +kernel)
theorem D_232_1 : decode J_232.2.2.1 1 = .ok (.getfield 254, 3) := dzq_180 (by decide +kernel)
theorem D_232_4 : decode J_232.2.2.1 4 = .ok (.aload_n 0, 1) := dzq_42 (by decide +kernel)
theorem D_232_5 : decode J_232.2.2.1 5 = .ok (.getfield 633, 3) := dzq_180 (by decide +kernel)
theorem D_232_8 : decode J_232.2.2.1 8 = .ok (.iload_n 1, 1) := dzq_27 (by decide +kernel)
theorem D_232_9 : decode J_232.2.2.1 9 = .ok (.iastore, 1) := dzq_79 (by decide +kernel)
theorem D_232_10 : decode J_232.2.2.1 10 = .ok (.aload_n 0, 1) := dzq_42 (by decide +kernel)
theorem D_232_11 : decode J_232.2.2.1 11 = .ok (.dup, 1) := dzq_89 (by decide +kernel)
theorem D_232_12 : decode J_232.2.2.1 12 = .ok (.getfield 633, 3) := dzq_180 (by decide +kernel)
theorem D_232_15 : decode J_232.2.2.1 15 = .ok (.iconst 1, 1) := dzq_4 (by decide +kernel)
theorem D_232_16 : decode J_232.2.2.1 16 = .ok (.iadd, 1) := dzq_96 (by decide +kernel)
theorem D_232_17 : decode J_232.2.2.1 17 = .ok (.putfield 633, 3) := dzq_181 (by decide +kernel)
theorem D_232_20 : decode J_232.2.2.1 20 = .ok (.return_, 1) := dzq_177 (by decide +kernel)
def P_232_0 (X : mjX) (d C S kc ks : Nat) (k : Nat → Int32 → mjH → mjU) : Prop := ∀ (l0 : Nat) (l1 : Int32) (hp : mjH) (q : Option Value × mjH), k l0 l1 hp = some q → mjG X d C S J_232 (mjEq q) 0 [some (.ref l0), some (.int l1)] [] hp kc ks
noncomputable def b_232_0 (R : mjR) (l0 : Nat) (l1 : Int32) (hp : mjH) : mjU := gR hp l0 12 117 (fun v1 => gI hp l0 12 118 (fun v2 => sI hp v1 v2 l1 (fun hp3 => gI hp3 l0 12 118 (fun v4 => pI hp3 l0 12 118 (v4 + (1 : Int32)) (fun hp5 => some (none, hp5))))))
theorem t_232_0 {X : mjX} {d C S kc ks : Nat} {R : mjR} (hR : mjC R d) (h1 : kc ≤ C) (h2 : ks ≤ S) : P_232_0 X (d + 1) C S kc ks (b_232_0 R) := by
  intro l0 l1 hp q h
  unfold b_232_0 at h
  refine mjr_aload_n (x := l0) D_232_0 rfl ?_
  refine mjq_gR D_232_1 fr_12_254 h (fun v1 h => ?_)
  refine mjr_aload_n (x := l0) D_232_4 rfl ?_
  refine mjq_gI D_232_5 fr_12_633 h (fun v2 h => ?_)
  refine mjr_iload_n (x := l1) D_232_8 rfl ?_
  refine mjq_sI D_232_9 h (fun hp3 h => ?_)
  refine mjr_aload_n (x := l0) D_232_10 rfl ?_
  refine mjr_dup D_232_11 rfl ?_
  refine mjq_gI D_232_12 fr_12_633 h (fun v4 h => ?_)
  refine mjq_ic (v := (1 : Int32)) D_232_15 rfl ?_
  refine mjr_iadd D_232_16 ?_
  refine mjq_pI D_232_17 fr_12_633 rfl rfl h (fun hp5 h => ?_)
  exact mjq_nret D_232_20 rfl h1 h2 h
noncomputable def f_232 (R : mjR) (a0 : Nat) (a1 : Int32) (hp : mjH) : mjU := b_232_0 R a0 a1 hp
theorem c_232 {R : mjR} {d : Nat} (hR : mjC R d) {a0 : Nat} {a1 : Int32} {hp : mjH} {q : Option Value × mjH} (h : f_232 R a0 a1 hp = some q) : mjM (d + 1) 0 0 232 [.ref a0, .int a1] hp (mjEq q) :=
  mjM_of Ja_232 (Nat.le_of_ble_eq_true rfl) (mjG.fg (lo' := [some (.ref a0), some (.int a1)]) (And.intro rfl (And.intro rfl True.intro)) ((t_232_0 hR (Nat.le_refl 0) (Nat.le_refl 0)) a0 a1 hp q h))
def J_233 : mjI := (⟨"OwnerHeapModel", "make", "(I)V"⟩, 12, prog_14_method_90_code, 7, none, 1, false)
theorem Ja_233 : mjMt 233 = some J_233 := by rfl
theorem D_233_0 : decode J_233.2.2.1 0 = .ok (.aload_n 0, 1) := dzq_42 (by decide +kernel)
theorem D_233_1 : decode J_233.2.2.1 1 = .ok (.getfield 154, 3) := dzq_180 (by decide +kernel)
theorem D_233_4 : decode J_233.2.2.1 4 = .ok (.iload_n 1, 1) := dzq_27 (by decide +kernel)
theorem D_233_5 : decode J_233.2.2.1 5 = .ok (.iaload, 1) := dzq_46 (by decide +kernel)
theorem D_233_6 : decode J_233.2.2.1 6 = .ok (.istore_n 2, 1) := dzq_61 (by decide +kernel)
theorem D_233_7 : decode J_233.2.2.1 7 = .ok (.aload_n 0, 1) := dzq_42 (by decide +kernel)
theorem D_233_8 : decode J_233.2.2.1 8 = .ok (.getfield 136, 3) := dzq_180 (by decide +kernel)
theorem D_233_11 : decode J_233.2.2.1 11 = .ok (.iload_n 2, 1) := dzq_28 (by decide +kernel)
theorem D_233_12 : decode J_233.2.2.1 12 = .ok (.iaload, 1) := dzq_46 (by decide +kernel)
theorem D_233_13 : decode J_233.2.2.1 13 = .ok (.istore_n 3, 1) := dzq_62 (by decide +kernel)
theorem D_233_14 : decode J_233.2.2.1 14 = .ok (.iconst 2, 1) := dzq_5 (by decide +kernel)
theorem D_233_15 : decode J_233.2.2.1 15 = .ok (.aload_n 0, 1) := dzq_42 (by decide +kernel)
theorem D_233_16 : decode J_233.2.2.1 16 = .ok (.getfield 30, 3) := dzq_180 (by decide +kernel)
theorem D_233_19 : decode J_233.2.2.1 19 = .ok (.iload_n 3, 1) := dzq_29 (by decide +kernel)
theorem D_233_20 : decode J_233.2.2.1 20 = .ok (.iaload, 1) := dzq_46 (by decide +kernel)
theorem D_233_21 : decode J_233.2.2.1 21 = .ok (.iadd, 1) := dzq_96 (by decide +kernel)
theorem D_233_22 : decode J_233.2.2.1 22 = .ok (.aload_n 0, 1) := dzq_42 (by decide +kernel)
theorem D_233_23 : decode J_233.2.2.1 23 = .ok (.getfield 45, 3) := dzq_180 (by decide +kernel)
theorem D_233_26 : decode J_233.2.2.1 26 = .ok (.iload_n 3, 1) := dzq_29 (by decide +kernel)
theorem D_233_27 : decode J_233.2.2.1 27 = .ok (.iaload, 1) := dzq_46 (by decide +kernel)
theorem D_233_28 : decode J_233.2.2.1 28 = .ok (.iadd, 1) := dzq_96 (by decide +kernel)
theorem D_233_29 : decode J_233.2.2.1 29 = .ok (.istore 4, 2) := dzq_54 (by decide +kernel)
theorem D_233_31 : decode J_233.2.2.1 31 = .ok (.aload_n 0, 1) := dzq_42 (by decide +kernel)
theorem D_233_32 : decode J_233.2.2.1 32 = .ok (.getfield 690, 3) := dzq_180 (by decide +kernel)
theorem D_233_35 : decode J_233.2.2.1 35 = .ok (.iload 4, 2) := dzq_21 (by decide +kernel)
theorem D_233_37 : decode J_233.2.2.1 37 = .ok (.iadd, 1) := dzq_96 (by decide +kernel)
theorem D_233_38 : decode J_233.2.2.1 38 = .ok (.aload_n 0, 1) := dzq_42 (by decide +kernel)
theorem D_233_39 : decode J_233.2.2.1 39 = .ok (.getfield 693, 3) := dzq_180 (by decide +kernel)
theorem D_233_42 : decode J_233.2.2.1 42 = .ok (.if_icmp .le 15, 3) := dzq_164 (by decide +kernel)
theorem D_233_45 : decode J_233.2.2.1 45 = .ok (.aload_n 0, 1) := dzq_42 (by decide +kernel)
theorem D_233_46 : decode J_233.2.2.1 46 = .ok (.iconst 4, 1) := dzq_7 (by decide +kernel)
theorem D_233_47 : decode J_233.2.2.1 47 = .ok (.aload_n 0, 1) := dzq_42 (by decide +kernel)
theorem D_233_48 : decode J_233.2.2.1 48 = .ok (.getfield 151, 3) := dzq_180 (by decide +kernel)
theorem D_233_51 : decode J_233.2.2.1 51 = .ok (.iload_n 1, 1) := dzq_27 (by decide +kernel)
theorem D_233_52 : decode J_233.2.2.1 52 = .ok (.iaload, 1) := dzq_46 (by decide +kernel)
theorem D_233_53 : decode J_233.2.2.1 53 = .ok (.invokevirtual 675, 3) := dzq_182 (by decide +kernel)
theorem D_233_56 : decode J_233.2.2.1 56 = .ok (.return_, 1) := dzq_177 (by decide +kernel)
theorem D_233_57 : decode J_233.2.2.1 57 = .ok (.aload_n 0, 1) := dzq_42 (by decide +kernel)
theorem D_233_58 : decode J_233.2.2.1 58 = .ok (.iload_n 2, 1) := dzq_28 (by decide +kernel)
theorem D_233_59 : decode J_233.2.2.1 59 = .ok (.invokevirtual 696, 3) := dzq_182 (by decide +kernel)
theorem D_233_62 : decode J_233.2.2.1 62 = .ok (.aload_n 0, 1) := dzq_42 (by decide +kernel)
theorem D_233_63 : decode J_233.2.2.1 63 = .ok (.getfield 699, 3) := dzq_180 (by decide +kernel)
theorem D_233_66 : decode J_233.2.2.1 66 = .ok (.iconst 1, 1) := dzq_4 (by decide +kernel)
theorem D_233_67 : decode J_233.2.2.1 67 = .ok (.iadd, 1) := dzq_96 (by decide +kernel)
theorem D_233_68 : decode J_233.2.2.1 68 = .ok (.istore 5, 2) := dzq_54 (by decide +kernel)
theorem D_233_70 : decode J_233.2.2.1 70 = .ok (.aload_n 0, 1) := dzq_42 (by decide +kernel)
theorem D_233_71 : decode J_233.2.2.1 71 = .ok (.getfield 233, 3) := dzq_180 (by decide +kernel)
theorem D_233_74 : decode J_233.2.2.1 74 = .ok (.iload 5, 2) := dzq_21 (by decide +kernel)
theorem D_233_76 : decode J_233.2.2.1 76 = .ok (.iload_n 3, 1) := dzq_29 (by decide +kernel)
theorem D_233_77 : decode J_233.2.2.1 77 = .ok (.iastore, 1) := dzq_79 (by decide +kernel)
theorem D_233_78 : decode J_233.2.2.1 78 = .ok (.aload_n 0, 1) := dzq_42 (by decide +kernel)
theorem D_233_79 : decode J_233.2.2.1 79 = .ok (.getfield 236, 3) := dzq_180 (by decide +kernel)
theorem D_233_82 : decode J_233.2.2.1 82 = .ok (.iload 5, 2) := dzq_21 (by decide +kernel)
theorem D_233_84 : decode J_233.2.2.1 84 = .ok (.aload_n 0, 1) := dzq_42 (by decide +kernel)
theorem D_233_85 : decode J_233.2.2.1 85 = .ok (.getfield 690, 3) := dzq_180 (by decide +kernel)
theorem D_233_88 : decode J_233.2.2.1 88 = .ok (.iconst 2, 1) := dzq_5 (by decide +kernel)
theorem D_233_89 : decode J_233.2.2.1 89 = .ok (.aload_n 0, 1) := dzq_42 (by decide +kernel)
theorem D_233_90 : decode J_233.2.2.1 90 = .ok (.getfield 699, 3) := dzq_180 (by decide +kernel)
theorem D_233_93 : decode J_233.2.2.1 93 = .ok (.imul, 1) := dzq_104 (by decide +kernel)
theorem D_233_94 : decode J_233.2.2.1 94 = .ok (.isub, 1) := dzq_100 (by decide +kernel)
theorem D_233_95 : decode J_233.2.2.1 95 = .ok (.iastore, 1) := dzq_79 (by decide +kernel)
theorem D_233_96 : decode J_233.2.2.1 96 = .ok (.iconst 0, 1) := dzq_3 (by decide +kernel)
theorem D_233_97 : decode J_233.2.2.1 97 = .ok (.istore 6, 2) := dzq_54 (by decide +kernel)
theorem D_233_99 : decode J_233.2.2.1 99 = .ok (.iload 6, 2) := dzq_21 (by decide +kernel)
theorem D_233_101 : decode J_233.2.2.1 101 = .ok (.aload_n 0, 1) := dzq_42 (by decide +kernel)
theorem D_233_102 : decode J_233.2.2.1 102 = .ok (.getfield 30, 3) := dzq_180 (by decide +kernel)
theorem D_233_105 : decode J_233.2.2.1 105 = .ok (.iload_n 3, 1) := dzq_29 (by decide +kernel)
theorem D_233_106 : decode J_233.2.2.1 106 = .ok (.iaload, 1) := dzq_46 (by decide +kernel)
theorem D_233_107 : decode J_233.2.2.1 107 = .ok (.if_icmp .ge 31, 3) := dzq_162 (by decide +kernel)
theorem D_233_110 : decode J_233.2.2.1 110 = .ok (.aload_n 0, 1) := dzq_42 (by decide +kernel)
theorem D_233_111 : decode J_233.2.2.1 111 = .ok (.getfield 230, 3) := dzq_180 (by decide +kernel)
theorem D_233_114 : decode J_233.2.2.1 114 = .ok (.aload_n 0, 1) := dzq_42 (by decide +kernel)
theorem D_233_115 : decode J_233.2.2.1 115 = .ok (.getfield 236, 3) := dzq_180 (by decide +kernel)
theorem D_233_118 : decode J_233.2.2.1 118 = .ok (.iload 5, 2) := dzq_21 (by decide +kernel)
theorem D_233_120 : decode J_233.2.2.1 120 = .ok (.iaload, 1) := dzq_46 (by decide +kernel)
theorem D_233_121 : decode J_233.2.2.1 121 = .ok (.iload 6, 2) := dzq_21 (by decide +kernel)
theorem D_233_123 : decode J_233.2.2.1 123 = .ok (.iadd, 1) := dzq_96 (by decide +kernel)
theorem D_233_124 : decode J_233.2.2.1 124 = .ok (.aload_n 0, 1) := dzq_42 (by decide +kernel)
theorem D_233_125 : decode J_233.2.2.1 125 = .ok (.getfield 281, 3) := dzq_180 (by decide +kernel)
theorem D_233_128 : decode J_233.2.2.1 128 = .ok (.iload 6, 2) := dzq_21 (by decide +kernel)
theorem D_233_130 : decode J_233.2.2.1 130 = .ok (.iaload, 1) := dzq_46 (by decide +kernel)
theorem D_233_131 : decode J_233.2.2.1 131 = .ok (.iastore, 1) := dzq_79 (by decide +kernel)
theorem D_233_132 : decode J_233.2.2.1 132 = .ok (.iinc 6 1, 3) := dzq_132 (by decide +kernel)
theorem D_233_135 : decode J_233.2.2.1 135 = .ok (.goto (-36), 3) := dzq_167 (by decide +kernel)
theorem D_233_138 : decode J_233.2.2.1 138 = .ok (.iconst 0, 1) := dzq_3 (by decide +kernel)
theorem D_233_139 : decode J_233.2.2.1 139 = .ok (.istore 6, 2) := dzq_54 (by decide +kernel)
theorem D_233_141 : decode J_233.2.2.1 141 = .ok (.iload 6, 2) := dzq_21 (by decide +kernel)
theorem D_233_143 : decode J_233.2.2.1 143 = .ok (.aload_n 0, 1) := dzq_42 (by decide +kernel)
theorem D_233_144 : decode J_233.2.2.1 144 = .ok (.getfield 45, 3) := dzq_180 (by decide +kernel)
theorem D_233_147 : decode J_233.2.2.1 147 = .ok (.iload_n 3, 1) := dzq_29 (by decide +kernel)
theorem D_233_148 : decode J_233.2.2.1 148 = .ok (.iaload, 1) := dzq_46 (by decide +kernel)
theorem D_233_149 : decode J_233.2.2.1 149 = .ok (.if_icmp .ge 32, 3) := dzq_162 (by decide +kernel)
theorem D_233_152 : decode J_233.2.2.1 152 = .ok (.aload_n 0, 1) := dzq_42 (by decide +kernel)
theorem D_233_153 : decode J_233.2.2.1 153 = .ok (.getfield 230, 3) := dzq_180 (by decide +kernel)
theorem D_233_156 : decode J_233.2.2.1 156 = .ok (.aload_n 0, 1) := dzq_42 (by decide +kernel)
theorem D_233_157 : decode J_233.2.2.1 157 = .ok (.getfield 236, 3) := dzq_180 (by decide +kernel)
theorem D_233_160 : decode J_233.2.2.1 160 = .ok (.iload 5, 2) := dzq_21 (by decide +kernel)
theorem D_233_162 : decode J_233.2.2.1 162 = .ok (.iaload, 1) := dzq_46 (by decide +kernel)
theorem D_233_163 : decode J_233.2.2.1 163 = .ok (.aload_n 0, 1) := dzq_42 (by decide +kernel)
theorem D_233_164 : decode J_233.2.2.1 164 = .ok (.getfield 30, 3) := dzq_180 (by decide +kernel)
theorem D_233_167 : decode J_233.2.2.1 167 = .ok (.iload_n 3, 1) := dzq_29 (by decide +kernel)
theorem D_233_168 : decode J_233.2.2.1 168 = .ok (.iaload, 1) := dzq_46 (by decide +kernel)
theorem D_233_169 : decode J_233.2.2.1 169 = .ok (.iadd, 1) := dzq_96 (by decide +kernel)
theorem D_233_170 : decode J_233.2.2.1 170 = .ok (.iload 6, 2) := dzq_21 (by decide +kernel)
theorem D_233_172 : decode J_233.2.2.1 172 = .ok (.iadd, 1) := dzq_96 (by decide +kernel)
theorem D_233_173 : decode J_233.2.2.1 173 = .ok (.iconst 0, 1) := dzq_3 (by decide +kernel)
theorem D_233_174 : decode J_233.2.2.1 174 = .ok (.iastore, 1) := dzq_79 (by decide +kernel)
theorem D_233_175 : decode J_233.2.2.1 175 = .ok (.iinc 6 1, 3) := dzq_132 (by decide +kernel)
theorem D_233_178 : decode J_233.2.2.1 178 = .ok (.goto (-37), 3) := dzq_167 (by decide +kernel)
theorem D_233_181 : decode J_233.2.2.1 181 = .ok (.aload_n 0, 1) := dzq_42 (by decide +kernel)
theorem D_233_182 : decode J_233.2.2.1 182 = .ok (.dup, 1) := dzq_89 (by decide +kernel)
theorem D_233_183 : decode J_233.2.2.1 183 = .ok (.getfield 690, 3) := dzq_180 (by decide +kernel)
theorem D_233_186 : decode J_233.2.2.1 186 = .ok (.iload 4, 2) := dzq_21 (by decide +kernel)
theorem D_233_188 : decode J_233.2.2.1 188 = .ok (.iadd, 1) := dzq_96 (by decide +kernel)
theorem D_233_189 : decode J_233.2.2.1 189 = .ok (.putfield 690, 3) := dzq_181 (by decide +kernel)
theorem D_233_192 : decode J_233.2.2.1 192 = .ok (.aload_n 0, 1) := dzq_42 (by decide +kernel)
theorem D_233_193 : decode J_233.2.2.1 193 = .ok (.iload 5, 2) := dzq_21 (by decide +kernel)
theorem D_233_195 : decode J_233.2.2.1 195 = .ok (.putfield 699, 3) := dzq_181 (by decide +kernel)
theorem D_233_198 : decode J_233.2.2.1 198 = .ok (.aload_n 0, 1) := dzq_42 (by decide +kernel)
theorem D_233_199 : decode J_233.2.2.1 199 = .ok (.iload 5, 2) := dzq_21 (by decide +kernel)
theorem D_233_201 : decode J_233.2.2.1 201 = .ok (.invokevirtual 663, 3) := dzq_182 (by decide +kernel)
theorem D_233_204 : decode J_233.2.2.1 204 = .ok (.return_, 1) := dzq_177 (by decide +kernel)
def P_233_141 (X : mjX) (d C S kc ks : Nat) (k : Nat → Int32 → Int32 → Int32 → Int32 → mjH → mjU) : Prop := ∀ (l0 : Nat) (l3 : Int32) (l4 : Int32) (l5 : Int32) (l6 : Int32) (hp : mjH) (q : Option Value × mjH), k l0 l3 l4 l5 l6 hp = some q → mjG X d C S J_233 (mjEq q) 141 [some (.ref l0), none, none, some (.int l3), some (.int l4), some (.int l5), some (.int l6)] [] hp kc ks
def P_233_99 (X : mjX) (d C S kc ks : Nat) (k : Nat → Int32 → Int32 → Int32 → Int32 → mjH → mjU) : Prop := ∀ (l0 : Nat) (l3 : Int32) (l4 : Int32) (l5 : Int32) (l6 : Int32) (hp : mjH) (q : Option Value × mjH), k l0 l3 l4 l5 l6 hp = some q → mjG X d C S J_233 (mjEq q) 99 [some (.ref l0), none, none, some (.int l3), some (.int l4), some (.int l5), some (.int l6)] [] hp kc ks
def P_233_0 (X : mjX) (d C S kc ks : Nat) (k : Nat → Int32 → mjH → mjU) : Prop := ∀ (l0 : Nat) (l1 : Int32) (hp : mjH) (q : Option Value × mjH), k l0 l1 hp = some q → mjG X d C S J_233 (mjEq q) 0 [some (.ref l0), some (.int l1), none, none, none, none, none] [] hp kc ks
noncomputable def b_233_141 (R : mjR) (k141 : Nat → Int32 → Int32 → Int32 → Int32 → mjH → mjU) (l0 : Nat) (l3 : Int32) (l4 : Int32) (l5 : Int32) (l6 : Int32) (hp : mjH) : mjU := gR hp l0 12 20 (fun v1 => aI hp v1 l3 (fun v2 => (if v2 ≤ l6 then gI hp l0 12 102 (fun v3 => pI hp l0 12 102 (v3 + l4) (fun hp4 => pI hp4 l0 12 103 l5 (fun hp5 => rV hp5 l0 12 (bN (R 232 [.ref l0, .int l5] hp5) (fun  hp6 => some (none, hp6)))))) else gR hp l0 12 108 (fun v7 => gR hp l0 12 110 (fun v8 => aI hp v8 l5 (fun v9 => gR hp l0 12 15 (fun v10 => aI hp v10 l3 (fun v11 => sI hp v7 ((v9 + v11) + l6) (0 : Int32) (fun hp12 => k141 l0 l3 l4 l5 (l6 + (1 : Int32)) hp12)))))))))
theorem t_233_141 {X : mjX} {d C S kc ks : Nat} {R : mjR} (hR : mjC R d) (h1 : kc ≤ C) (h2 : ks ≤ S) {k141 : Nat → Int32 → Int32 → Int32 → Int32 → mjH → mjU} (hk141 : P_233_141 X (d + 1) C S kc ks k141) : P_233_141 X (d + 1) C S kc ks (b_233_141 R k141) := by
  intro l0 l3 l4 l5 l6 hp q h
  unfold b_233_141 at h
  refine mjr_iload (x := l6) D_233_141 rfl ?_
  refine mjr_aload_n (x := l0) D_233_143 rfl ?_
  refine mjq_gR D_233_144 fr_12_45 h (fun v1 h => ?_)
  refine mjr_iload_n (x := l3) D_233_147 rfl ?_
  refine mjq_aI D_233_148 h (fun v2 h => ?_)
  refine mjq_icmp_ge (tgt := 181) D_233_149 rfl h (fun h => ?_) (fun h => ?_)
  · refine mjr_aload_n (x := l0) D_233_181 rfl ?_
    refine mjr_dup D_233_182 rfl ?_
    refine mjq_gI D_233_183 fr_12_690 h (fun v3 h => ?_)
    refine mjr_iload (x := l4) D_233_186 rfl ?_
    refine mjr_iadd D_233_188 ?_
    refine mjq_pI D_233_189 fr_12_690 rfl rfl h (fun hp4 h => ?_)
    refine mjr_aload_n (x := l0) D_233_192 rfl ?_
    refine mjr_iload (x := l5) D_233_193 rfl ?_
    refine mjq_pI D_233_195 fr_12_699 rfl rfl h (fun hp5 h => ?_)
    refine mjr_aload_n (x := l0) D_233_198 rfl ?_
    refine mjr_iload (x := l5) D_233_199 rfl ?_
    refine mjq_vN (As := [.int l5]) (rest := []) D_233_201 mr_12_663 V_232 rfl rfl rfl hR (Nat.le_refl _) h1 h2 h (fun  hp6 h => ?_)
    exact mjq_nret D_233_204 rfl h1 h2 h
  · refine mjr_aload_n (x := l0) D_233_152 rfl ?_
    refine mjq_gR D_233_153 fr_12_230 h (fun v7 h => ?_)
    refine mjr_aload_n (x := l0) D_233_156 rfl ?_
    refine mjq_gR D_233_157 fr_12_236 h (fun v8 h => ?_)
    refine mjr_iload (x := l5) D_233_160 rfl ?_
    refine mjq_aI D_233_162 h (fun v9 h => ?_)
    refine mjr_aload_n (x := l0) D_233_163 rfl ?_
    refine mjq_gR D_233_164 fr_12_30 h (fun v10 h => ?_)
    refine mjr_iload_n (x := l3) D_233_167 rfl ?_
    refine mjq_aI D_233_168 h (fun v11 h => ?_)
    refine mjr_iadd D_233_169 ?_
    refine mjr_iload (x := l6) D_233_170 rfl ?_
    refine mjr_iadd D_233_172 ?_
    refine mjq_ic (v := (0 : Int32)) D_233_173 rfl ?_
    refine mjq_sI D_233_174 h (fun hp12 h => ?_)
    refine mjq_iinc (x := l6) (c := (1 : Int32)) (lo' := [some (.ref l0), none, none, some (.int l3), some (.int l4), some (.int l5), some (.int (l6 + (1 : Int32)))]) D_233_175 rfl (Nat.le_of_ble_eq_true rfl) rfl rfl ?_
    refine mjr_goto (tgt := 141) D_233_178 rfl ?_
    exact hk141 _ _ _ _ _ _ _ h
noncomputable def L_233_141 (R : mjR) (n : Nat) : Nat → Int32 → Int32 → Int32 → Int32 → mjH → mjU := Nat.rec (motive := fun _ => Nat → Int32 → Int32 → Int32 → Int32 → mjH → mjU) (fun _ _ _ _ _ _ => none) (fun _ self => b_233_141 R self) n
theorem T_233_141 {X : mjX} {d C S kc ks : Nat} {R : mjR} (hR : mjC R d) (h1 : kc ≤ C) (h2 : ks ≤ S) (n : Nat) : P_233_141 X (d + 1) C S kc ks (L_233_141 R n) := by
  induction n with
  | zero => intro _ _ _ _ _ _ _ h; exact mj_no h
  | succ n ih => exact t_233_141 hR h1 h2 ih
noncomputable def b_233_99 (R : mjR) (k99 : Nat → Int32 → Int32 → Int32 → Int32 → mjH → mjU) (l0 : Nat) (l3 : Int32) (l4 : Int32) (l5 : Int32) (l6 : Int32) (hp : mjH) : mjU := gR hp l0 12 15 (fun v1 => aI hp v1 l3 (fun v2 => (if v2 ≤ l6 then L_233_141 R mjN l0 l3 l4 l5 (0 : Int32) hp else gR hp l0 12 108 (fun v3 => gR hp l0 12 110 (fun v4 => aI hp v4 l5 (fun v5 => gR hp l0 12 134 (fun v6 => aI hp v6 l6 (fun v7 => sI hp v3 (v5 + l6) v7 (fun hp8 => k99 l0 l3 l4 l5 (l6 + (1 : Int32)) hp8)))))))))
theorem t_233_99 {X : mjX} {d C S kc ks : Nat} {R : mjR} (hR : mjC R d) (h1 : kc ≤ C) (h2 : ks ≤ S) {k99 : Nat → Int32 → Int32 → Int32 → Int32 → mjH → mjU} (hk99 : P_233_99 X (d + 1) C S kc ks k99) : P_233_99 X (d + 1) C S kc ks (b_233_99 R k99) := by
  intro l0 l3 l4 l5 l6 hp q h
  unfold b_233_99 at h
  refine mjr_iload (x := l6) D_233_99 rfl ?_
  refine mjr_aload_n (x := l0) D_233_101 rfl ?_
  refine mjq_gR D_233_102 fr_12_30 h (fun v1 h => ?_)
  refine mjr_iload_n (x := l3) D_233_105 rfl ?_
  refine mjq_aI D_233_106 h (fun v2 h => ?_)
  refine mjq_icmp_ge (tgt := 138) D_233_107 rfl h (fun h => ?_) (fun h => ?_)
  · refine mjq_ic (v := (0 : Int32)) D_233_138 rfl ?_
    refine mjq_istore (lo' := [some (.ref l0), none, none, some (.int l3), some (.int l4), some (.int l5), some (.int (0 : Int32))]) D_233_139 (Nat.le_of_ble_eq_true rfl) rfl ?_
    exact (T_233_141 hR h1 h2 mjN) _ _ _ _ _ _ _ h
  · refine mjr_aload_n (x := l0) D_233_110 rfl ?_
    refine mjq_gR D_233_111 fr_12_230 h (fun v3 h => ?_)
    refine mjr_aload_n (x := l0) D_233_114 rfl ?_
    refine mjq_gR D_233_115 fr_12_236 h (fun v4 h => ?_)
    refine mjr_iload (x := l5) D_233_118 rfl ?_
    refine mjq_aI D_233_120 h (fun v5 h => ?_)
    refine mjr_iload (x := l6) D_233_121 rfl ?_
    refine mjr_iadd D_233_123 ?_
    refine mjr_aload_n (x := l0) D_233_124 rfl ?_
    refine mjq_gR D_233_125 fr_12_281 h (fun v6 h => ?_)
    refine mjr_iload (x := l6) D_233_128 rfl ?_
    refine mjq_aI D_233_130 h (fun v7 h => ?_)
    refine mjq_sI D_233_131 h (fun hp8 h => ?_)
    refine mjq_iinc (x := l6) (c := (1 : Int32)) (lo' := [some (.ref l0), none, none, some (.int l3), some (.int l4), some (.int l5), some (.int (l6 + (1 : Int32)))]) D_233_132 rfl (Nat.le_of_ble_eq_true rfl) rfl rfl ?_
    refine mjr_goto (tgt := 99) D_233_135 rfl ?_
    exact hk99 _ _ _ _ _ _ _ h
noncomputable def L_233_99 (R : mjR) (n : Nat) : Nat → Int32 → Int32 → Int32 → Int32 → mjH → mjU := Nat.rec (motive := fun _ => Nat → Int32 → Int32 → Int32 → Int32 → mjH → mjU) (fun _ _ _ _ _ _ => none) (fun _ self => b_233_99 R self) n
theorem T_233_99 {X : mjX} {d C S kc ks : Nat} {R : mjR} (hR : mjC R d) (h1 : kc ≤ C) (h2 : ks ≤ S) (n : Nat) : P_233_99 X (d + 1) C S kc ks (L_233_99 R n) := by
  induction n with
  | zero => intro _ _ _ _ _ _ _ h; exact mj_no h
  | succ n ih => exact t_233_99 hR h1 h2 ih
noncomputable def b_233_0 (R : mjR) (l0 : Nat) (l1 : Int32) (hp : mjH) : mjU := gR hp l0 12 56 (fun v1 => aI hp v1 l1 (fun v2 => gR hp l0 12 50 (fun v3 => aI hp v3 v2 (fun v4 => gR hp l0 12 15 (fun v5 => aI hp v5 v4 (fun v6 => gR hp l0 12 20 (fun v7 => aI hp v7 v4 (fun v8 => gI hp l0 12 102 (fun v9 => gI hp l0 12 101 (fun v10 => (if (v9 + (((2 : Int32) + v6) + v8)) ≤ v10 then rV hp l0 12 (bN (R 235 [.ref l0, .int v2] hp) (fun  hp11 => gI hp11 l0 12 103 (fun v12 => gR hp11 l0 12 109 (fun v13 => sI hp11 v13 (v12 + (1 : Int32)) v4 (fun hp14 => gR hp14 l0 12 110 (fun v15 => gI hp14 l0 12 102 (fun v16 => gI hp14 l0 12 103 (fun v17 => sI hp14 v15 (v12 + (1 : Int32)) (v16 - ((2 : Int32) * v17)) (fun hp18 => L_233_99 R mjN l0 v4 (((2 : Int32) + v6) + v8) (v12 + (1 : Int32)) (0 : Int32) hp18))))))))) else gR hp l0 12 55 (fun v19 => aI hp v19 l1 (fun v20 => rV hp l0 12 (bN (R 234 [.ref l0, .int (4 : Int32), .int v20] hp) (fun  hp21 => some (none, hp21))))))))))))))))
theorem t_233_0 {X : mjX} {d C S kc ks : Nat} {R : mjR} (hR : mjC R d) (h1 : kc ≤ C) (h2 : ks ≤ S) : P_233_0 X (d + 1) C S kc ks (b_233_0 R) := by
  intro l0 l1 hp q h
  unfold b_233_0 at h
  refine mjr_aload_n (x := l0) D_233_0 rfl ?_
  refine mjq_gR D_233_1 fr_12_154 h (fun v1 h => ?_)
  refine mjr_iload_n (x := l1) D_233_4 rfl ?_
  refine mjq_aI D_233_5 h (fun v2 h => ?_)
  refine mjq_istore_n (lo' := [some (.ref l0), some (.int l1), some (.int v2), none, none, none, none]) D_233_6 (Nat.le_of_ble_eq_true rfl) rfl ?_
  refine mjr_aload_n (x := l0) D_233_7 rfl ?_
  refine mjq_gR D_233_8 fr_12_136 h (fun v3 h => ?_)
  refine mjr_iload_n (x := v2) D_233_11 rfl ?_
  refine mjq_aI D_233_12 h (fun v4 h => ?_)
  refine mjq_istore_n (lo' := [some (.ref l0), some (.int l1), some (.int v2), some (.int v4), none, none, none]) D_233_13 (Nat.le_of_ble_eq_true rfl) rfl ?_
  refine mjq_ic (v := (2 : Int32)) D_233_14 rfl ?_
  refine mjr_aload_n (x := l0) D_233_15 rfl ?_
  refine mjq_gR D_233_16 fr_12_30 h (fun v5 h => ?_)
  refine mjr_iload_n (x := v4) D_233_19 rfl ?_
  refine mjq_aI D_233_20 h (fun v6 h => ?_)
  refine mjr_iadd D_233_21 ?_
  refine mjr_aload_n (x := l0) D_233_22 rfl ?_
  refine mjq_gR D_233_23 fr_12_45 h (fun v7 h => ?_)
  refine mjr_iload_n (x := v4) D_233_26 rfl ?_
  refine mjq_aI D_233_27 h (fun v8 h => ?_)
  refine mjr_iadd D_233_28 ?_
  refine mjq_istore (lo' := [some (.ref l0), some (.int l1), some (.int v2), some (.int v4), some (.int (((2 : Int32) + v6) + v8)), none, none]) D_233_29 (Nat.le_of_ble_eq_true rfl) rfl ?_
  refine mjr_aload_n (x := l0) D_233_31 rfl ?_
  refine mjq_gI D_233_32 fr_12_690 h (fun v9 h => ?_)
  refine mjr_iload (x := (((2 : Int32) + v6) + v8)) D_233_35 rfl ?_
  refine mjr_iadd D_233_37 ?_
  refine mjr_aload_n (x := l0) D_233_38 rfl ?_
  refine mjq_gI D_233_39 fr_12_693 h (fun v10 h => ?_)
  refine mjq_icmp_le (tgt := 57) D_233_42 rfl h (fun h => ?_) (fun h => ?_)
  · refine mjr_aload_n (x := l0) D_233_57 rfl ?_
    refine mjr_iload_n (x := v2) D_233_58 rfl ?_
    refine mjq_vN (As := [.int v2]) (rest := []) D_233_59 mr_12_696 V_235 rfl rfl rfl hR (Nat.le_refl _) h1 h2 h (fun  hp11 h => ?_)
    refine mjr_aload_n (x := l0) D_233_62 rfl ?_
    refine mjq_gI D_233_63 fr_12_699 h (fun v12 h => ?_)
    refine mjq_ic (v := (1 : Int32)) D_233_66 rfl ?_
    refine mjr_iadd D_233_67 ?_
    refine mjq_istore (lo' := [some (.ref l0), some (.int l1), some (.int v2), some (.int v4), some (.int (((2 : Int32) + v6) + v8)), some (.int (v12 + (1 : Int32))), none]) D_233_68 (Nat.le_of_ble_eq_true rfl) rfl ?_
    refine mjr_aload_n (x := l0) D_233_70 rfl ?_
    refine mjq_gR D_233_71 fr_12_233 h (fun v13 h => ?_)
    refine mjr_iload (x := (v12 + (1 : Int32))) D_233_74 rfl ?_
    refine mjr_iload_n (x := v4) D_233_76 rfl ?_
    refine mjq_sI D_233_77 h (fun hp14 h => ?_)
    refine mjr_aload_n (x := l0) D_233_78 rfl ?_
    refine mjq_gR D_233_79 fr_12_236 h (fun v15 h => ?_)
    refine mjr_iload (x := (v12 + (1 : Int32))) D_233_82 rfl ?_
    refine mjr_aload_n (x := l0) D_233_84 rfl ?_
    refine mjq_gI D_233_85 fr_12_690 h (fun v16 h => ?_)
    refine mjq_ic (v := (2 : Int32)) D_233_88 rfl ?_
    refine mjr_aload_n (x := l0) D_233_89 rfl ?_
    refine mjq_gI D_233_90 fr_12_699 h (fun v17 h => ?_)
    refine mjr_imul D_233_93 ?_
    refine mjr_isub D_233_94 ?_
    refine mjq_sI D_233_95 h (fun hp18 h => ?_)
    refine mjq_ic (v := (0 : Int32)) D_233_96 rfl ?_
    refine mjq_istore (lo' := [some (.ref l0), some (.int l1), some (.int v2), some (.int v4), some (.int (((2 : Int32) + v6) + v8)), some (.int (v12 + (1 : Int32))), some (.int (0 : Int32))]) D_233_97 (Nat.le_of_ble_eq_true rfl) rfl ?_
    exact mjG.fg (lo' := [some (.ref l0), none, none, some (.int v4), some (.int (((2 : Int32) + v6) + v8)), some (.int (v12 + (1 : Int32))), some (.int (0 : Int32))]) (And.intro rfl (And.intro rfl (And.intro rfl (And.intro rfl (And.intro rfl True.intro))))) ((T_233_99 hR h1 h2 mjN) _ _ _ _ _ _ _ h)
  · refine mjr_aload_n (x := l0) D_233_45 rfl ?_
    refine mjq_ic (v := (4 : Int32)) D_233_46 rfl ?_
    refine mjr_aload_n (x := l0) D_233_47 rfl ?_
    refine mjq_gR D_233_48 fr_12_151 h (fun v19 h => ?_)
    refine mjr_iload_n (x := l1) D_233_51 rfl ?_
    refine mjq_aI D_233_52 h (fun v20 h => ?_)
    refine mjq_vN (As := [.int (4 : Int32), .int v20]) (rest := []) D_233_53 mr_12_675 V_234 rfl rfl rfl hR (Nat.le_refl _) h1 h2 h (fun  hp21 h => ?_)
    exact mjq_nret D_233_56 rfl h1 h2 h
noncomputable def f_233 (R : mjR) (a0 : Nat) (a1 : Int32) (hp : mjH) : mjU := b_233_0 R a0 a1 hp
theorem c_233 {R : mjR} {d : Nat} (hR : mjC R d) {a0 : Nat} {a1 : Int32} {hp : mjH} {q : Option Value × mjH} (h : f_233 R a0 a1 hp = some q) : mjM (d + 1) 0 0 233 [.ref a0, .int a1] hp (mjEq q) :=
  mjM_of Ja_233 (Nat.le_of_ble_eq_true rfl) (mjG.fg (lo' := [some (.ref a0), some (.int a1), none, none, none, none, none]) (And.intro rfl (And.intro rfl True.intro)) ((t_233_0 hR (Nat.le_refl 0) (Nat.le_refl 0)) a0 a1 hp q h))
def J_234 : mjI := (⟨"OwnerHeapModel", "ends", "(II)V"⟩, 12, prog_14_method_86_code, 3, none, 2, false)
theorem Ja_234 : mjMt 234 = some J_234 := by rfl
theorem D_234_0 : decode J_234.2.2.1 0 = .ok (.aload_n 0, 1) := dzq_42 (by decide +kernel)
theorem D_234_1 : decode J_234.2.2.1 1 = .ok (.iconst 3, 1) := dzq_6 (by decide +kernel)
theorem D_234_2 : decode J_234.2.2.1 2 = .ok (.putfield 636, 3) := dzq_181 (by decide +kernel)
theorem D_234_5 : decode J_234.2.2.1 5 = .ok (.aload_n 0, 1) := dzq_42 (by decide +kernel)
theorem D_234_6 : decode J_234.2.2.1 6 = .ok (.iload_n 1, 1) := dzq_27 (by decide +kernel)
theorem D_234_7 : decode J_234.2.2.1 7 = .ok (.putfield 639, 3) := dzq_181 (by decide +kernel)
theorem D_234_10 : decode J_234.2.2.1 10 = .ok (.aload_n 0, 1) := dzq_42 (by decide +kernel)
theorem D_234_11 : decode J_234.2.2.1 11 = .ok (.iload_n 2, 1) := dzq_28 (by decide +kernel)
theorem D_234_12 : decode J_234.2.2.1 12 = .ok (.putfield 642, 3) := dzq_181 (by decide +kernel)
theorem D_234_15 : decode J_234.2.2.1 15 = .ok (.aload_n 0, 1) := dzq_42 (by decide +kernel)
theorem D_234_16 : decode J_234.2.2.1 16 = .ok (.iconst 0, 1) := dzq_3 (by decide +kernel)
theorem D_234_17 : decode J_234.2.2.1 17 = .ok (.putfield 627, 3) := dzq_181 (by decide +kernel)
theorem D_234_20 : decode J_234.2.2.1 20 = .ok (.return_, 1) := dzq_177 (by decide +kernel)
def P_234_0 (X : mjX) (d C S kc ks : Nat) (k : Nat → Int32 → Int32 → mjH → mjU) : Prop := ∀ (l0 : Nat) (l1 : Int32) (l2 : Int32) (hp : mjH) (q : Option Value × mjH), k l0 l1 l2 hp = some q → mjG X d C S J_234 (mjEq q) 0 [some (.ref l0), some (.int l1), some (.int l2)] [] hp kc ks
noncomputable def b_234_0 (R : mjR) (l0 : Nat) (l1 : Int32) (l2 : Int32) (hp : mjH) : mjU := pI hp l0 12 96 (3 : Int32) (fun hp1 => pI hp1 l0 12 98 l1 (fun hp2 => pI hp2 l0 12 99 l2 (fun hp3 => pI hp3 l0 12 116 (0 : Int32) (fun hp4 => some (none, hp4)))))
theorem t_234_0 {X : mjX} {d C S kc ks : Nat} {R : mjR} (hR : mjC R d) (h1 : kc ≤ C) (h2 : ks ≤ S) : P_234_0 X (d + 1) C S kc ks (b_234_0 R) := by
  intro l0 l1 l2 hp q h
  unfold b_234_0 at h
  refine mjr_aload_n (x := l0) D_234_0 rfl ?_
  refine mjq_ic (v := (3 : Int32)) D_234_1 rfl ?_
  refine mjq_pI D_234_2 fr_12_636 rfl rfl h (fun hp1 h => ?_)
  refine mjr_aload_n (x := l0) D_234_5 rfl ?_
  refine mjr_iload_n (x := l1) D_234_6 rfl ?_
  refine mjq_pI D_234_7 fr_12_639 rfl rfl h (fun hp2 h => ?_)
  refine mjr_aload_n (x := l0) D_234_10 rfl ?_
  refine mjr_iload_n (x := l2) D_234_11 rfl ?_
  refine mjq_pI D_234_12 fr_12_642 rfl rfl h (fun hp3 h => ?_)
  refine mjr_aload_n (x := l0) D_234_15 rfl ?_
  refine mjq_ic (v := (0 : Int32)) D_234_16 rfl ?_
  refine mjq_pI D_234_17 fr_12_627 rfl rfl h (fun hp4 h => ?_)
  exact mjq_nret D_234_20 rfl h1 h2 h
noncomputable def f_234 (R : mjR) (a0 : Nat) (a1 : Int32) (a2 : Int32) (hp : mjH) : mjU := b_234_0 R a0 a1 a2 hp
theorem c_234 {R : mjR} {d : Nat} (hR : mjC R d) {a0 : Nat} {a1 : Int32} {a2 : Int32} {hp : mjH} {q : Option Value × mjH} (h : f_234 R a0 a1 a2 hp = some q) : mjM (d + 1) 0 0 234 [.ref a0, .int a1, .int a2] hp (mjEq q) :=
  mjM_of Ja_234 (Nat.le_of_ble_eq_true rfl) (mjG.fg (lo' := [some (.ref a0), some (.int a1), some (.int a2)]) (And.intro rfl (And.intro rfl (And.intro rfl True.intro))) ((t_234_0 hR (Nat.le_refl 0) (Nat.le_refl 0)) a0 a1 a2 hp q h))
def J_235 : mjI := (⟨"OwnerHeapModel", "ownersNow", "(I)V"⟩, 12, prog_14_method_83_code, 5, none, 1, false)
theorem Ja_235 : mjMt 235 = some J_235 := by rfl
theorem D_235_0 : decode J_235.2.2.1 0 = .ok (.aload_n 0, 1) := dzq_42 (by decide +kernel)
theorem D_235_1 : decode J_235.2.2.1 1 = .ok (.getfield 627, 3) := dzq_180 (by decide +kernel)
theorem D_235_4 : decode J_235.2.2.1 4 = .ok (.iconst 1, 1) := dzq_4 (by decide +kernel)
theorem D_235_5 : decode J_235.2.2.1 5 = .ok (.isub, 1) := dzq_100 (by decide +kernel)
theorem D_235_6 : decode J_235.2.2.1 6 = .ok (.istore_n 2, 1) := dzq_61 (by decide +kernel)
theorem D_235_7 : decode J_235.2.2.1 7 = .ok (.aload_n 0, 1) := dzq_42 (by decide +kernel)
theorem D_235_8 : decode J_235.2.2.1 8 = .ok (.getfield 239, 3) := dzq_180 (by decide +kernel)
theorem D_235_11 : decode J_235.2.2.1 11 = .ok (.iload_n 2, 1) := dzq_28 (by decide +kernel)
theorem D_235_12 : decode J_235.2.2.1 12 = .ok (.iaload, 1) := dzq_46 (by decide +kernel)
theorem D_235_13 : decode J_235.2.2.1 13 = .ok (.iconst (-1), 1) := dzq_2 (by decide +kernel)
theorem D_235_14 : decode J_235.2.2.1 14 = .ok (.if_icmp .eq 24, 3) := dzq_159 (by decide +kernel)
theorem D_235_17 : decode J_235.2.2.1 17 = .ok (.aload_n 0, 1) := dzq_42 (by decide +kernel)
theorem D_235_18 : decode J_235.2.2.1 18 = .ok (.aload_n 0, 1) := dzq_42 (by decide +kernel)
theorem D_235_19 : decode J_235.2.2.1 19 = .ok (.getfield 242, 3) := dzq_180 (by decide +kernel)
theorem D_235_22 : decode J_235.2.2.1 22 = .ok (.iload_n 2, 1) := dzq_28 (by decide +kernel)
theorem D_235_23 : decode J_235.2.2.1 23 = .ok (.iaload, 1) := dzq_46 (by decide +kernel)
theorem D_235_24 : decode J_235.2.2.1 24 = .ok (.aload_n 0, 1) := dzq_42 (by decide +kernel)
theorem D_235_25 : decode J_235.2.2.1 25 = .ok (.getfield 91, 3) := dzq_180 (by decide +kernel)
theorem D_235_28 : decode J_235.2.2.1 28 = .ok (.aload_n 0, 1) := dzq_42 (by decide +kernel)
theorem D_235_29 : decode J_235.2.2.1 29 = .ok (.getfield 239, 3) := dzq_180 (by decide +kernel)
theorem D_235_32 : decode J_235.2.2.1 32 = .ok (.iload_n 2, 1) := dzq_28 (by decide +kernel)
theorem D_235_33 : decode J_235.2.2.1 33 = .ok (.iaload, 1) := dzq_46 (by decide +kernel)
theorem D_235_34 : decode J_235.2.2.1 34 = .ok (.iaload, 1) := dzq_46 (by decide +kernel)
theorem D_235_35 : decode J_235.2.2.1 35 = .ok (.invokevirtual 630, 3) := dzq_182 (by decide +kernel)
theorem D_235_38 : decode J_235.2.2.1 38 = .ok (.iconst 0, 1) := dzq_3 (by decide +kernel)
theorem D_235_39 : decode J_235.2.2.1 39 = .ok (.istore_n 3, 1) := dzq_62 (by decide +kernel)
theorem D_235_40 : decode J_235.2.2.1 40 = .ok (.iload_n 3, 1) := dzq_29 (by decide +kernel)
theorem D_235_41 : decode J_235.2.2.1 41 = .ok (.aload_n 0, 1) := dzq_42 (by decide +kernel)
theorem D_235_42 : decode J_235.2.2.1 42 = .ok (.getfield 133, 3) := dzq_180 (by decide +kernel)
theorem D_235_45 : decode J_235.2.2.1 45 = .ok (.iload_n 1, 1) := dzq_27 (by decide +kernel)
theorem D_235_46 : decode J_235.2.2.1 46 = .ok (.iaload, 1) := dzq_46 (by decide +kernel)
theorem D_235_47 : decode J_235.2.2.1 47 = .ok (.if_icmp .ge 60, 3) := dzq_162 (by decide +kernel)
theorem D_235_50 : decode J_235.2.2.1 50 = .ok (.aload_n 0, 1) := dzq_42 (by decide +kernel)
theorem D_235_51 : decode J_235.2.2.1 51 = .ok (.getfield 145, 3) := dzq_180 (by decide +kernel)
theorem D_235_54 : decode J_235.2.2.1 54 = .ok (.iconst 5, 1) := dzq_8 (by decide +kernel)
theorem D_235_55 : decode J_235.2.2.1 55 = .ok (.iload_n 1, 1) := dzq_27 (by decide +kernel)
theorem D_235_56 : decode J_235.2.2.1 56 = .ok (.imul, 1) := dzq_104 (by decide +kernel)
theorem D_235_57 : decode J_235.2.2.1 57 = .ok (.iload_n 3, 1) := dzq_29 (by decide +kernel)
theorem D_235_58 : decode J_235.2.2.1 58 = .ok (.iadd, 1) := dzq_96 (by decide +kernel)
theorem D_235_59 : decode J_235.2.2.1 59 = .ok (.iaload, 1) := dzq_46 (by decide +kernel)
theorem D_235_60 : decode J_235.2.2.1 60 = .ok (.istore 4, 2) := dzq_54 (by decide +kernel)
theorem D_235_62 : decode J_235.2.2.1 62 = .ok (.aload_n 0, 1) := dzq_42 (by decide +kernel)
theorem D_235_63 : decode J_235.2.2.1 63 = .ok (.getfield 281, 3) := dzq_180 (by decide +kernel)
theorem D_235_66 : decode J_235.2.2.1 66 = .ok (.iload_n 3, 1) := dzq_29 (by decide +kernel)
theorem D_235_67 : decode J_235.2.2.1 67 = .ok (.iload 4, 2) := dzq_21 (by decide +kernel)
theorem D_235_69 : decode J_235.2.2.1 69 = .ok (.iconst (-1), 1) := dzq_2 (by decide +kernel)
theorem D_235_70 : decode J_235.2.2.1 70 = .ok (.if_icmp .ne 7, 3) := dzq_160 (by decide +kernel)
theorem D_235_73 : decode J_235.2.2.1 73 = .ok (.iconst 0, 1) := dzq_3 (by decide +kernel)
theorem D_235_74 : decode J_235.2.2.1 74 = .ok (.goto 26, 3) := dzq_167 (by decide +kernel)
theorem D_235_77 : decode J_235.2.2.1 77 = .ok (.iload 4, 2) := dzq_21 (by decide +kernel)
theorem D_235_79 : decode J_235.2.2.1 79 = .ok (.bipush (-2), 2) := dzq_16 (by decide +kernel)
theorem D_235_81 : decode J_235.2.2.1 81 = .ok (.if_icmp .ne 12, 3) := dzq_160 (by decide +kernel)
theorem D_235_84 : decode J_235.2.2.1 84 = .ok (.aload_n 0, 1) := dzq_42 (by decide +kernel)
theorem D_235_85 : decode J_235.2.2.1 85 = .ok (.getfield 242, 3) := dzq_180 (by decide +kernel)
theorem D_235_88 : decode J_235.2.2.1 88 = .ok (.iload_n 2, 1) := dzq_28 (by decide +kernel)
theorem D_235_89 : decode J_235.2.2.1 89 = .ok (.iaload, 1) := dzq_46 (by decide +kernel)
theorem D_235_90 : decode J_235.2.2.1 90 = .ok (.goto 10, 3) := dzq_167 (by decide +kernel)
theorem D_235_93 : decode J_235.2.2.1 93 = .ok (.aload_n 0, 1) := dzq_42 (by decide +kernel)
theorem D_235_94 : decode J_235.2.2.1 94 = .ok (.getfield 221, 3) := dzq_180 (by decide +kernel)
theorem D_235_97 : decode J_235.2.2.1 97 = .ok (.iload 4, 2) := dzq_21 (by decide +kernel)
theorem D_235_99 : decode J_235.2.2.1 99 = .ok (.iaload, 1) := dzq_46 (by decide +kernel)
theorem D_235_100 : decode J_235.2.2.1 100 = .ok (.iastore, 1) := dzq_79 (by decide +kernel)
theorem D_235_101 : decode J_235.2.2.1 101 = .ok (.iinc 3 1, 3) := dzq_132 (by decide +kernel)
theorem D_235_104 : decode J_235.2.2.1 104 = .ok (.goto (-64), 3) := dzq_167 (by decide +kernel)
theorem D_235_107 : decode J_235.2.2.1 107 = .ok (.return_, 1) := dzq_177 (by decide +kernel)
def P_235_100 (X : mjX) (d C S kc ks : Nat) (k : Nat → Int32 → Int32 → Int32 → Nat → Int32 → Int32 → mjH → mjU) : Prop := ∀ (l0 : Nat) (l1 : Int32) (l2 : Int32) (l3 : Int32) (s0 : Nat) (s1 : Int32) (s2 : Int32) (hp : mjH) (q : Option Value × mjH), k l0 l1 l2 l3 s0 s1 s2 hp = some q → mjG X d C S J_235 (mjEq q) 100 [some (.ref l0), some (.int l1), some (.int l2), some (.int l3), none] [.int s2, .int s1, .ref s0] hp kc ks
def P_235_40 (X : mjX) (d C S kc ks : Nat) (k : Nat → Int32 → Int32 → Int32 → mjH → mjU) : Prop := ∀ (l0 : Nat) (l1 : Int32) (l2 : Int32) (l3 : Int32) (hp : mjH) (q : Option Value × mjH), k l0 l1 l2 l3 hp = some q → mjG X d C S J_235 (mjEq q) 40 [some (.ref l0), some (.int l1), some (.int l2), some (.int l3), none] [] hp kc ks
def P_235_38 (X : mjX) (d C S kc ks : Nat) (k : Nat → Int32 → Int32 → mjH → mjU) : Prop := ∀ (l0 : Nat) (l1 : Int32) (l2 : Int32) (hp : mjH) (q : Option Value × mjH), k l0 l1 l2 hp = some q → mjG X d C S J_235 (mjEq q) 38 [some (.ref l0), some (.int l1), some (.int l2), none, none] [] hp kc ks
def P_235_0 (X : mjX) (d C S kc ks : Nat) (k : Nat → Int32 → mjH → mjU) : Prop := ∀ (l0 : Nat) (l1 : Int32) (hp : mjH) (q : Option Value × mjH), k l0 l1 hp = some q → mjG X d C S J_235 (mjEq q) 0 [some (.ref l0), some (.int l1), none, none, none] [] hp kc ks
noncomputable def b_235_100 (R : mjR) (k40 : Nat → Int32 → Int32 → Int32 → mjH → mjU) (l0 : Nat) (l1 : Int32) (l2 : Int32) (l3 : Int32) (s0 : Nat) (s1 : Int32) (s2 : Int32) (hp : mjH) : mjU := sI hp s0 s1 s2 (fun hp1 => k40 l0 l1 l2 (l3 + (1 : Int32)) hp1)
theorem t_235_100 {X : mjX} {d C S kc ks : Nat} {R : mjR} (hR : mjC R d) (h1 : kc ≤ C) (h2 : ks ≤ S) {k40 : Nat → Int32 → Int32 → Int32 → mjH → mjU} (hk40 : P_235_40 X (d + 1) C S kc ks k40) : P_235_100 X (d + 1) C S kc ks (b_235_100 R k40) := by
  intro l0 l1 l2 l3 s0 s1 s2 hp q h
  unfold b_235_100 at h
  refine mjq_sI D_235_100 h (fun hp1 h => ?_)
  refine mjq_iinc (x := l3) (c := (1 : Int32)) (lo' := [some (.ref l0), some (.int l1), some (.int l2), some (.int (l3 + (1 : Int32))), none]) D_235_101 rfl (Nat.le_of_ble_eq_true rfl) rfl rfl ?_
  refine mjr_goto (tgt := 40) D_235_104 rfl ?_
  exact hk40 _ _ _ _ _ _ h
noncomputable def b_235_40 (R : mjR) (k40 : Nat → Int32 → Int32 → Int32 → mjH → mjU) (l0 : Nat) (l1 : Int32) (l2 : Int32) (l3 : Int32) (hp : mjH) : mjU := gR hp l0 12 49 (fun v1 => aI hp v1 l1 (fun v2 => (if v2 ≤ l3 then some (none, hp) else gR hp l0 12 53 (fun v3 => aI hp v3 (((5 : Int32) * l1) + l3) (fun v4 => gR hp l0 12 134 (fun v5 => (if v4 = (-1 : Int32) then b_235_100 R k40 l0 l1 l2 l3 v5 l3 (0 : Int32) hp else (if v4 = (-2 : Int32) then gR hp l0 12 112 (fun v8 => aI hp v8 l2 (fun v9 => b_235_100 R k40 l0 l1 l2 l3 v5 l3 v9 hp)) else gR hp l0 12 93 (fun v6 => aI hp v6 v4 (fun v7 => b_235_100 R k40 l0 l1 l2 l3 v5 l3 v7 hp))))))))))
theorem t_235_40 {X : mjX} {d C S kc ks : Nat} {R : mjR} (hR : mjC R d) (h1 : kc ≤ C) (h2 : ks ≤ S) {k40 : Nat → Int32 → Int32 → Int32 → mjH → mjU} (hk40 : P_235_40 X (d + 1) C S kc ks k40) : P_235_40 X (d + 1) C S kc ks (b_235_40 R k40) := by
  intro l0 l1 l2 l3 hp q h
  unfold b_235_40 at h
  refine mjr_iload_n (x := l3) D_235_40 rfl ?_
  refine mjr_aload_n (x := l0) D_235_41 rfl ?_
  refine mjq_gR D_235_42 fr_12_133 h (fun v1 h => ?_)
  refine mjr_iload_n (x := l1) D_235_45 rfl ?_
  refine mjq_aI D_235_46 h (fun v2 h => ?_)
  refine mjq_icmp_ge (tgt := 107) D_235_47 rfl h (fun h => ?_) (fun h => ?_)
  · exact mjq_nret D_235_107 rfl h1 h2 h
  · refine mjr_aload_n (x := l0) D_235_50 rfl ?_
    refine mjq_gR D_235_51 fr_12_145 h (fun v3 h => ?_)
    refine mjq_ic (v := (5 : Int32)) D_235_54 rfl ?_
    refine mjr_iload_n (x := l1) D_235_55 rfl ?_
    refine mjr_imul D_235_56 ?_
    refine mjr_iload_n (x := l3) D_235_57 rfl ?_
    refine mjr_iadd D_235_58 ?_
    refine mjq_aI D_235_59 h (fun v4 h => ?_)
    refine mjq_istore (lo' := [some (.ref l0), some (.int l1), some (.int l2), some (.int l3), some (.int v4)]) D_235_60 (Nat.le_of_ble_eq_true rfl) rfl ?_
    refine mjr_aload_n (x := l0) D_235_62 rfl ?_
    refine mjq_gR D_235_63 fr_12_281 h (fun v5 h => ?_)
    refine mjr_iload_n (x := l3) D_235_66 rfl ?_
    refine mjr_iload (x := v4) D_235_67 rfl ?_
    refine mjq_ic (v := (-1 : Int32)) D_235_69 rfl ?_
    refine mjq_icmp_ne (tgt := 77) D_235_70 rfl h (fun h => ?_) (fun h => ?_)
    · refine mjr_iload (x := v4) D_235_77 rfl ?_
      refine mjq_bi (v := (-2 : Int32)) D_235_79 rfl ?_
      refine mjq_icmp_ne (tgt := 93) D_235_81 rfl h (fun h => ?_) (fun h => ?_)
      · refine mjr_aload_n (x := l0) D_235_93 rfl ?_
        refine mjq_gR D_235_94 fr_12_221 h (fun v6 h => ?_)
        refine mjr_iload (x := v4) D_235_97 rfl ?_
        refine mjq_aI D_235_99 h (fun v7 h => ?_)
        exact mjG.fg (lo' := [some (.ref l0), some (.int l1), some (.int l2), some (.int l3), none]) (And.intro rfl (And.intro rfl (And.intro rfl (And.intro rfl True.intro)))) ((t_235_100 hR h1 h2 hk40) _ _ _ _ _ _ _ _ _ h)
      · refine mjr_aload_n (x := l0) D_235_84 rfl ?_
        refine mjq_gR D_235_85 fr_12_242 h (fun v8 h => ?_)
        refine mjr_iload_n (x := l2) D_235_88 rfl ?_
        refine mjq_aI D_235_89 h (fun v9 h => ?_)
        refine mjr_goto (tgt := 100) D_235_90 rfl ?_
        exact mjG.fg (lo' := [some (.ref l0), some (.int l1), some (.int l2), some (.int l3), none]) (And.intro rfl (And.intro rfl (And.intro rfl (And.intro rfl True.intro)))) ((t_235_100 hR h1 h2 hk40) _ _ _ _ _ _ _ _ _ h)
    · refine mjq_ic (v := (0 : Int32)) D_235_73 rfl ?_
      refine mjr_goto (tgt := 100) D_235_74 rfl ?_
      exact mjG.fg (lo' := [some (.ref l0), some (.int l1), some (.int l2), some (.int l3), none]) (And.intro rfl (And.intro rfl (And.intro rfl (And.intro rfl True.intro)))) ((t_235_100 hR h1 h2 hk40) _ _ _ _ _ _ _ _ _ h)
noncomputable def L_235_40 (R : mjR) (n : Nat) : Nat → Int32 → Int32 → Int32 → mjH → mjU := Nat.rec (motive := fun _ => Nat → Int32 → Int32 → Int32 → mjH → mjU) (fun _ _ _ _ _ => none) (fun _ self => b_235_40 R self) n
theorem T_235_40 {X : mjX} {d C S kc ks : Nat} {R : mjR} (hR : mjC R d) (h1 : kc ≤ C) (h2 : ks ≤ S) (n : Nat) : P_235_40 X (d + 1) C S kc ks (L_235_40 R n) := by
  induction n with
  | zero => intro _ _ _ _ _ _ h; exact mj_no h
  | succ n ih => exact t_235_40 hR h1 h2 ih
noncomputable def b_235_38 (R : mjR) (l0 : Nat) (l1 : Int32) (l2 : Int32) (hp : mjH) : mjU := L_235_40 R mjN l0 l1 l2 (0 : Int32) hp
theorem t_235_38 {X : mjX} {d C S kc ks : Nat} {R : mjR} (hR : mjC R d) (h1 : kc ≤ C) (h2 : ks ≤ S) : P_235_38 X (d + 1) C S kc ks (b_235_38 R) := by
  intro l0 l1 l2 hp q h
  unfold b_235_38 at h
  refine mjq_ic (v := (0 : Int32)) D_235_38 rfl ?_
  refine mjq_istore_n (lo' := [some (.ref l0), some (.int l1), some (.int l2), some (.int (0 : Int32)), none]) D_235_39 (Nat.le_of_ble_eq_true rfl) rfl ?_
  exact (T_235_40 hR h1 h2 mjN) _ _ _ _ _ _ h
noncomputable def b_235_0 (R : mjR) (l0 : Nat) (l1 : Int32) (hp : mjH) : mjU := gI hp l0 12 116 (fun v1 => gR hp l0 12 111 (fun v2 => aI hp v2 (v1 - (1 : Int32)) (fun v3 => (if v3 = (-1 : Int32) then b_235_38 R l0 l1 (v1 - (1 : Int32)) hp else gR hp l0 12 112 (fun v4 => aI hp v4 (v1 - (1 : Int32)) (fun v5 => gR hp l0 12 35 (fun v6 => gR hp l0 12 111 (fun v7 => aI hp v7 (v1 - (1 : Int32)) (fun v8 => aI hp v6 v8 (fun v9 => rV hp l0 12 (bN (R 236 [.ref l0, .int v5, .int v9] hp) (fun  hp10 => b_235_38 R l0 l1 (v1 - (1 : Int32)) hp10))))))))))))
theorem t_235_0 {X : mjX} {d C S kc ks : Nat} {R : mjR} (hR : mjC R d) (h1 : kc ≤ C) (h2 : ks ≤ S) : P_235_0 X (d + 1) C S kc ks (b_235_0 R) := by
  intro l0 l1 hp q h
  unfold b_235_0 at h
  refine mjr_aload_n (x := l0) D_235_0 rfl ?_
  refine mjq_gI D_235_1 fr_12_627 h (fun v1 h => ?_)
  refine mjq_ic (v := (1 : Int32)) D_235_4 rfl ?_
  refine mjr_isub D_235_5 ?_
  refine mjq_istore_n (lo' := [some (.ref l0), some (.int l1), some (.int (v1 - (1 : Int32))), none, none]) D_235_6 (Nat.le_of_ble_eq_true rfl) rfl ?_
  refine mjr_aload_n (x := l0) D_235_7 rfl ?_
  refine mjq_gR D_235_8 fr_12_239 h (fun v2 h => ?_)
  refine mjr_iload_n (x := (v1 - (1 : Int32))) D_235_11 rfl ?_
  refine mjq_aI D_235_12 h (fun v3 h => ?_)
  refine mjq_ic (v := (-1 : Int32)) D_235_13 rfl ?_
  refine mjq_icmp_eq (tgt := 38) D_235_14 rfl h (fun h => ?_) (fun h => ?_)
  · exact (t_235_38 hR h1 h2) _ _ _ _ _ h
  · refine mjr_aload_n (x := l0) D_235_17 rfl ?_
    refine mjr_aload_n (x := l0) D_235_18 rfl ?_
    refine mjq_gR D_235_19 fr_12_242 h (fun v4 h => ?_)
    refine mjr_iload_n (x := (v1 - (1 : Int32))) D_235_22 rfl ?_
    refine mjq_aI D_235_23 h (fun v5 h => ?_)
    refine mjr_aload_n (x := l0) D_235_24 rfl ?_
    refine mjq_gR D_235_25 fr_12_91 h (fun v6 h => ?_)
    refine mjr_aload_n (x := l0) D_235_28 rfl ?_
    refine mjq_gR D_235_29 fr_12_239 h (fun v7 h => ?_)
    refine mjr_iload_n (x := (v1 - (1 : Int32))) D_235_32 rfl ?_
    refine mjq_aI D_235_33 h (fun v8 h => ?_)
    refine mjq_aI D_235_34 h (fun v9 h => ?_)
    refine mjq_vN (As := [.int v5, .int v9]) (rest := []) D_235_35 mr_12_630 V_236 rfl rfl rfl hR (Nat.le_refl _) h1 h2 h (fun  hp10 h => ?_)
    exact (t_235_38 hR h1 h2) _ _ _ _ _ h
noncomputable def f_235 (R : mjR) (a0 : Nat) (a1 : Int32) (hp : mjH) : mjU := b_235_0 R a0 a1 hp
theorem c_235 {R : mjR} {d : Nat} (hR : mjC R d) {a0 : Nat} {a1 : Int32} {hp : mjH} {q : Option Value × mjH} (h : f_235 R a0 a1 hp = some q) : mjM (d + 1) 0 0 235 [.ref a0, .int a1] hp (mjEq q) :=
  mjM_of Ja_235 (Nat.le_of_ble_eq_true rfl) (mjG.fg (lo' := [some (.ref a0), some (.int a1), none, none, none]) (And.intro rfl (And.intro rfl True.intro)) ((t_235_0 hR (Nat.le_refl 0) (Nat.le_refl 0)) a0 a1 hp q h))
