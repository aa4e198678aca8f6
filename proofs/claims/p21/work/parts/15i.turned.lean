def J_282 : mjI := (⟨"OwnerHeapModel", "endBlock", "()V"⟩, 12, prog_14_method_28_code, 2, none, 0, false)
theorem Ja_282 : mjMt 282 = some J_282 := by rfl
theorem D_282_0 : decode J_282.2.2.1 0 = .ok (.aload_n 0, 1) := dzq_42 (by decide +kernel)
theorem D_282_1 : decode J_282.2.2.1 1 = .ok (.bipush 125, 2) := dzq_16 (by decide +kernel)
theorem D_282_3 : decode J_282.2.2.1 3 = .ok (.invokevirtual 397, 3) := dzq_182 (by decide +kernel)
theorem D_282_6 : decode J_282.2.2.1 6 = .ok (.aload_n 0, 1) := dzq_42 (by decide +kernel)
theorem D_282_7 : decode J_282.2.2.1 7 = .ok (.bipush 27, 2) := dzq_16 (by decide +kernel)
theorem D_282_9 : decode J_282.2.2.1 9 = .ok (.aload_n 0, 1) := dzq_42 (by decide +kernel)
theorem D_282_10 : decode J_282.2.2.1 10 = .ok (.getfield 310, 3) := dzq_180 (by decide +kernel)
theorem D_282_13 : decode J_282.2.2.1 13 = .ok (.iconst 0, 1) := dzq_3 (by decide +kernel)
theorem D_282_14 : decode J_282.2.2.1 14 = .ok (.iconst 0, 1) := dzq_3 (by decide +kernel)
theorem D_282_15 : decode J_282.2.2.1 15 = .ok (.invokevirtual 359, 3) := dzq_182 (by decide +kernel)
theorem D_282_18 : decode J_282.2.2.1 18 = .ok (.aload_n 0, 1) := dzq_42 (by decide +kernel)
theorem D_282_19 : decode J_282.2.2.1 19 = .ok (.dup, 1) := dzq_89 (by decide +kernel)
theorem D_282_20 : decode J_282.2.2.1 20 = .ok (.getfield 411, 3) := dzq_180 (by decide +kernel)
theorem D_282_23 : decode J_282.2.2.1 23 = .ok (.iconst 1, 1) := dzq_4 (by decide +kernel)
theorem D_282_24 : decode J_282.2.2.1 24 = .ok (.isub, 1) := dzq_100 (by decide +kernel)
theorem D_282_25 : decode J_282.2.2.1 25 = .ok (.putfield 411, 3) := dzq_181 (by decide +kernel)
theorem D_282_28 : decode J_282.2.2.1 28 = .ok (.aload_n 0, 1) := dzq_42 (by decide +kernel)
theorem D_282_29 : decode J_282.2.2.1 29 = .ok (.getfield 411, 3) := dzq_180 (by decide +kernel)
theorem D_282_32 : decode J_282.2.2.1 32 = .ok (.istore_n 1, 1) := dzq_60 (by decide +kernel)
theorem D_282_33 : decode J_282.2.2.1 33 = .ok (.aload_n 0, 1) := dzq_42 (by decide +kernel)
theorem D_282_34 : decode J_282.2.2.1 34 = .ok (.getfield 170, 3) := dzq_180 (by decide +kernel)
theorem D_282_37 : decode J_282.2.2.1 37 = .ok (.iload_n 1, 1) := dzq_27 (by decide +kernel)
theorem D_282_38 : decode J_282.2.2.1 38 = .ok (.iaload, 1) := dzq_46 (by decide +kernel)
theorem D_282_39 : decode J_282.2.2.1 39 = .ok (.iconst 4, 1) := dzq_7 (by decide +kernel)
theorem D_282_40 : decode J_282.2.2.1 40 = .ok (.if_icmp .ne 30, 3) := dzq_160 (by decide +kernel)
theorem D_282_43 : decode J_282.2.2.1 43 = .ok (.aload_n 0, 1) := dzq_42 (by decide +kernel)
theorem D_282_44 : decode J_282.2.2.1 44 = .ok (.bipush 23, 2) := dzq_16 (by decide +kernel)
theorem D_282_46 : decode J_282.2.2.1 46 = .ok (.iconst (-1), 1) := dzq_2 (by decide +kernel)
theorem D_282_47 : decode J_282.2.2.1 47 = .ok (.aload_n 0, 1) := dzq_42 (by decide +kernel)
theorem D_282_48 : decode J_282.2.2.1 48 = .ok (.getfield 176, 3) := dzq_180 (by decide +kernel)
theorem D_282_51 : decode J_282.2.2.1 51 = .ok (.iload_n 1, 1) := dzq_27 (by decide +kernel)
theorem D_282_52 : decode J_282.2.2.1 52 = .ok (.iaload, 1) := dzq_46 (by decide +kernel)
theorem D_282_53 : decode J_282.2.2.1 53 = .ok (.iconst 0, 1) := dzq_3 (by decide +kernel)
theorem D_282_54 : decode J_282.2.2.1 54 = .ok (.invokevirtual 359, 3) := dzq_182 (by decide +kernel)
theorem D_282_57 : decode J_282.2.2.1 57 = .ok (.aload_n 0, 1) := dzq_42 (by decide +kernel)
theorem D_282_58 : decode J_282.2.2.1 58 = .ok (.aload_n 0, 1) := dzq_42 (by decide +kernel)
theorem D_282_59 : decode J_282.2.2.1 59 = .ok (.getfield 173, 3) := dzq_180 (by decide +kernel)
theorem D_282_62 : decode J_282.2.2.1 62 = .ok (.iload_n 1, 1) := dzq_27 (by decide +kernel)
theorem D_282_63 : decode J_282.2.2.1 63 = .ok (.iaload, 1) := dzq_46 (by decide +kernel)
theorem D_282_64 : decode J_282.2.2.1 64 = .ok (.invokevirtual 424, 3) := dzq_182 (by decide +kernel)
theorem D_282_67 : decode J_282.2.2.1 67 = .ok (.goto 98, 3) := dzq_167 (by decide +kernel)
theorem D_282_70 : decode J_282.2.2.1 70 = .ok (.aload_n 0, 1) := dzq_42 (by decide +kernel)
theorem D_282_71 : decode J_282.2.2.1 71 = .ok (.getfield 170, 3) := dzq_180 (by decide +kernel)
theorem D_282_74 : decode J_282.2.2.1 74 = .ok (.iload_n 1, 1) := dzq_27 (by decide +kernel)
theorem D_282_75 : decode J_282.2.2.1 75 = .ok (.iaload, 1) := dzq_46 (by decide +kernel)
theorem D_282_76 : decode J_282.2.2.1 76 = .ok (.iconst 2, 1) := dzq_5 (by decide +kernel)
theorem D_282_77 : decode J_282.2.2.1 77 = .ok (.if_icmp .ne 68, 3) := dzq_160 (by decide +kernel)
theorem D_282_80 : decode J_282.2.2.1 80 = .ok (.aload_n 0, 1) := dzq_42 (by decide +kernel)
theorem D_282_81 : decode J_282.2.2.1 81 = .ok (.bipush 12, 2) := dzq_16 (by decide +kernel)
theorem D_282_83 : decode J_282.2.2.1 83 = .ok (.invokevirtual 363, 3) := dzq_182 (by decide +kernel)
theorem D_282_86 : decode J_282.2.2.1 86 = .ok (.ifCond .eq 46, 3) := dzq_153 (by decide +kernel)
theorem D_282_89 : decode J_282.2.2.1 89 = .ok (.aload_n 0, 1) := dzq_42 (by decide +kernel)
theorem D_282_90 : decode J_282.2.2.1 90 = .ok (.invokevirtual 350, 3) := dzq_182 (by decide +kernel)
theorem D_282_93 : decode J_282.2.2.1 93 = .ok (.aload_n 0, 1) := dzq_42 (by decide +kernel)
theorem D_282_94 : decode J_282.2.2.1 94 = .ok (.bipush 22, 2) := dzq_16 (by decide +kernel)
theorem D_282_96 : decode J_282.2.2.1 96 = .ok (.iconst (-1), 1) := dzq_2 (by decide +kernel)
theorem D_282_97 : decode J_282.2.2.1 97 = .ok (.iconst 0, 1) := dzq_3 (by decide +kernel)
theorem D_282_98 : decode J_282.2.2.1 98 = .ok (.iconst 0, 1) := dzq_3 (by decide +kernel)
theorem D_282_99 : decode J_282.2.2.1 99 = .ok (.invokevirtual 359, 3) := dzq_182 (by decide +kernel)
theorem D_282_102 : decode J_282.2.2.1 102 = .ok (.aload_n 0, 1) := dzq_42 (by decide +kernel)
theorem D_282_103 : decode J_282.2.2.1 103 = .ok (.aload_n 0, 1) := dzq_42 (by decide +kernel)
theorem D_282_104 : decode J_282.2.2.1 104 = .ok (.getfield 173, 3) := dzq_180 (by decide +kernel)
theorem D_282_107 : decode J_282.2.2.1 107 = .ok (.iload_n 1, 1) := dzq_27 (by decide +kernel)
theorem D_282_108 : decode J_282.2.2.1 108 = .ok (.iaload, 1) := dzq_46 (by decide +kernel)
theorem D_282_109 : decode J_282.2.2.1 109 = .ok (.invokevirtual 424, 3) := dzq_182 (by decide +kernel)
theorem D_282_112 : decode J_282.2.2.1 112 = .ok (.aload_n 0, 1) := dzq_42 (by decide +kernel)
theorem D_282_113 : decode J_282.2.2.1 113 = .ok (.iconst 3, 1) := dzq_6 (by decide +kernel)
theorem D_282_114 : decode J_282.2.2.1 114 = .ok (.aload_n 0, 1) := dzq_42 (by decide +kernel)
theorem D_282_115 : decode J_282.2.2.1 115 = .ok (.getfield 85, 3) := dzq_180 (by decide +kernel)
theorem D_282_118 : decode J_282.2.2.1 118 = .ok (.aload_n 0, 1) := dzq_42 (by decide +kernel)
theorem D_282_119 : decode J_282.2.2.1 119 = .ok (.getfield 356, 3) := dzq_180 (by decide +kernel)
theorem D_282_122 : decode J_282.2.2.1 122 = .ok (.iaload, 1) := dzq_46 (by decide +kernel)
theorem D_282_123 : decode J_282.2.2.1 123 = .ok (.iconst 1, 1) := dzq_4 (by decide +kernel)
theorem D_282_124 : decode J_282.2.2.1 124 = .ok (.isub, 1) := dzq_100 (by decide +kernel)
theorem D_282_125 : decode J_282.2.2.1 125 = .ok (.iconst (-1), 1) := dzq_2 (by decide +kernel)
theorem D_282_126 : decode J_282.2.2.1 126 = .ok (.invokevirtual 414, 3) := dzq_182 (by decide +kernel)
theorem D_282_129 : decode J_282.2.2.1 129 = .ok (.goto 36, 3) := dzq_167 (by decide +kernel)
theorem D_282_132 : decode J_282.2.2.1 132 = .ok (.aload_n 0, 1) := dzq_42 (by decide +kernel)
theorem D_282_133 : decode J_282.2.2.1 133 = .ok (.aload_n 0, 1) := dzq_42 (by decide +kernel)
theorem D_282_134 : decode J_282.2.2.1 134 = .ok (.getfield 173, 3) := dzq_180 (by decide +kernel)
theorem D_282_137 : decode J_282.2.2.1 137 = .ok (.iload_n 1, 1) := dzq_27 (by decide +kernel)
theorem D_282_138 : decode J_282.2.2.1 138 = .ok (.iaload, 1) := dzq_46 (by decide +kernel)
theorem D_282_139 : decode J_282.2.2.1 139 = .ok (.invokevirtual 424, 3) := dzq_182 (by decide +kernel)
theorem D_282_142 : decode J_282.2.2.1 142 = .ok (.goto 23, 3) := dzq_167 (by decide +kernel)
theorem D_282_145 : decode J_282.2.2.1 145 = .ok (.aload_n 0, 1) := dzq_42 (by decide +kernel)
theorem D_282_146 : decode J_282.2.2.1 146 = .ok (.getfield 170, 3) := dzq_180 (by decide +kernel)
theorem D_282_149 : decode J_282.2.2.1 149 = .ok (.iload_n 1, 1) := dzq_27 (by decide +kernel)
theorem D_282_150 : decode J_282.2.2.1 150 = .ok (.iaload, 1) := dzq_46 (by decide +kernel)
theorem D_282_151 : decode J_282.2.2.1 151 = .ok (.iconst 3, 1) := dzq_6 (by decide +kernel)
theorem D_282_152 : decode J_282.2.2.1 152 = .ok (.if_icmp .ne 13, 3) := dzq_160 (by decide +kernel)
theorem D_282_155 : decode J_282.2.2.1 155 = .ok (.aload_n 0, 1) := dzq_42 (by decide +kernel)
theorem D_282_156 : decode J_282.2.2.1 156 = .ok (.aload_n 0, 1) := dzq_42 (by decide +kernel)
theorem D_282_157 : decode J_282.2.2.1 157 = .ok (.getfield 173, 3) := dzq_180 (by decide +kernel)
theorem D_282_160 : decode J_282.2.2.1 160 = .ok (.iload_n 1, 1) := dzq_27 (by decide +kernel)
theorem D_282_161 : decode J_282.2.2.1 161 = .ok (.iaload, 1) := dzq_46 (by decide +kernel)
theorem D_282_162 : decode J_282.2.2.1 162 = .ok (.invokevirtual 424, 3) := dzq_182 (by decide +kernel)
theorem D_282_165 : decode J_282.2.2.1 165 = .ok (.return_, 1) := dzq_177 (by decide +kernel)
def P_282_0 (X : mjX) (d C S kc ks : Nat) (k : Nat → mjH → mjU) : Prop := ∀ (l0 : Nat) (hp : mjH) (q : Option Value × mjH), k l0 hp = some q → mjG X d C S J_282 (mjEq q) 0 [some (.ref l0), none] [] hp kc ks
noncomputable def b_282_0 (R : mjR) (l0 : Nat) (hp : mjH) : mjU := rV hp l0 12 (bN (R 278 [.ref l0, .int (125 : Int32)] hp) (fun  hp1 => gI hp1 l0 12 4 (fun v2 => rV hp1 l0 12 (bN (R 281 [.ref l0, .int (27 : Int32), .int v2, .int (0 : Int32), .int (0 : Int32)] hp1) (fun  hp3 => gI hp3 l0 12 71 (fun v4 => pI hp3 l0 12 71 (v4 - (1 : Int32)) (fun hp5 => gI hp5 l0 12 71 (fun v6 => gR hp5 l0 12 68 (fun v7 => aI hp5 v7 v6 (fun v8 => (if v8 = (4 : Int32) then gR hp5 l0 12 70 (fun v30 => aI hp5 v30 v6 (fun v31 => rV hp5 l0 12 (bN (R 281 [.ref l0, .int (23 : Int32), .int (-1 : Int32), .int v31, .int (0 : Int32)] hp5) (fun  hp32 => gR hp32 l0 12 69 (fun v33 => aI hp32 v33 v6 (fun v34 => rV hp32 l0 12 (bN (R 283 [.ref l0, .int v34] hp32) (fun  hp35 => some (none, hp35))))))))) else gR hp5 l0 12 68 (fun v9 => aI hp5 v9 v6 (fun v10 => (if v10 = (2 : Int32) then rV hp5 l0 12 (bI (R 266 [.ref l0, .int (12 : Int32)] hp5) (fun v16 hp17 => (if v16 = 0 then gR hp17 l0 12 69 (fun v18 => aI hp17 v18 v6 (fun v19 => rV hp17 l0 12 (bN (R 283 [.ref l0, .int v19] hp17) (fun  hp20 => some (none, hp20))))) else rV hp17 l0 12 (bN (R 262 [.ref l0] hp17) (fun  hp21 => rV hp21 l0 12 (bN (R 281 [.ref l0, .int (22 : Int32), .int (-1 : Int32), .int (0 : Int32), .int (0 : Int32)] hp21) (fun  hp22 => gR hp22 l0 12 69 (fun v23 => aI hp22 v23 v6 (fun v24 => rV hp22 l0 12 (bN (R 283 [.ref l0, .int v24] hp22) (fun  hp25 => gR hp25 l0 12 33 (fun v26 => gI hp25 l0 12 63 (fun v27 => aI hp25 v26 v27 (fun v28 => rV hp25 l0 12 (bN (R 280 [.ref l0, .int (3 : Int32), .int (v28 - (1 : Int32)), .int (-1 : Int32)] hp25) (fun  hp29 => some (none, hp29))))))))))))))))) else gR hp5 l0 12 68 (fun v11 => aI hp5 v11 v6 (fun v12 => (if v12 = (3 : Int32) then gR hp5 l0 12 69 (fun v13 => aI hp5 v13 v6 (fun v14 => rV hp5 l0 12 (bN (R 283 [.ref l0, .int v14] hp5) (fun  hp15 => some (none, hp15))))) else some (none, hp5))))))))))))))))))
theorem t_282_0 {X : mjX} {d C S kc ks : Nat} {R : mjR} (hR : mjC R d) (h1 : kc ≤ C) (h2 : ks ≤ S) : P_282_0 X (d + 1) C S kc ks (b_282_0 R) := by
  intro l0 hp q h
  unfold b_282_0 at h
  refine mjr_aload_n (x := l0) D_282_0 rfl ?_
  refine mjq_bi (v := (125 : Int32)) D_282_1 rfl ?_
  refine mjq_vN (As := [.int (125 : Int32)]) (rest := []) D_282_3 mr_12_397 V_278 rfl rfl rfl hR (Nat.le_refl _) h1 h2 h (fun  hp1 h => ?_)
  refine mjr_aload_n (x := l0) D_282_6 rfl ?_
  refine mjq_bi (v := (27 : Int32)) D_282_7 rfl ?_
  refine mjr_aload_n (x := l0) D_282_9 rfl ?_
  refine mjq_gI D_282_10 fr_12_310 h (fun v2 h => ?_)
  refine mjq_ic (v := (0 : Int32)) D_282_13 rfl ?_
  refine mjq_ic (v := (0 : Int32)) D_282_14 rfl ?_
  refine mjq_vN (As := [.int (27 : Int32), .int v2, .int (0 : Int32), .int (0 : Int32)]) (rest := []) D_282_15 mr_12_359 V_281 rfl rfl rfl hR (Nat.le_refl _) h1 h2 h (fun  hp3 h => ?_)
  refine mjr_aload_n (x := l0) D_282_18 rfl ?_
  refine mjr_dup D_282_19 rfl ?_
  refine mjq_gI D_282_20 fr_12_411 h (fun v4 h => ?_)
  refine mjq_ic (v := (1 : Int32)) D_282_23 rfl ?_
  refine mjr_isub D_282_24 ?_
  refine mjq_pI D_282_25 fr_12_411 rfl rfl h (fun hp5 h => ?_)
  refine mjr_aload_n (x := l0) D_282_28 rfl ?_
  refine mjq_gI D_282_29 fr_12_411 h (fun v6 h => ?_)
  refine mjq_istore_n (lo' := [some (.ref l0), some (.int v6)]) D_282_32 (Nat.le_of_ble_eq_true rfl) rfl ?_
  refine mjr_aload_n (x := l0) D_282_33 rfl ?_
  refine mjq_gR D_282_34 fr_12_170 h (fun v7 h => ?_)
  refine mjr_iload_n (x := v6) D_282_37 rfl ?_
  refine mjq_aI D_282_38 h (fun v8 h => ?_)
  refine mjq_ic (v := (4 : Int32)) D_282_39 rfl ?_
  refine mjq_icmp_ne (tgt := 70) D_282_40 rfl h (fun h => ?_) (fun h => ?_)
  · refine mjr_aload_n (x := l0) D_282_70 rfl ?_
    refine mjq_gR D_282_71 fr_12_170 h (fun v9 h => ?_)
    refine mjr_iload_n (x := v6) D_282_74 rfl ?_
    refine mjq_aI D_282_75 h (fun v10 h => ?_)
    refine mjq_ic (v := (2 : Int32)) D_282_76 rfl ?_
    refine mjq_icmp_ne (tgt := 145) D_282_77 rfl h (fun h => ?_) (fun h => ?_)
    · refine mjr_aload_n (x := l0) D_282_145 rfl ?_
      refine mjq_gR D_282_146 fr_12_170 h (fun v11 h => ?_)
      refine mjr_iload_n (x := v6) D_282_149 rfl ?_
      refine mjq_aI D_282_150 h (fun v12 h => ?_)
      refine mjq_ic (v := (3 : Int32)) D_282_151 rfl ?_
      refine mjq_icmp_ne (tgt := 165) D_282_152 rfl h (fun h => ?_) (fun h => ?_)
      · exact mjq_nret D_282_165 rfl h1 h2 h
      · refine mjr_aload_n (x := l0) D_282_155 rfl ?_
        refine mjr_aload_n (x := l0) D_282_156 rfl ?_
        refine mjq_gR D_282_157 fr_12_173 h (fun v13 h => ?_)
        refine mjr_iload_n (x := v6) D_282_160 rfl ?_
        refine mjq_aI D_282_161 h (fun v14 h => ?_)
        refine mjq_vN (As := [.int v14]) (rest := []) D_282_162 mr_12_424 V_283 rfl rfl rfl hR (Nat.le_refl _) h1 h2 h (fun  hp15 h => ?_)
        exact mjq_nret D_282_165 rfl h1 h2 h
    · refine mjr_aload_n (x := l0) D_282_80 rfl ?_
      refine mjq_bi (v := (12 : Int32)) D_282_81 rfl ?_
      refine mjq_vI (As := [.int (12 : Int32)]) (rest := []) D_282_83 mr_12_363 V_266 rfl rfl rfl hR (Nat.le_refl _) h1 h2 h (fun v16 hp17 h => ?_)
      refine mjq_if_eq (tgt := 132) D_282_86 rfl h (fun h => ?_) (fun h => ?_)
      · refine mjr_aload_n (x := l0) D_282_132 rfl ?_
        refine mjr_aload_n (x := l0) D_282_133 rfl ?_
        refine mjq_gR D_282_134 fr_12_173 h (fun v18 h => ?_)
        refine mjr_iload_n (x := v6) D_282_137 rfl ?_
        refine mjq_aI D_282_138 h (fun v19 h => ?_)
        refine mjq_vN (As := [.int v19]) (rest := []) D_282_139 mr_12_424 V_283 rfl rfl rfl hR (Nat.le_refl _) h1 h2 h (fun  hp20 h => ?_)
        refine mjr_goto (tgt := 165) D_282_142 rfl ?_
        exact mjq_nret D_282_165 rfl h1 h2 h
      · refine mjr_aload_n (x := l0) D_282_89 rfl ?_
        refine mjq_vN (As := []) (rest := []) D_282_90 mr_12_350 V_262 rfl rfl rfl hR (Nat.le_refl _) h1 h2 h (fun  hp21 h => ?_)
        refine mjr_aload_n (x := l0) D_282_93 rfl ?_
        refine mjq_bi (v := (22 : Int32)) D_282_94 rfl ?_
        refine mjq_ic (v := (-1 : Int32)) D_282_96 rfl ?_
        refine mjq_ic (v := (0 : Int32)) D_282_97 rfl ?_
        refine mjq_ic (v := (0 : Int32)) D_282_98 rfl ?_
        refine mjq_vN (As := [.int (22 : Int32), .int (-1 : Int32), .int (0 : Int32), .int (0 : Int32)]) (rest := []) D_282_99 mr_12_359 V_281 rfl rfl rfl hR (Nat.le_refl _) h1 h2 h (fun  hp22 h => ?_)
        refine mjr_aload_n (x := l0) D_282_102 rfl ?_
        refine mjr_aload_n (x := l0) D_282_103 rfl ?_
        refine mjq_gR D_282_104 fr_12_173 h (fun v23 h => ?_)
        refine mjr_iload_n (x := v6) D_282_107 rfl ?_
        refine mjq_aI D_282_108 h (fun v24 h => ?_)
        refine mjq_vN (As := [.int v24]) (rest := []) D_282_109 mr_12_424 V_283 rfl rfl rfl hR (Nat.le_refl _) h1 h2 h (fun  hp25 h => ?_)
        refine mjr_aload_n (x := l0) D_282_112 rfl ?_
        refine mjq_ic (v := (3 : Int32)) D_282_113 rfl ?_
        refine mjr_aload_n (x := l0) D_282_114 rfl ?_
        refine mjq_gR D_282_115 fr_12_85 h (fun v26 h => ?_)
        refine mjr_aload_n (x := l0) D_282_118 rfl ?_
        refine mjq_gI D_282_119 fr_12_356 h (fun v27 h => ?_)
        refine mjq_aI D_282_122 h (fun v28 h => ?_)
        refine mjq_ic (v := (1 : Int32)) D_282_123 rfl ?_
        refine mjr_isub D_282_124 ?_
        refine mjq_ic (v := (-1 : Int32)) D_282_125 rfl ?_
        refine mjq_vN (As := [.int (3 : Int32), .int (v28 - (1 : Int32)), .int (-1 : Int32)]) (rest := []) D_282_126 mr_12_414 V_280 rfl rfl rfl hR (Nat.le_refl _) h1 h2 h (fun  hp29 h => ?_)
        refine mjr_goto (tgt := 165) D_282_129 rfl ?_
        exact mjq_nret D_282_165 rfl h1 h2 h
  · refine mjr_aload_n (x := l0) D_282_43 rfl ?_
    refine mjq_bi (v := (23 : Int32)) D_282_44 rfl ?_
    refine mjq_ic (v := (-1 : Int32)) D_282_46 rfl ?_
    refine mjr_aload_n (x := l0) D_282_47 rfl ?_
    refine mjq_gR D_282_48 fr_12_176 h (fun v30 h => ?_)
    refine mjr_iload_n (x := v6) D_282_51 rfl ?_
    refine mjq_aI D_282_52 h (fun v31 h => ?_)
    refine mjq_ic (v := (0 : Int32)) D_282_53 rfl ?_
    refine mjq_vN (As := [.int (23 : Int32), .int (-1 : Int32), .int v31, .int (0 : Int32)]) (rest := []) D_282_54 mr_12_359 V_281 rfl rfl rfl hR (Nat.le_refl _) h1 h2 h (fun  hp32 h => ?_)
    refine mjr_aload_n (x := l0) D_282_57 rfl ?_
    refine mjr_aload_n (x := l0) D_282_58 rfl ?_
    refine mjq_gR D_282_59 fr_12_173 h (fun v33 h => ?_)
    refine mjr_iload_n (x := v6) D_282_62 rfl ?_
    refine mjq_aI D_282_63 h (fun v34 h => ?_)
    refine mjq_vN (As := [.int v34]) (rest := []) D_282_64 mr_12_424 V_283 rfl rfl rfl hR (Nat.le_refl _) h1 h2 h (fun  hp35 h => ?_)
    refine mjr_goto (tgt := 165) D_282_67 rfl ?_
    exact mjq_nret D_282_165 rfl h1 h2 h
noncomputable def f_282 (R : mjR) (a0 : Nat) (hp : mjH) : mjU := b_282_0 R a0 hp
theorem c_282 {R : mjR} {d : Nat} (hR : mjC R d) {a0 : Nat} {hp : mjH} {q : Option Value × mjH} (h : f_282 R a0 hp = some q) : mjM (d + 1) 0 0 282 [.ref a0] hp (mjEq q) :=
  mjM_of Ja_282 (Nat.le_of_ble_eq_true rfl) (mjG.fg (lo' := [some (.ref a0), none]) (And.intro rfl True.intro) ((t_282_0 hR (Nat.le_refl 0) (Nat.le_refl 0)) a0 hp q h))
def J_283 : mjI := (⟨"OwnerHeapModel", "toHere", "(I)V"⟩, 12, prog_14_method_27_code, 2, none, 1, false)
theorem Ja_283 : mjMt 283 = some J_283 := by rfl
theorem D_283_0 : decode J_283.2.2.1 0 = .ok (.aload_n 0, 1) := dzq_42 (by decide +kernel)
theorem D_283_1 : decode J_283.2.2.1 1 = .ok (.getfield 154, 3) := dzq_180 (by decide +kernel)
theorem D_283_4 : decode J_283.2.2.1 4 = .ok (.sipush 5000, 3) := dzq_17 (by decide +kernel)
theorem D_283_7 : decode J_283.2.2.1 7 = .ok (.aload_n 0, 1) := dzq_42 (by decide +kernel)
theorem D_283_8 : decode J_283.2.2.1 8 = .ok (.getfield 356, 3) := dzq_180 (by decide +kernel)
theorem D_283_11 : decode J_283.2.2.1 11 = .ok (.imul, 1) := dzq_104 (by decide +kernel)
theorem D_283_12 : decode J_283.2.2.1 12 = .ok (.iload_n 1, 1) := dzq_27 (by decide +kernel)
theorem D_283_13 : decode J_283.2.2.1 13 = .ok (.iadd, 1) := dzq_96 (by decide +kernel)
theorem D_283_14 : decode J_283.2.2.1 14 = .ok (.aload_n 0, 1) := dzq_42 (by decide +kernel)
theorem D_283_15 : decode J_283.2.2.1 15 = .ok (.getfield 85, 3) := dzq_180 (by decide +kernel)
theorem D_283_18 : decode J_283.2.2.1 18 = .ok (.aload_n 0, 1) := dzq_42 (by decide +kernel)
theorem D_283_19 : decode J_283.2.2.1 19 = .ok (.getfield 356, 3) := dzq_180 (by decide +kernel)
theorem D_283_22 : decode J_283.2.2.1 22 = .ok (.iaload, 1) := dzq_46 (by decide +kernel)
theorem D_283_23 : decode J_283.2.2.1 23 = .ok (.iastore, 1) := dzq_79 (by decide +kernel)
theorem D_283_24 : decode J_283.2.2.1 24 = .ok (.return_, 1) := dzq_177 (by decide +kernel)
def P_283_0 (X : mjX) (d C S kc ks : Nat) (k : Nat → Int32 → mjH → mjU) : Prop := ∀ (l0 : Nat) (l1 : Int32) (hp : mjH) (q : Option Value × mjH), k l0 l1 hp = some q → mjG X d C S J_283 (mjEq q) 0 [some (.ref l0), some (.int l1)] [] hp kc ks
noncomputable def b_283_0 (R : mjR) (l0 : Nat) (l1 : Int32) (hp : mjH) : mjU := gR hp l0 12 56 (fun v1 => gI hp l0 12 63 (fun v2 => gR hp l0 12 33 (fun v3 => gI hp l0 12 63 (fun v4 => aI hp v3 v4 (fun v5 => sI hp v1 (((5000 : Int32) * v2) + l1) v5 (fun hp6 => some (none, hp6)))))))
theorem t_283_0 {X : mjX} {d C S kc ks : Nat} {R : mjR} (hR : mjC R d) (h1 : kc ≤ C) (h2 : ks ≤ S) : P_283_0 X (d + 1) C S kc ks (b_283_0 R) := by
  intro l0 l1 hp q h
  unfold b_283_0 at h
  refine mjr_aload_n (x := l0) D_283_0 rfl ?_
  refine mjq_gR D_283_1 fr_12_154 h (fun v1 h => ?_)
  refine mjq_si (v := (5000 : Int32)) D_283_4 rfl ?_
  refine mjr_aload_n (x := l0) D_283_7 rfl ?_
  refine mjq_gI D_283_8 fr_12_356 h (fun v2 h => ?_)
  refine mjr_imul D_283_11 ?_
  refine mjr_iload_n (x := l1) D_283_12 rfl ?_
  refine mjr_iadd D_283_13 ?_
  refine mjr_aload_n (x := l0) D_283_14 rfl ?_
  refine mjq_gR D_283_15 fr_12_85 h (fun v3 h => ?_)
  refine mjr_aload_n (x := l0) D_283_18 rfl ?_
  refine mjq_gI D_283_19 fr_12_356 h (fun v4 h => ?_)
  refine mjq_aI D_283_22 h (fun v5 h => ?_)
  refine mjq_sI D_283_23 h (fun hp6 h => ?_)
  exact mjq_nret D_283_24 rfl h1 h2 h
noncomputable def f_283 (R : mjR) (a0 : Nat) (a1 : Int32) (hp : mjH) : mjU := b_283_0 R a0 a1 hp
theorem c_283 {R : mjR} {d : Nat} (hR : mjC R d) {a0 : Nat} {a1 : Int32} {hp : mjH} {q : Option Value × mjH} (h : f_283 R a0 a1 hp = some q) : mjM (d + 1) 0 0 283 [.ref a0, .int a1] hp (mjEq q) :=
  mjM_of Ja_283 (Nat.le_of_ble_eq_true rfl) (mjG.fg (lo' := [some (.ref a0), some (.int a1)]) (And.intro rfl (And.intro rfl True.intro)) ((t_283_0 hR (Nat.le_refl 0) (Nat.le_refl 0)) a0 a1 hp q h))
def J_284 : mjI := (⟨"OwnerHeapModel", "readStep", "()V"⟩, 12, prog_14_method_29_code, 4, none, 0, false)
theorem Ja_284 : mjMt 284 = some J_284 := by rfl
theorem D_284_0 : decode J_284.2.2.1 0 = .ok (.aload_n 0, 1) := dzq_42 (by decide +kernel)
theorem D_284_1 : decode J_284.2.2.1 1 = .ok (.getfield 310, 3) := dzq_180 (by decide +kernel)
theorem D_284_4 : decode J_284.2.2.1 4 = .ok (.istore_n 1, 1) := dzq_60 (by decide +kernel)
theorem D_284_5 : decode J_284.2.2.1 5 = .ok (.aload_n 0, 1) := dzq_42 (by decide +kernel)
theorem D_284_6 : decode J_284.2.2.1 6 = .ok (.bipush 123, 2) := dzq_16 (by decide +kernel)
theorem D_284_8 : decode J_284.2.2.1 8 = .ok (.invokevirtual 343, 3) := dzq_182 (by decide +kernel)
theorem D_284_11 : decode J_284.2.2.1 11 = .ok (.ifCond .eq 13, 3) := dzq_153 (by decide +kernel)
theorem D_284_14 : decode J_284.2.2.1 14 = .ok (.aload_n 0, 1) := dzq_42 (by decide +kernel)
theorem D_284_15 : decode J_284.2.2.1 15 = .ok (.iconst 1, 1) := dzq_4 (by decide +kernel)
theorem D_284_16 : decode J_284.2.2.1 16 = .ok (.iconst (-1), 1) := dzq_2 (by decide +kernel)
theorem D_284_17 : decode J_284.2.2.1 17 = .ok (.iconst (-1), 1) := dzq_2 (by decide +kernel)
theorem D_284_18 : decode J_284.2.2.1 18 = .ok (.invokevirtual 414, 3) := dzq_182 (by decide +kernel)
theorem D_284_21 : decode J_284.2.2.1 21 = .ok (.goto 232, 3) := dzq_167 (by decide +kernel)
theorem D_284_24 : decode J_284.2.2.1 24 = .ok (.aload_n 0, 1) := dzq_42 (by decide +kernel)
theorem D_284_25 : decode J_284.2.2.1 25 = .ok (.invokevirtual 404, 3) := dzq_182 (by decide +kernel)
theorem D_284_28 : decode J_284.2.2.1 28 = .ok (.ifCond .eq 11, 3) := dzq_153 (by decide +kernel)
theorem D_284_31 : decode J_284.2.2.1 31 = .ok (.aload_n 0, 1) := dzq_42 (by decide +kernel)
theorem D_284_32 : decode J_284.2.2.1 32 = .ok (.iload_n 1, 1) := dzq_27 (by decide +kernel)
theorem D_284_33 : decode J_284.2.2.1 33 = .ok (.invokevirtual 427, 3) := dzq_182 (by decide +kernel)
theorem D_284_36 : decode J_284.2.2.1 36 = .ok (.goto 217, 3) := dzq_167 (by decide +kernel)
theorem D_284_39 : decode J_284.2.2.1 39 = .ok (.aload_n 0, 1) := dzq_42 (by decide +kernel)
theorem D_284_40 : decode J_284.2.2.1 40 = .ok (.bipush 11, 2) := dzq_16 (by decide +kernel)
theorem D_284_42 : decode J_284.2.2.1 42 = .ok (.invokevirtual 363, 3) := dzq_182 (by decide +kernel)
theorem D_284_45 : decode J_284.2.2.1 45 = .ok (.ifCond .ne 12, 3) := dzq_154 (by decide +kernel)
theorem D_284_48 : decode J_284.2.2.1 48 = .ok (.aload_n 0, 1) := dzq_42 (by decide +kernel)
theorem D_284_49 : decode J_284.2.2.1 49 = .ok (.bipush 13, 2) := dzq_16 (by decide +kernel)
theorem D_284_51 : decode J_284.2.2.1 51 = .ok (.invokevirtual 363, 3) := dzq_182 (by decide +kernel)
theorem D_284_54 : decode J_284.2.2.1 54 = .ok (.ifCond .eq 119, 3) := dzq_153 (by decide +kernel)
theorem D_284_57 : decode J_284.2.2.1 57 = .ok (.aload_n 0, 1) := dzq_42 (by decide +kernel)
theorem D_284_58 : decode J_284.2.2.1 58 = .ok (.bipush 13, 2) := dzq_16 (by decide +kernel)
theorem D_284_60 : decode J_284.2.2.1 60 = .ok (.invokevirtual 363, 3) := dzq_182 (by decide +kernel)
theorem D_284_63 : decode J_284.2.2.1 63 = .ok (.istore_n 2, 1) := dzq_61 (by decide +kernel)
theorem D_284_64 : decode J_284.2.2.1 64 = .ok (.aload_n 0, 1) := dzq_42 (by decide +kernel)
theorem D_284_65 : decode J_284.2.2.1 65 = .ok (.iconst 1, 1) := dzq_4 (by decide +kernel)
theorem D_284_66 : decode J_284.2.2.1 66 = .ok (.iload_n 1, 1) := dzq_27 (by decide +kernel)
theorem D_284_67 : decode J_284.2.2.1 67 = .ok (.iconst 0, 1) := dzq_3 (by decide +kernel)
theorem D_284_68 : decode J_284.2.2.1 68 = .ok (.iconst 0, 1) := dzq_3 (by decide +kernel)
theorem D_284_69 : decode J_284.2.2.1 69 = .ok (.invokevirtual 359, 3) := dzq_182 (by decide +kernel)
theorem D_284_72 : decode J_284.2.2.1 72 = .ok (.aload_n 0, 1) := dzq_42 (by decide +kernel)
theorem D_284_73 : decode J_284.2.2.1 73 = .ok (.getfield 85, 3) := dzq_180 (by decide +kernel)
theorem D_284_76 : decode J_284.2.2.1 76 = .ok (.aload_n 0, 1) := dzq_42 (by decide +kernel)
theorem D_284_77 : decode J_284.2.2.1 77 = .ok (.getfield 356, 3) := dzq_180 (by decide +kernel)
theorem D_284_80 : decode J_284.2.2.1 80 = .ok (.iaload, 1) := dzq_46 (by decide +kernel)
theorem D_284_81 : decode J_284.2.2.1 81 = .ok (.istore_n 3, 1) := dzq_62 (by decide +kernel)
theorem D_284_82 : decode J_284.2.2.1 82 = .ok (.iload_n 2, 1) := dzq_28 (by decide +kernel)
theorem D_284_83 : decode J_284.2.2.1 83 = .ok (.ifCond .eq 11, 3) := dzq_153 (by decide +kernel)
theorem D_284_86 : decode J_284.2.2.1 86 = .ok (.aload_n 0, 1) := dzq_42 (by decide +kernel)
theorem D_284_87 : decode J_284.2.2.1 87 = .ok (.iconst 2, 1) := dzq_5 (by decide +kernel)
theorem D_284_88 : decode J_284.2.2.1 88 = .ok (.iload_n 1, 1) := dzq_27 (by decide +kernel)
theorem D_284_89 : decode J_284.2.2.1 89 = .ok (.iconst 0, 1) := dzq_3 (by decide +kernel)
theorem D_284_90 : decode J_284.2.2.1 90 = .ok (.iconst 0, 1) := dzq_3 (by decide +kernel)
theorem D_284_91 : decode J_284.2.2.1 91 = .ok (.invokevirtual 359, 3) := dzq_182 (by decide +kernel)
theorem D_284_94 : decode J_284.2.2.1 94 = .ok (.aload_n 0, 1) := dzq_42 (by decide +kernel)
theorem D_284_95 : decode J_284.2.2.1 95 = .ok (.invokevirtual 350, 3) := dzq_182 (by decide +kernel)
theorem D_284_98 : decode J_284.2.2.1 98 = .ok (.aload_n 0, 1) := dzq_42 (by decide +kernel)
theorem D_284_99 : decode J_284.2.2.1 99 = .ok (.bipush 40, 2) := dzq_16 (by decide +kernel)
theorem D_284_101 : decode J_284.2.2.1 101 = .ok (.invokevirtual 391, 3) := dzq_182 (by decide +kernel)
theorem D_284_104 : decode J_284.2.2.1 104 = .ok (.aload_n 0, 1) := dzq_42 (by decide +kernel)
theorem D_284_105 : decode J_284.2.2.1 105 = .ok (.getfield 333, 3) := dzq_180 (by decide +kernel)
theorem D_284_108 : decode J_284.2.2.1 108 = .ok (.ifCond .ne 7, 3) := dzq_154 (by decide +kernel)
theorem D_284_111 : decode J_284.2.2.1 111 = .ok (.aload_n 0, 1) := dzq_42 (by decide +kernel)
theorem D_284_112 : decode J_284.2.2.1 112 = .ok (.invokevirtual 430, 3) := dzq_182 (by decide +kernel)
theorem D_284_115 : decode J_284.2.2.1 115 = .ok (.aload_n 0, 1) := dzq_42 (by decide +kernel)
theorem D_284_116 : decode J_284.2.2.1 116 = .ok (.getfield 333, 3) := dzq_180 (by decide +kernel)
theorem D_284_119 : decode J_284.2.2.1 119 = .ok (.ifCond .ne 9, 3) := dzq_154 (by decide +kernel)
theorem D_284_122 : decode J_284.2.2.1 122 = .ok (.aload_n 0, 1) := dzq_42 (by decide +kernel)
theorem D_284_123 : decode J_284.2.2.1 123 = .ok (.bipush 41, 2) := dzq_16 (by decide +kernel)
theorem D_284_125 : decode J_284.2.2.1 125 = .ok (.invokevirtual 397, 3) := dzq_182 (by decide +kernel)
theorem D_284_128 : decode J_284.2.2.1 128 = .ok (.aload_n 0, 1) := dzq_42 (by decide +kernel)
theorem D_284_129 : decode J_284.2.2.1 129 = .ok (.getfield 333, 3) := dzq_180 (by decide +kernel)
theorem D_284_132 : decode J_284.2.2.1 132 = .ok (.ifCond .le 4, 3) := dzq_158 (by decide +kernel)
theorem D_284_135 : decode J_284.2.2.1 135 = .ok (.return_, 1) := dzq_177 (by decide +kernel)
theorem D_284_136 : decode J_284.2.2.1 136 = .ok (.aload_n 0, 1) := dzq_42 (by decide +kernel)
theorem D_284_137 : decode J_284.2.2.1 137 = .ok (.bipush 21, 2) := dzq_16 (by decide +kernel)
theorem D_284_139 : decode J_284.2.2.1 139 = .ok (.iload_n 1, 1) := dzq_27 (by decide +kernel)
theorem D_284_140 : decode J_284.2.2.1 140 = .ok (.iconst 0, 1) := dzq_3 (by decide +kernel)
theorem D_284_141 : decode J_284.2.2.1 141 = .ok (.iconst 0, 1) := dzq_3 (by decide +kernel)
theorem D_284_142 : decode J_284.2.2.1 142 = .ok (.invokevirtual 359, 3) := dzq_182 (by decide +kernel)
theorem D_284_145 : decode J_284.2.2.1 145 = .ok (.aload_n 0, 1) := dzq_42 (by decide +kernel)
theorem D_284_146 : decode J_284.2.2.1 146 = .ok (.iload_n 2, 1) := dzq_28 (by decide +kernel)
theorem D_284_147 : decode J_284.2.2.1 147 = .ok (.ifCond .eq 7, 3) := dzq_153 (by decide +kernel)
theorem D_284_150 : decode J_284.2.2.1 150 = .ok (.iconst 4, 1) := dzq_7 (by decide +kernel)
theorem D_284_151 : decode J_284.2.2.1 151 = .ok (.goto 4, 3) := dzq_167 (by decide +kernel)
theorem D_284_154 : decode J_284.2.2.1 154 = .ok (.iconst 2, 1) := dzq_5 (by decide +kernel)
theorem D_284_155 : decode J_284.2.2.1 155 = .ok (.aload_n 0, 1) := dzq_42 (by decide +kernel)
theorem D_284_156 : decode J_284.2.2.1 156 = .ok (.getfield 85, 3) := dzq_180 (by decide +kernel)
theorem D_284_159 : decode J_284.2.2.1 159 = .ok (.aload_n 0, 1) := dzq_42 (by decide +kernel)
theorem D_284_160 : decode J_284.2.2.1 160 = .ok (.getfield 356, 3) := dzq_180 (by decide +kernel)
theorem D_284_163 : decode J_284.2.2.1 163 = .ok (.iaload, 1) := dzq_46 (by decide +kernel)
theorem D_284_164 : decode J_284.2.2.1 164 = .ok (.iconst 1, 1) := dzq_4 (by decide +kernel)
theorem D_284_165 : decode J_284.2.2.1 165 = .ok (.isub, 1) := dzq_100 (by decide +kernel)
theorem D_284_166 : decode J_284.2.2.1 166 = .ok (.iload_n 3, 1) := dzq_29 (by decide +kernel)
theorem D_284_167 : decode J_284.2.2.1 167 = .ok (.invokevirtual 414, 3) := dzq_182 (by decide +kernel)
theorem D_284_170 : decode J_284.2.2.1 170 = .ok (.goto 83, 3) := dzq_167 (by decide +kernel)
theorem D_284_173 : decode J_284.2.2.1 173 = .ok (.aload_n 0, 1) := dzq_42 (by decide +kernel)
theorem D_284_174 : decode J_284.2.2.1 174 = .ok (.bipush 14, 2) := dzq_16 (by decide +kernel)
theorem D_284_176 : decode J_284.2.2.1 176 = .ok (.invokevirtual 363, 3) := dzq_182 (by decide +kernel)
theorem D_284_179 : decode J_284.2.2.1 179 = .ok (.ifCond .ne 12, 3) := dzq_154 (by decide +kernel)
theorem D_284_182 : decode J_284.2.2.1 182 = .ok (.aload_n 0, 1) := dzq_42 (by decide +kernel)
theorem D_284_183 : decode J_284.2.2.1 183 = .ok (.bipush 15, 2) := dzq_16 (by decide +kernel)
theorem D_284_185 : decode J_284.2.2.1 185 = .ok (.invokevirtual 363, 3) := dzq_182 (by decide +kernel)
theorem D_284_188 : decode J_284.2.2.1 188 = .ok (.ifCond .eq 60, 3) := dzq_153 (by decide +kernel)
theorem D_284_191 : decode J_284.2.2.1 191 = .ok (.aload_n 0, 1) := dzq_42 (by decide +kernel)
theorem D_284_192 : decode J_284.2.2.1 192 = .ok (.bipush 15, 2) := dzq_16 (by decide +kernel)
theorem D_284_194 : decode J_284.2.2.1 194 = .ok (.invokevirtual 363, 3) := dzq_182 (by decide +kernel)
theorem D_284_197 : decode J_284.2.2.1 197 = .ok (.ifCond .eq 8, 3) := dzq_153 (by decide +kernel)
theorem D_284_200 : decode J_284.2.2.1 200 = .ok (.bipush 24, 2) := dzq_16 (by decide +kernel)
theorem D_284_202 : decode J_284.2.2.1 202 = .ok (.goto 5, 3) := dzq_167 (by decide +kernel)
theorem D_284_205 : decode J_284.2.2.1 205 = .ok (.bipush 28, 2) := dzq_16 (by decide +kernel)
theorem D_284_207 : decode J_284.2.2.1 207 = .ok (.istore_n 2, 1) := dzq_61 (by decide +kernel)
theorem D_284_208 : decode J_284.2.2.1 208 = .ok (.aload_n 0, 1) := dzq_42 (by decide +kernel)
theorem D_284_209 : decode J_284.2.2.1 209 = .ok (.iconst 1, 1) := dzq_4 (by decide +kernel)
theorem D_284_210 : decode J_284.2.2.1 210 = .ok (.iload_n 1, 1) := dzq_27 (by decide +kernel)
theorem D_284_211 : decode J_284.2.2.1 211 = .ok (.iconst 0, 1) := dzq_3 (by decide +kernel)
theorem D_284_212 : decode J_284.2.2.1 212 = .ok (.iconst 0, 1) := dzq_3 (by decide +kernel)
theorem D_284_213 : decode J_284.2.2.1 213 = .ok (.invokevirtual 359, 3) := dzq_182 (by decide +kernel)
theorem D_284_216 : decode J_284.2.2.1 216 = .ok (.aload_n 0, 1) := dzq_42 (by decide +kernel)
theorem D_284_217 : decode J_284.2.2.1 217 = .ok (.invokevirtual 350, 3) := dzq_182 (by decide +kernel)
theorem D_284_220 : decode J_284.2.2.1 220 = .ok (.aload_n 0, 1) := dzq_42 (by decide +kernel)
theorem D_284_221 : decode J_284.2.2.1 221 = .ok (.invokevirtual 430, 3) := dzq_182 (by decide +kernel)
theorem D_284_224 : decode J_284.2.2.1 224 = .ok (.aload_n 0, 1) := dzq_42 (by decide +kernel)
theorem D_284_225 : decode J_284.2.2.1 225 = .ok (.getfield 333, 3) := dzq_180 (by decide +kernel)
theorem D_284_228 : decode J_284.2.2.1 228 = .ok (.ifCond .ne 9, 3) := dzq_154 (by decide +kernel)
theorem D_284_231 : decode J_284.2.2.1 231 = .ok (.aload_n 0, 1) := dzq_42 (by decide +kernel)
theorem D_284_232 : decode J_284.2.2.1 232 = .ok (.bipush 59, 2) := dzq_16 (by decide +kernel)
theorem D_284_234 : decode J_284.2.2.1 234 = .ok (.invokevirtual 381, 3) := dzq_182 (by decide +kernel)
theorem D_284_237 : decode J_284.2.2.1 237 = .ok (.aload_n 0, 1) := dzq_42 (by decide +kernel)
theorem D_284_238 : decode J_284.2.2.1 238 = .ok (.iload_n 2, 1) := dzq_28 (by decide +kernel)
theorem D_284_239 : decode J_284.2.2.1 239 = .ok (.iload_n 1, 1) := dzq_27 (by decide +kernel)
theorem D_284_240 : decode J_284.2.2.1 240 = .ok (.iconst 1, 1) := dzq_4 (by decide +kernel)
theorem D_284_241 : decode J_284.2.2.1 241 = .ok (.iconst 0, 1) := dzq_3 (by decide +kernel)
theorem D_284_242 : decode J_284.2.2.1 242 = .ok (.invokevirtual 359, 3) := dzq_182 (by decide +kernel)
theorem D_284_245 : decode J_284.2.2.1 245 = .ok (.goto 8, 3) := dzq_167 (by decide +kernel)
theorem D_284_248 : decode J_284.2.2.1 248 = .ok (.aload_n 0, 1) := dzq_42 (by decide +kernel)
theorem D_284_249 : decode J_284.2.2.1 249 = .ok (.iload_n 1, 1) := dzq_27 (by decide +kernel)
theorem D_284_250 : decode J_284.2.2.1 250 = .ok (.invokevirtual 433, 3) := dzq_182 (by decide +kernel)
theorem D_284_253 : decode J_284.2.2.1 253 = .ok (.return_, 1) := dzq_177 (by decide +kernel)
def P_284_155 (X : mjX) (d C S kc ks : Nat) (k : Nat → Int32 → Nat → Int32 → mjH → mjU) : Prop := ∀ (l0 : Nat) (l3 : Int32) (s0 : Nat) (s1 : Int32) (hp : mjH) (q : Option Value × mjH), k l0 l3 s0 s1 hp = some q → mjG X d C S J_284 (mjEq q) 155 [some (.ref l0), none, none, some (.int l3)] [.int s1, .ref s0] hp kc ks
def P_284_128 (X : mjX) (d C S kc ks : Nat) (k : Nat → Int32 → Int32 → Int32 → mjH → mjU) : Prop := ∀ (l0 : Nat) (l1 : Int32) (l2 : Int32) (l3 : Int32) (hp : mjH) (q : Option Value × mjH), k l0 l1 l2 l3 hp = some q → mjG X d C S J_284 (mjEq q) 128 [some (.ref l0), some (.int l1), some (.int l2), some (.int l3)] [] hp kc ks
def P_284_115 (X : mjX) (d C S kc ks : Nat) (k : Nat → Int32 → Int32 → Int32 → mjH → mjU) : Prop := ∀ (l0 : Nat) (l1 : Int32) (l2 : Int32) (l3 : Int32) (hp : mjH) (q : Option Value × mjH), k l0 l1 l2 l3 hp = some q → mjG X d C S J_284 (mjEq q) 115 [some (.ref l0), some (.int l1), some (.int l2), some (.int l3)] [] hp kc ks
def P_284_94 (X : mjX) (d C S kc ks : Nat) (k : Nat → Int32 → Int32 → Int32 → mjH → mjU) : Prop := ∀ (l0 : Nat) (l1 : Int32) (l2 : Int32) (l3 : Int32) (hp : mjH) (q : Option Value × mjH), k l0 l1 l2 l3 hp = some q → mjG X d C S J_284 (mjEq q) 94 [some (.ref l0), some (.int l1), some (.int l2), some (.int l3)] [] hp kc ks
def P_284_57 (X : mjX) (d C S kc ks : Nat) (k : Nat → Int32 → mjH → mjU) : Prop := ∀ (l0 : Nat) (l1 : Int32) (hp : mjH) (q : Option Value × mjH), k l0 l1 hp = some q → mjG X d C S J_284 (mjEq q) 57 [some (.ref l0), some (.int l1), none, none] [] hp kc ks
def P_284_237 (X : mjX) (d C S kc ks : Nat) (k : Nat → Int32 → Int32 → mjH → mjU) : Prop := ∀ (l0 : Nat) (l1 : Int32) (l2 : Int32) (hp : mjH) (q : Option Value × mjH), k l0 l1 l2 hp = some q → mjG X d C S J_284 (mjEq q) 237 [some (.ref l0), some (.int l1), some (.int l2), none] [] hp kc ks
def P_284_207 (X : mjX) (d C S kc ks : Nat) (k : Nat → Int32 → Int32 → mjH → mjU) : Prop := ∀ (l0 : Nat) (l1 : Int32) (s0 : Int32) (hp : mjH) (q : Option Value × mjH), k l0 l1 s0 hp = some q → mjG X d C S J_284 (mjEq q) 207 [some (.ref l0), some (.int l1), none, none] [.int s0] hp kc ks
def P_284_191 (X : mjX) (d C S kc ks : Nat) (k : Nat → Int32 → mjH → mjU) : Prop := ∀ (l0 : Nat) (l1 : Int32) (hp : mjH) (q : Option Value × mjH), k l0 l1 hp = some q → mjG X d C S J_284 (mjEq q) 191 [some (.ref l0), some (.int l1), none, none] [] hp kc ks
def P_284_0 (X : mjX) (d C S kc ks : Nat) (k : Nat → mjH → mjU) : Prop := ∀ (l0 : Nat) (hp : mjH) (q : Option Value × mjH), k l0 hp = some q → mjG X d C S J_284 (mjEq q) 0 [some (.ref l0), none, none, none] [] hp kc ks
noncomputable def b_284_155 (R : mjR) (l0 : Nat) (l3 : Int32) (s0 : Nat) (s1 : Int32) (hp : mjH) : mjU := gR hp l0 12 33 (fun v1 => gI hp l0 12 63 (fun v2 => aI hp v1 v2 (fun v3 => rV hp s0 12 (bN (R 280 [.ref s0, .int s1, .int (v3 - (1 : Int32)), .int l3] hp) (fun  hp4 => some (none, hp4))))))
theorem t_284_155 {X : mjX} {d C S kc ks : Nat} {R : mjR} (hR : mjC R d) (h1 : kc ≤ C) (h2 : ks ≤ S) : P_284_155 X (d + 1) C S kc ks (b_284_155 R) := by
  intro l0 l3 s0 s1 hp q h
  unfold b_284_155 at h
  refine mjr_aload_n (x := l0) D_284_155 rfl ?_
  refine mjq_gR D_284_156 fr_12_85 h (fun v1 h => ?_)
  refine mjr_aload_n (x := l0) D_284_159 rfl ?_
  refine mjq_gI D_284_160 fr_12_356 h (fun v2 h => ?_)
  refine mjq_aI D_284_163 h (fun v3 h => ?_)
  refine mjq_ic (v := (1 : Int32)) D_284_164 rfl ?_
  refine mjr_isub D_284_165 ?_
  refine mjr_iload_n (x := l3) D_284_166 rfl ?_
  refine mjq_vN (As := [.int s1, .int (v3 - (1 : Int32)), .int l3]) (rest := []) D_284_167 mr_12_414 V_280 rfl rfl rfl hR (Nat.le_refl _) h1 h2 h (fun  hp4 h => ?_)
  refine mjr_goto (tgt := 253) D_284_170 rfl ?_
  exact mjq_nret D_284_253 rfl h1 h2 h
noncomputable def b_284_128 (R : mjR) (l0 : Nat) (l1 : Int32) (l2 : Int32) (l3 : Int32) (hp : mjH) : mjU := gI hp l0 12 61 (fun v1 => (if v1 ≤ 0 then rV hp l0 12 (bN (R 281 [.ref l0, .int (21 : Int32), .int l1, .int (0 : Int32), .int (0 : Int32)] hp) (fun  hp2 => (if l2 = 0 then b_284_155 R l0 l3 l0 (2 : Int32) hp2 else b_284_155 R l0 l3 l0 (4 : Int32) hp2))) else some (none, hp)))
theorem t_284_128 {X : mjX} {d C S kc ks : Nat} {R : mjR} (hR : mjC R d) (h1 : kc ≤ C) (h2 : ks ≤ S) : P_284_128 X (d + 1) C S kc ks (b_284_128 R) := by
  intro l0 l1 l2 l3 hp q h
  unfold b_284_128 at h
  refine mjr_aload_n (x := l0) D_284_128 rfl ?_
  refine mjq_gI D_284_129 fr_12_333 h (fun v1 h => ?_)
  refine mjq_if_le (tgt := 136) D_284_132 rfl h (fun h => ?_) (fun h => ?_)
  · refine mjr_aload_n (x := l0) D_284_136 rfl ?_
    refine mjq_bi (v := (21 : Int32)) D_284_137 rfl ?_
    refine mjr_iload_n (x := l1) D_284_139 rfl ?_
    refine mjq_ic (v := (0 : Int32)) D_284_140 rfl ?_
    refine mjq_ic (v := (0 : Int32)) D_284_141 rfl ?_
    refine mjq_vN (As := [.int (21 : Int32), .int l1, .int (0 : Int32), .int (0 : Int32)]) (rest := []) D_284_142 mr_12_359 V_281 rfl rfl rfl hR (Nat.le_refl _) h1 h2 h (fun  hp2 h => ?_)
    refine mjr_aload_n (x := l0) D_284_145 rfl ?_
    refine mjr_iload_n (x := l2) D_284_146 rfl ?_
    refine mjq_if_eq (tgt := 154) D_284_147 rfl h (fun h => ?_) (fun h => ?_)
    · refine mjq_ic (v := (2 : Int32)) D_284_154 rfl ?_
      exact mjG.fg (lo' := [some (.ref l0), none, none, some (.int l3)]) (And.intro rfl (And.intro rfl True.intro)) ((t_284_155 hR h1 h2) _ _ _ _ _ _ h)
    · refine mjq_ic (v := (4 : Int32)) D_284_150 rfl ?_
      refine mjr_goto (tgt := 155) D_284_151 rfl ?_
      exact mjG.fg (lo' := [some (.ref l0), none, none, some (.int l3)]) (And.intro rfl (And.intro rfl True.intro)) ((t_284_155 hR h1 h2) _ _ _ _ _ _ h)
  · exact mjq_nret D_284_135 rfl h1 h2 h
noncomputable def b_284_115 (R : mjR) (l0 : Nat) (l1 : Int32) (l2 : Int32) (l3 : Int32) (hp : mjH) : mjU := gI hp l0 12 61 (fun v1 => (if v1 = 0 then rV hp l0 12 (bN (R 278 [.ref l0, .int (41 : Int32)] hp) (fun  hp2 => b_284_128 R l0 l1 l2 l3 hp2)) else b_284_128 R l0 l1 l2 l3 hp))
theorem t_284_115 {X : mjX} {d C S kc ks : Nat} {R : mjR} (hR : mjC R d) (h1 : kc ≤ C) (h2 : ks ≤ S) : P_284_115 X (d + 1) C S kc ks (b_284_115 R) := by
  intro l0 l1 l2 l3 hp q h
  unfold b_284_115 at h
  refine mjr_aload_n (x := l0) D_284_115 rfl ?_
  refine mjq_gI D_284_116 fr_12_333 h (fun v1 h => ?_)
  refine mjq_if_ne (tgt := 128) D_284_119 rfl h (fun h => ?_) (fun h => ?_)
  · exact (t_284_128 hR h1 h2) _ _ _ _ _ _ h
  · refine mjr_aload_n (x := l0) D_284_122 rfl ?_
    refine mjq_bi (v := (41 : Int32)) D_284_123 rfl ?_
    refine mjq_vN (As := [.int (41 : Int32)]) (rest := []) D_284_125 mr_12_397 V_278 rfl rfl rfl hR (Nat.le_refl _) h1 h2 h (fun  hp2 h => ?_)
    exact (t_284_128 hR h1 h2) _ _ _ _ _ _ h
noncomputable def b_284_94 (R : mjR) (l0 : Nat) (l1 : Int32) (l2 : Int32) (l3 : Int32) (hp : mjH) : mjU := rV hp l0 12 (bN (R 262 [.ref l0] hp) (fun  hp1 => rV hp1 l0 12 (bN (R 274 [.ref l0, .int (40 : Int32)] hp1) (fun  hp2 => gI hp2 l0 12 61 (fun v3 => (if v3 = 0 then rV hp2 l0 12 (bN (R 287 [.ref l0] hp2) (fun  hp4 => b_284_115 R l0 l1 l2 l3 hp4)) else b_284_115 R l0 l1 l2 l3 hp2))))))
theorem t_284_94 {X : mjX} {d C S kc ks : Nat} {R : mjR} (hR : mjC R d) (h1 : kc ≤ C) (h2 : ks ≤ S) : P_284_94 X (d + 1) C S kc ks (b_284_94 R) := by
  intro l0 l1 l2 l3 hp q h
  unfold b_284_94 at h
  refine mjr_aload_n (x := l0) D_284_94 rfl ?_
  refine mjq_vN (As := []) (rest := []) D_284_95 mr_12_350 V_262 rfl rfl rfl hR (Nat.le_refl _) h1 h2 h (fun  hp1 h => ?_)
  refine mjr_aload_n (x := l0) D_284_98 rfl ?_
  refine mjq_bi (v := (40 : Int32)) D_284_99 rfl ?_
  refine mjq_vN (As := [.int (40 : Int32)]) (rest := []) D_284_101 mr_12_391 V_274 rfl rfl rfl hR (Nat.le_refl _) h1 h2 h (fun  hp2 h => ?_)
  refine mjr_aload_n (x := l0) D_284_104 rfl ?_
  refine mjq_gI D_284_105 fr_12_333 h (fun v3 h => ?_)
  refine mjq_if_ne (tgt := 115) D_284_108 rfl h (fun h => ?_) (fun h => ?_)
  · exact (t_284_115 hR h1 h2) _ _ _ _ _ _ h
  · refine mjr_aload_n (x := l0) D_284_111 rfl ?_
    refine mjq_vN (As := []) (rest := []) D_284_112 mr_12_430 V_287 rfl rfl rfl hR (Nat.le_refl _) h1 h2 h (fun  hp4 h => ?_)
    exact (t_284_115 hR h1 h2) _ _ _ _ _ _ h
noncomputable def b_284_57 (R : mjR) (l0 : Nat) (l1 : Int32) (hp : mjH) : mjU := rV hp l0 12 (bI (R 266 [.ref l0, .int (13 : Int32)] hp) (fun v1 hp2 => rV hp2 l0 12 (bN (R 281 [.ref l0, .int (1 : Int32), .int l1, .int (0 : Int32), .int (0 : Int32)] hp2) (fun  hp3 => gR hp3 l0 12 33 (fun v4 => gI hp3 l0 12 63 (fun v5 => aI hp3 v4 v5 (fun v6 => (if v1 = 0 then b_284_94 R l0 l1 v1 v6 hp3 else rV hp3 l0 12 (bN (R 281 [.ref l0, .int (2 : Int32), .int l1, .int (0 : Int32), .int (0 : Int32)] hp3) (fun  hp7 => b_284_94 R l0 l1 v1 v6 hp7))))))))))
theorem t_284_57 {X : mjX} {d C S kc ks : Nat} {R : mjR} (hR : mjC R d) (h1 : kc ≤ C) (h2 : ks ≤ S) : P_284_57 X (d + 1) C S kc ks (b_284_57 R) := by
  intro l0 l1 hp q h
  unfold b_284_57 at h
  refine mjr_aload_n (x := l0) D_284_57 rfl ?_
  refine mjq_bi (v := (13 : Int32)) D_284_58 rfl ?_
  refine mjq_vI (As := [.int (13 : Int32)]) (rest := []) D_284_60 mr_12_363 V_266 rfl rfl rfl hR (Nat.le_refl _) h1 h2 h (fun v1 hp2 h => ?_)
  refine mjq_istore_n (lo' := [some (.ref l0), some (.int l1), some (.int v1), none]) D_284_63 (Nat.le_of_ble_eq_true rfl) rfl ?_
  refine mjr_aload_n (x := l0) D_284_64 rfl ?_
  refine mjq_ic (v := (1 : Int32)) D_284_65 rfl ?_
  refine mjr_iload_n (x := l1) D_284_66 rfl ?_
  refine mjq_ic (v := (0 : Int32)) D_284_67 rfl ?_
  refine mjq_ic (v := (0 : Int32)) D_284_68 rfl ?_
  refine mjq_vN (As := [.int (1 : Int32), .int l1, .int (0 : Int32), .int (0 : Int32)]) (rest := []) D_284_69 mr_12_359 V_281 rfl rfl rfl hR (Nat.le_refl _) h1 h2 h (fun  hp3 h => ?_)
  refine mjr_aload_n (x := l0) D_284_72 rfl ?_
  refine mjq_gR D_284_73 fr_12_85 h (fun v4 h => ?_)
  refine mjr_aload_n (x := l0) D_284_76 rfl ?_
  refine mjq_gI D_284_77 fr_12_356 h (fun v5 h => ?_)
  refine mjq_aI D_284_80 h (fun v6 h => ?_)
  refine mjq_istore_n (lo' := [some (.ref l0), some (.int l1), some (.int v1), some (.int v6)]) D_284_81 (Nat.le_of_ble_eq_true rfl) rfl ?_
  refine mjr_iload_n (x := v1) D_284_82 rfl ?_
  refine mjq_if_eq (tgt := 94) D_284_83 rfl h (fun h => ?_) (fun h => ?_)
  · exact (t_284_94 hR h1 h2) _ _ _ _ _ _ h
  · refine mjr_aload_n (x := l0) D_284_86 rfl ?_
    refine mjq_ic (v := (2 : Int32)) D_284_87 rfl ?_
    refine mjr_iload_n (x := l1) D_284_88 rfl ?_
    refine mjq_ic (v := (0 : Int32)) D_284_89 rfl ?_
    refine mjq_ic (v := (0 : Int32)) D_284_90 rfl ?_
    refine mjq_vN (As := [.int (2 : Int32), .int l1, .int (0 : Int32), .int (0 : Int32)]) (rest := []) D_284_91 mr_12_359 V_281 rfl rfl rfl hR (Nat.le_refl _) h1 h2 h (fun  hp7 h => ?_)
    exact (t_284_94 hR h1 h2) _ _ _ _ _ _ h
noncomputable def b_284_237 (R : mjR) (l0 : Nat) (l1 : Int32) (l2 : Int32) (hp : mjH) : mjU := rV hp l0 12 (bN (R 281 [.ref l0, .int l2, .int l1, .int (1 : Int32), .int (0 : Int32)] hp) (fun  hp1 => some (none, hp1)))
theorem t_284_237 {X : mjX} {d C S kc ks : Nat} {R : mjR} (hR : mjC R d) (h1 : kc ≤ C) (h2 : ks ≤ S) : P_284_237 X (d + 1) C S kc ks (b_284_237 R) := by
  intro l0 l1 l2 hp q h
  unfold b_284_237 at h
  refine mjr_aload_n (x := l0) D_284_237 rfl ?_
  refine mjr_iload_n (x := l2) D_284_238 rfl ?_
  refine mjr_iload_n (x := l1) D_284_239 rfl ?_
  refine mjq_ic (v := (1 : Int32)) D_284_240 rfl ?_
  refine mjq_ic (v := (0 : Int32)) D_284_241 rfl ?_
  refine mjq_vN (As := [.int l2, .int l1, .int (1 : Int32), .int (0 : Int32)]) (rest := []) D_284_242 mr_12_359 V_281 rfl rfl rfl hR (Nat.le_refl _) h1 h2 h (fun  hp1 h => ?_)
  refine mjr_goto (tgt := 253) D_284_245 rfl ?_
  exact mjq_nret D_284_253 rfl h1 h2 h
noncomputable def b_284_207 (R : mjR) (l0 : Nat) (l1 : Int32) (s0 : Int32) (hp : mjH) : mjU := rV hp l0 12 (bN (R 281 [.ref l0, .int (1 : Int32), .int l1, .int (0 : Int32), .int (0 : Int32)] hp) (fun  hp1 => rV hp1 l0 12 (bN (R 262 [.ref l0] hp1) (fun  hp2 => rV hp2 l0 12 (bN (R 287 [.ref l0] hp2) (fun  hp3 => gI hp3 l0 12 61 (fun v4 => (if v4 = 0 then rV hp3 l0 12 (bN (R 270 [.ref l0, .int (59 : Int32)] hp3) (fun  hp5 => b_284_237 R l0 l1 s0 hp5)) else b_284_237 R l0 l1 s0 hp3))))))))
theorem t_284_207 {X : mjX} {d C S kc ks : Nat} {R : mjR} (hR : mjC R d) (h1 : kc ≤ C) (h2 : ks ≤ S) : P_284_207 X (d + 1) C S kc ks (b_284_207 R) := by
  intro l0 l1 s0 hp q h
  unfold b_284_207 at h
  refine mjq_istore_n (lo' := [some (.ref l0), some (.int l1), some (.int s0), none]) D_284_207 (Nat.le_of_ble_eq_true rfl) rfl ?_
  refine mjr_aload_n (x := l0) D_284_208 rfl ?_
  refine mjq_ic (v := (1 : Int32)) D_284_209 rfl ?_
  refine mjr_iload_n (x := l1) D_284_210 rfl ?_
  refine mjq_ic (v := (0 : Int32)) D_284_211 rfl ?_
  refine mjq_ic (v := (0 : Int32)) D_284_212 rfl ?_
  refine mjq_vN (As := [.int (1 : Int32), .int l1, .int (0 : Int32), .int (0 : Int32)]) (rest := []) D_284_213 mr_12_359 V_281 rfl rfl rfl hR (Nat.le_refl _) h1 h2 h (fun  hp1 h => ?_)
  refine mjr_aload_n (x := l0) D_284_216 rfl ?_
  refine mjq_vN (As := []) (rest := []) D_284_217 mr_12_350 V_262 rfl rfl rfl hR (Nat.le_refl _) h1 h2 h (fun  hp2 h => ?_)
  refine mjr_aload_n (x := l0) D_284_220 rfl ?_
  refine mjq_vN (As := []) (rest := []) D_284_221 mr_12_430 V_287 rfl rfl rfl hR (Nat.le_refl _) h1 h2 h (fun  hp3 h => ?_)
  refine mjr_aload_n (x := l0) D_284_224 rfl ?_
  refine mjq_gI D_284_225 fr_12_333 h (fun v4 h => ?_)
  refine mjq_if_ne (tgt := 237) D_284_228 rfl h (fun h => ?_) (fun h => ?_)
  · exact (t_284_237 hR h1 h2) _ _ _ _ _ h
  · refine mjr_aload_n (x := l0) D_284_231 rfl ?_
    refine mjq_bi (v := (59 : Int32)) D_284_232 rfl ?_
    refine mjq_vN (As := [.int (59 : Int32)]) (rest := []) D_284_234 mr_12_381 V_270 rfl rfl rfl hR (Nat.le_refl _) h1 h2 h (fun  hp5 h => ?_)
    exact (t_284_237 hR h1 h2) _ _ _ _ _ h
noncomputable def b_284_191 (R : mjR) (l0 : Nat) (l1 : Int32) (hp : mjH) : mjU := rV hp l0 12 (bI (R 266 [.ref l0, .int (15 : Int32)] hp) (fun v1 hp2 => (if v1 = 0 then b_284_207 R l0 l1 (28 : Int32) hp2 else b_284_207 R l0 l1 (24 : Int32) hp2)))
theorem t_284_191 {X : mjX} {d C S kc ks : Nat} {R : mjR} (hR : mjC R d) (h1 : kc ≤ C) (h2 : ks ≤ S) : P_284_191 X (d + 1) C S kc ks (b_284_191 R) := by
  intro l0 l1 hp q h
  unfold b_284_191 at h
  refine mjr_aload_n (x := l0) D_284_191 rfl ?_
  refine mjq_bi (v := (15 : Int32)) D_284_192 rfl ?_
  refine mjq_vI (As := [.int (15 : Int32)]) (rest := []) D_284_194 mr_12_363 V_266 rfl rfl rfl hR (Nat.le_refl _) h1 h2 h (fun v1 hp2 h => ?_)
  refine mjq_if_eq (tgt := 205) D_284_197 rfl h (fun h => ?_) (fun h => ?_)
  · refine mjq_bi (v := (28 : Int32)) D_284_205 rfl ?_
    exact (t_284_207 hR h1 h2) _ _ _ _ _ h
  · refine mjq_bi (v := (24 : Int32)) D_284_200 rfl ?_
    refine mjr_goto (tgt := 207) D_284_202 rfl ?_
    exact (t_284_207 hR h1 h2) _ _ _ _ _ h
noncomputable def b_284_0 (R : mjR) (l0 : Nat) (hp : mjH) : mjU := gI hp l0 12 4 (fun v1 => rV hp l0 12 (bI (R 271 [.ref l0, .int (123 : Int32)] hp) (fun v2 hp3 => (if v2 = 0 then rV hp3 l0 12 (bI (R 276 [.ref l0] hp3) (fun v4 hp5 => (if v4 = 0 then rV hp5 l0 12 (bI (R 266 [.ref l0, .int (11 : Int32)] hp5) (fun v6 hp7 => (if v6 = 0 then rV hp7 l0 12 (bI (R 266 [.ref l0, .int (13 : Int32)] hp7) (fun v8 hp9 => (if v8 = 0 then rV hp9 l0 12 (bI (R 266 [.ref l0, .int (14 : Int32)] hp9) (fun v10 hp11 => (if v10 = 0 then rV hp11 l0 12 (bI (R 266 [.ref l0, .int (15 : Int32)] hp11) (fun v12 hp13 => (if v12 = 0 then rV hp13 l0 12 (bN (R 298 [.ref l0, .int v1] hp13) (fun  hp14 => some (none, hp14))) else b_284_191 R l0 v1 hp13))) else b_284_191 R l0 v1 hp11))) else b_284_57 R l0 v1 hp9))) else b_284_57 R l0 v1 hp7))) else rV hp5 l0 12 (bN (R 285 [.ref l0, .int v1] hp5) (fun  hp15 => some (none, hp15)))))) else rV hp3 l0 12 (bN (R 280 [.ref l0, .int (1 : Int32), .int (-1 : Int32), .int (-1 : Int32)] hp3) (fun  hp16 => some (none, hp16)))))))
theorem t_284_0 {X : mjX} {d C S kc ks : Nat} {R : mjR} (hR : mjC R d) (h1 : kc ≤ C) (h2 : ks ≤ S) : P_284_0 X (d + 1) C S kc ks (b_284_0 R) := by
  intro l0 hp q h
  unfold b_284_0 at h
  refine mjr_aload_n (x := l0) D_284_0 rfl ?_
  refine mjq_gI D_284_1 fr_12_310 h (fun v1 h => ?_)
  refine mjq_istore_n (lo' := [some (.ref l0), some (.int v1), none, none]) D_284_4 (Nat.le_of_ble_eq_true rfl) rfl ?_
  refine mjr_aload_n (x := l0) D_284_5 rfl ?_
  refine mjq_bi (v := (123 : Int32)) D_284_6 rfl ?_
  refine mjq_vI (As := [.int (123 : Int32)]) (rest := []) D_284_8 mr_12_343 V_271 rfl rfl rfl hR (Nat.le_refl _) h1 h2 h (fun v2 hp3 h => ?_)
  refine mjq_if_eq (tgt := 24) D_284_11 rfl h (fun h => ?_) (fun h => ?_)
  · refine mjr_aload_n (x := l0) D_284_24 rfl ?_
    refine mjq_vI (As := []) (rest := []) D_284_25 mr_12_404 V_276 rfl rfl rfl hR (Nat.le_refl _) h1 h2 h (fun v4 hp5 h => ?_)
    refine mjq_if_eq (tgt := 39) D_284_28 rfl h (fun h => ?_) (fun h => ?_)
    · refine mjr_aload_n (x := l0) D_284_39 rfl ?_
      refine mjq_bi (v := (11 : Int32)) D_284_40 rfl ?_
      refine mjq_vI (As := [.int (11 : Int32)]) (rest := []) D_284_42 mr_12_363 V_266 rfl rfl rfl hR (Nat.le_refl _) h1 h2 h (fun v6 hp7 h => ?_)
      refine mjq_if_ne (tgt := 57) D_284_45 rfl h (fun h => ?_) (fun h => ?_)
      · exact (t_284_57 hR h1 h2) _ _ _ _ h
      · refine mjr_aload_n (x := l0) D_284_48 rfl ?_
        refine mjq_bi (v := (13 : Int32)) D_284_49 rfl ?_
        refine mjq_vI (As := [.int (13 : Int32)]) (rest := []) D_284_51 mr_12_363 V_266 rfl rfl rfl hR (Nat.le_refl _) h1 h2 h (fun v8 hp9 h => ?_)
        refine mjq_if_eq (tgt := 173) D_284_54 rfl h (fun h => ?_) (fun h => ?_)
        · refine mjr_aload_n (x := l0) D_284_173 rfl ?_
          refine mjq_bi (v := (14 : Int32)) D_284_174 rfl ?_
          refine mjq_vI (As := [.int (14 : Int32)]) (rest := []) D_284_176 mr_12_363 V_266 rfl rfl rfl hR (Nat.le_refl _) h1 h2 h (fun v10 hp11 h => ?_)
          refine mjq_if_ne (tgt := 191) D_284_179 rfl h (fun h => ?_) (fun h => ?_)
          · exact (t_284_191 hR h1 h2) _ _ _ _ h
          · refine mjr_aload_n (x := l0) D_284_182 rfl ?_
            refine mjq_bi (v := (15 : Int32)) D_284_183 rfl ?_
            refine mjq_vI (As := [.int (15 : Int32)]) (rest := []) D_284_185 mr_12_363 V_266 rfl rfl rfl hR (Nat.le_refl _) h1 h2 h (fun v12 hp13 h => ?_)
            refine mjq_if_eq (tgt := 248) D_284_188 rfl h (fun h => ?_) (fun h => ?_)
            · refine mjr_aload_n (x := l0) D_284_248 rfl ?_
              refine mjr_iload_n (x := v1) D_284_249 rfl ?_
              refine mjq_vN (As := [.int v1]) (rest := []) D_284_250 mr_12_433 V_298 rfl rfl rfl hR (Nat.le_refl _) h1 h2 h (fun  hp14 h => ?_)
              exact mjq_nret D_284_253 rfl h1 h2 h
            · exact (t_284_191 hR h1 h2) _ _ _ _ h
        · exact (t_284_57 hR h1 h2) _ _ _ _ h
    · refine mjr_aload_n (x := l0) D_284_31 rfl ?_
      refine mjr_iload_n (x := v1) D_284_32 rfl ?_
      refine mjq_vN (As := [.int v1]) (rest := []) D_284_33 mr_12_427 V_285 rfl rfl rfl hR (Nat.le_refl _) h1 h2 h (fun  hp15 h => ?_)
      refine mjr_goto (tgt := 253) D_284_36 rfl ?_
      exact mjq_nret D_284_253 rfl h1 h2 h
  · refine mjr_aload_n (x := l0) D_284_14 rfl ?_
    refine mjq_ic (v := (1 : Int32)) D_284_15 rfl ?_
    refine mjq_ic (v := (-1 : Int32)) D_284_16 rfl ?_
    refine mjq_ic (v := (-1 : Int32)) D_284_17 rfl ?_
    refine mjq_vN (As := [.int (1 : Int32), .int (-1 : Int32), .int (-1 : Int32)]) (rest := []) D_284_18 mr_12_414 V_280 rfl rfl rfl hR (Nat.le_refl _) h1 h2 h (fun  hp16 h => ?_)
    refine mjr_goto (tgt := 253) D_284_21 rfl ?_
    exact mjq_nret D_284_253 rfl h1 h2 h
noncomputable def f_284 (R : mjR) (a0 : Nat) (hp : mjH) : mjU := b_284_0 R a0 hp
theorem c_284 {R : mjR} {d : Nat} (hR : mjC R d) {a0 : Nat} {hp : mjH} {q : Option Value × mjH} (h : f_284 R a0 hp = some q) : mjM (d + 1) 0 0 284 [.ref a0] hp (mjEq q) :=
  mjM_of Ja_284 (Nat.le_of_ble_eq_true rfl) (mjG.fg (lo' := [some (.ref a0), none, none, none]) (And.intro rfl True.intro) ((t_284_0 hR (Nat.le_refl 0) (Nat.le_refl 0)) a0 hp q h))
def J_285 : mjI := (⟨"OwnerHeapModel", "readDeclare", "(I)V"⟩, 12, prog_14_method_30_code, 5, none, 1, false)
theorem Ja_285 : mjMt 285 = some J_285 := by rfl
theorem D_285_0 : decode J_285.2.2.1 0 = .ok (.aload_n 0, 1) := dzq_42 (by decide +kernel)
theorem D_285_1 : decode J_285.2.2.1 1 = .ok (.iconst 1, 1) := dzq_4 (by decide +kernel)
theorem D_285_2 : decode J_285.2.2.1 2 = .ok (.iload_n 1, 1) := dzq_27 (by decide +kernel)
theorem D_285_3 : decode J_285.2.2.1 3 = .ok (.iconst 0, 1) := dzq_3 (by decide +kernel)
theorem D_285_4 : decode J_285.2.2.1 4 = .ok (.iconst 0, 1) := dzq_3 (by decide +kernel)
theorem D_285_5 : decode J_285.2.2.1 5 = .ok (.invokevirtual 359, 3) := dzq_182 (by decide +kernel)
theorem D_285_8 : decode J_285.2.2.1 8 = .ok (.aload_n 0, 1) := dzq_42 (by decide +kernel)
theorem D_285_9 : decode J_285.2.2.1 9 = .ok (.invokevirtual 408, 3) := dzq_182 (by decide +kernel)
theorem D_285_12 : decode J_285.2.2.1 12 = .ok (.istore_n 2, 1) := dzq_61 (by decide +kernel)
theorem D_285_13 : decode J_285.2.2.1 13 = .ok (.aload_n 0, 1) := dzq_42 (by decide +kernel)
theorem D_285_14 : decode J_285.2.2.1 14 = .ok (.getfield 333, 3) := dzq_180 (by decide +kernel)
theorem D_285_17 : decode J_285.2.2.1 17 = .ok (.ifCond .le 4, 3) := dzq_158 (by decide +kernel)
theorem D_285_20 : decode J_285.2.2.1 20 = .ok (.return_, 1) := dzq_177 (by decide +kernel)
theorem D_285_21 : decode J_285.2.2.1 21 = .ok (.aload_n 0, 1) := dzq_42 (by decide +kernel)
theorem D_285_22 : decode J_285.2.2.1 22 = .ok (.getfield 316, 3) := dzq_180 (by decide +kernel)
theorem D_285_25 : decode J_285.2.2.1 25 = .ok (.iconst 2, 1) := dzq_5 (by decide +kernel)
theorem D_285_26 : decode J_285.2.2.1 26 = .ok (.if_icmp .eq 8, 3) := dzq_159 (by decide +kernel)
theorem D_285_29 : decode J_285.2.2.1 29 = .ok (.aload_n 0, 1) := dzq_42 (by decide +kernel)
theorem D_285_30 : decode J_285.2.2.1 30 = .ok (.invokevirtual 347, 3) := dzq_182 (by decide +kernel)
theorem D_285_33 : decode J_285.2.2.1 33 = .ok (.return_, 1) := dzq_177 (by decide +kernel)
theorem D_285_34 : decode J_285.2.2.1 34 = .ok (.aload_n 0, 1) := dzq_42 (by decide +kernel)
theorem D_285_35 : decode J_285.2.2.1 35 = .ok (.getfield 372, 3) := dzq_180 (by decide +kernel)
theorem D_285_38 : decode J_285.2.2.1 38 = .ok (.bipush 16, 2) := dzq_16 (by decide +kernel)
theorem D_285_40 : decode J_285.2.2.1 40 = .ok (.if_icmp .ne 13, 3) := dzq_160 (by decide +kernel)
theorem D_285_43 : decode J_285.2.2.1 43 = .ok (.aload_n 0, 1) := dzq_42 (by decide +kernel)
theorem D_285_44 : decode J_285.2.2.1 44 = .ok (.iconst 3, 1) := dzq_6 (by decide +kernel)
theorem D_285_45 : decode J_285.2.2.1 45 = .ok (.aload_n 0, 1) := dzq_42 (by decide +kernel)
theorem D_285_46 : decode J_285.2.2.1 46 = .ok (.getfield 310, 3) := dzq_180 (by decide +kernel)
theorem D_285_49 : decode J_285.2.2.1 49 = .ok (.invokevirtual 339, 3) := dzq_182 (by decide +kernel)
theorem D_285_52 : decode J_285.2.2.1 52 = .ok (.return_, 1) := dzq_177 (by decide +kernel)
theorem D_285_53 : decode J_285.2.2.1 53 = .ok (.aload_n 0, 1) := dzq_42 (by decide +kernel)
theorem D_285_54 : decode J_285.2.2.1 54 = .ok (.getfield 372, 3) := dzq_180 (by decide +kernel)
theorem D_285_57 : decode J_285.2.2.1 57 = .ok (.istore_n 3, 1) := dzq_62 (by decide +kernel)
theorem D_285_58 : decode J_285.2.2.1 58 = .ok (.aload_n 0, 1) := dzq_42 (by decide +kernel)
theorem D_285_59 : decode J_285.2.2.1 59 = .ok (.dup, 1) := dzq_89 (by decide +kernel)
theorem D_285_60 : decode J_285.2.2.1 60 = .ok (.getfield 372, 3) := dzq_180 (by decide +kernel)
theorem D_285_63 : decode J_285.2.2.1 63 = .ok (.iconst 1, 1) := dzq_4 (by decide +kernel)
theorem D_285_64 : decode J_285.2.2.1 64 = .ok (.iadd, 1) := dzq_96 (by decide +kernel)
theorem D_285_65 : decode J_285.2.2.1 65 = .ok (.putfield 372, 3) := dzq_181 (by decide +kernel)
theorem D_285_68 : decode J_285.2.2.1 68 = .ok (.aload_n 0, 1) := dzq_42 (by decide +kernel)
theorem D_285_69 : decode J_285.2.2.1 69 = .ok (.bipush 19, 2) := dzq_16 (by decide +kernel)
theorem D_285_71 : decode J_285.2.2.1 71 = .ok (.aload_n 0, 1) := dzq_42 (by decide +kernel)
theorem D_285_72 : decode J_285.2.2.1 72 = .ok (.getfield 310, 3) := dzq_180 (by decide +kernel)
theorem D_285_75 : decode J_285.2.2.1 75 = .ok (.aload_n 0, 1) := dzq_42 (by decide +kernel)
theorem D_285_76 : decode J_285.2.2.1 76 = .ok (.getfield 322, 3) := dzq_180 (by decide +kernel)
theorem D_285_79 : decode J_285.2.2.1 79 = .ok (.iload_n 2, 1) := dzq_28 (by decide +kernel)
theorem D_285_80 : decode J_285.2.2.1 80 = .ok (.invokevirtual 436, 3) := dzq_182 (by decide +kernel)
theorem D_285_83 : decode J_285.2.2.1 83 = .ok (.aload_n 0, 1) := dzq_42 (by decide +kernel)
theorem D_285_84 : decode J_285.2.2.1 84 = .ok (.invokevirtual 350, 3) := dzq_182 (by decide +kernel)
theorem D_285_87 : decode J_285.2.2.1 87 = .ok (.aload_n 0, 1) := dzq_42 (by decide +kernel)
theorem D_285_88 : decode J_285.2.2.1 88 = .ok (.getfield 310, 3) := dzq_180 (by decide +kernel)
theorem D_285_91 : decode J_285.2.2.1 91 = .ok (.istore 4, 2) := dzq_54 (by decide +kernel)
theorem D_285_93 : decode J_285.2.2.1 93 = .ok (.aload_n 0, 1) := dzq_42 (by decide +kernel)
theorem D_285_94 : decode J_285.2.2.1 94 = .ok (.bipush 61, 2) := dzq_16 (by decide +kernel)
theorem D_285_96 : decode J_285.2.2.1 96 = .ok (.invokevirtual 381, 3) := dzq_182 (by decide +kernel)
theorem D_285_99 : decode J_285.2.2.1 99 = .ok (.aload_n 0, 1) := dzq_42 (by decide +kernel)
theorem D_285_100 : decode J_285.2.2.1 100 = .ok (.getfield 333, 3) := dzq_180 (by decide +kernel)
theorem D_285_103 : decode J_285.2.2.1 103 = .ok (.ifCond .ne 7, 3) := dzq_154 (by decide +kernel)
theorem D_285_106 : decode J_285.2.2.1 106 = .ok (.aload_n 0, 1) := dzq_42 (by decide +kernel)
theorem D_285_107 : decode J_285.2.2.1 107 = .ok (.invokevirtual 430, 3) := dzq_182 (by decide +kernel)
theorem D_285_110 : decode J_285.2.2.1 110 = .ok (.aload_n 0, 1) := dzq_42 (by decide +kernel)
theorem D_285_111 : decode J_285.2.2.1 111 = .ok (.getfield 333, 3) := dzq_180 (by decide +kernel)
theorem D_285_114 : decode J_285.2.2.1 114 = .ok (.ifCond .ne 9, 3) := dzq_154 (by decide +kernel)
theorem D_285_117 : decode J_285.2.2.1 117 = .ok (.aload_n 0, 1) := dzq_42 (by decide +kernel)
theorem D_285_118 : decode J_285.2.2.1 118 = .ok (.bipush 59, 2) := dzq_16 (by decide +kernel)
theorem D_285_120 : decode J_285.2.2.1 120 = .ok (.invokevirtual 381, 3) := dzq_182 (by decide +kernel)
theorem D_285_123 : decode J_285.2.2.1 123 = .ok (.aload_n 0, 1) := dzq_42 (by decide +kernel)
theorem D_285_124 : decode J_285.2.2.1 124 = .ok (.bipush 20, 2) := dzq_16 (by decide +kernel)
theorem D_285_126 : decode J_285.2.2.1 126 = .ok (.iload 4, 2) := dzq_21 (by decide +kernel)
theorem D_285_128 : decode J_285.2.2.1 128 = .ok (.iload_n 3, 1) := dzq_29 (by decide +kernel)
theorem D_285_129 : decode J_285.2.2.1 129 = .ok (.iconst 0, 1) := dzq_3 (by decide +kernel)
theorem D_285_130 : decode J_285.2.2.1 130 = .ok (.invokevirtual 359, 3) := dzq_182 (by decide +kernel)
theorem D_285_133 : decode J_285.2.2.1 133 = .ok (.return_, 1) := dzq_177 (by decide +kernel)
def P_285_123 (X : mjX) (d C S kc ks : Nat) (k : Nat → Int32 → Int32 → mjH → mjU) : Prop := ∀ (l0 : Nat) (l3 : Int32) (l4 : Int32) (hp : mjH) (q : Option Value × mjH), k l0 l3 l4 hp = some q → mjG X d C S J_285 (mjEq q) 123 [some (.ref l0), none, none, some (.int l3), some (.int l4)] [] hp kc ks
def P_285_110 (X : mjX) (d C S kc ks : Nat) (k : Nat → Int32 → Int32 → mjH → mjU) : Prop := ∀ (l0 : Nat) (l3 : Int32) (l4 : Int32) (hp : mjH) (q : Option Value × mjH), k l0 l3 l4 hp = some q → mjG X d C S J_285 (mjEq q) 110 [some (.ref l0), none, none, some (.int l3), some (.int l4)] [] hp kc ks
def P_285_0 (X : mjX) (d C S kc ks : Nat) (k : Nat → Int32 → mjH → mjU) : Prop := ∀ (l0 : Nat) (l1 : Int32) (hp : mjH) (q : Option Value × mjH), k l0 l1 hp = some q → mjG X d C S J_285 (mjEq q) 0 [some (.ref l0), some (.int l1), none, none, none] [] hp kc ks
noncomputable def b_285_123 (R : mjR) (l0 : Nat) (l3 : Int32) (l4 : Int32) (hp : mjH) : mjU := rV hp l0 12 (bN (R 281 [.ref l0, .int (20 : Int32), .int l4, .int l3, .int (0 : Int32)] hp) (fun  hp1 => some (none, hp1)))
theorem t_285_123 {X : mjX} {d C S kc ks : Nat} {R : mjR} (hR : mjC R d) (h1 : kc ≤ C) (h2 : ks ≤ S) : P_285_123 X (d + 1) C S kc ks (b_285_123 R) := by
  intro l0 l3 l4 hp q h
  unfold b_285_123 at h
  refine mjr_aload_n (x := l0) D_285_123 rfl ?_
  refine mjq_bi (v := (20 : Int32)) D_285_124 rfl ?_
  refine mjr_iload (x := l4) D_285_126 rfl ?_
  refine mjr_iload_n (x := l3) D_285_128 rfl ?_
  refine mjq_ic (v := (0 : Int32)) D_285_129 rfl ?_
  refine mjq_vN (As := [.int (20 : Int32), .int l4, .int l3, .int (0 : Int32)]) (rest := []) D_285_130 mr_12_359 V_281 rfl rfl rfl hR (Nat.le_refl _) h1 h2 h (fun  hp1 h => ?_)
  exact mjq_nret D_285_133 rfl h1 h2 h
noncomputable def b_285_110 (R : mjR) (l0 : Nat) (l3 : Int32) (l4 : Int32) (hp : mjH) : mjU := gI hp l0 12 61 (fun v1 => (if v1 = 0 then rV hp l0 12 (bN (R 270 [.ref l0, .int (59 : Int32)] hp) (fun  hp2 => b_285_123 R l0 l3 l4 hp2)) else b_285_123 R l0 l3 l4 hp))
theorem t_285_110 {X : mjX} {d C S kc ks : Nat} {R : mjR} (hR : mjC R d) (h1 : kc ≤ C) (h2 : ks ≤ S) : P_285_110 X (d + 1) C S kc ks (b_285_110 R) := by
  intro l0 l3 l4 hp q h
  unfold b_285_110 at h
  refine mjr_aload_n (x := l0) D_285_110 rfl ?_
  refine mjq_gI D_285_111 fr_12_333 h (fun v1 h => ?_)
  refine mjq_if_ne (tgt := 123) D_285_114 rfl h (fun h => ?_) (fun h => ?_)
  · exact (t_285_123 hR h1 h2) _ _ _ _ _ h
  · refine mjr_aload_n (x := l0) D_285_117 rfl ?_
    refine mjq_bi (v := (59 : Int32)) D_285_118 rfl ?_
    refine mjq_vN (As := [.int (59 : Int32)]) (rest := []) D_285_120 mr_12_381 V_270 rfl rfl rfl hR (Nat.le_refl _) h1 h2 h (fun  hp2 h => ?_)
    exact (t_285_123 hR h1 h2) _ _ _ _ _ h
noncomputable def b_285_0 (R : mjR) (l0 : Nat) (l1 : Int32) (hp : mjH) : mjU := rV hp l0 12 (bN (R 281 [.ref l0, .int (1 : Int32), .int l1, .int (0 : Int32), .int (0 : Int32)] hp) (fun  hp1 => rV hp1 l0 12 (bI (R 277 [.ref l0] hp1) (fun v2 hp3 => gI hp3 l0 12 61 (fun v4 => (if v4 ≤ 0 then gI hp3 l0 12 3 (fun v5 => (if v5 = (2 : Int32) then gI hp3 l0 12 67 (fun v6 => (if v6 = (16 : Int32) then gI hp3 l0 12 4 (fun v18 => rV hp3 l0 12 (bN (R 268 [.ref l0, .int (3 : Int32), .int v18] hp3) (fun  hp19 => some (none, hp19)))) else gI hp3 l0 12 67 (fun v7 => gI hp3 l0 12 67 (fun v8 => pI hp3 l0 12 67 (v8 + (1 : Int32)) (fun hp9 => gI hp9 l0 12 4 (fun v10 => gL hp9 l0 12 7 (fun v11 => rV hp9 l0 12 (bN (R 286 [.ref l0, .int (19 : Int32), .int v10, .long v11, .int v2] hp9) (fun  hp12 => rV hp12 l0 12 (bN (R 262 [.ref l0] hp12) (fun  hp13 => gI hp13 l0 12 4 (fun v14 => rV hp13 l0 12 (bN (R 270 [.ref l0, .int (61 : Int32)] hp13) (fun  hp15 => gI hp15 l0 12 61 (fun v16 => (if v16 = 0 then rV hp15 l0 12 (bN (R 287 [.ref l0] hp15) (fun  hp17 => b_285_110 R l0 v7 v14 hp17)) else b_285_110 R l0 v7 v14 hp15)))))))))))))))) else rV hp3 l0 12 (bN (R 269 [.ref l0] hp3) (fun  hp20 => some (none, hp20))))) else some (none, hp3)))))))
theorem t_285_0 {X : mjX} {d C S kc ks : Nat} {R : mjR} (hR : mjC R d) (h1 : kc ≤ C) (h2 : ks ≤ S) : P_285_0 X (d + 1) C S kc ks (b_285_0 R) := by
  intro l0 l1 hp q h
  unfold b_285_0 at h
  refine mjr_aload_n (x := l0) D_285_0 rfl ?_
  refine mjq_ic (v := (1 : Int32)) D_285_1 rfl ?_
  refine mjr_iload_n (x := l1) D_285_2 rfl ?_
  refine mjq_ic (v := (0 : Int32)) D_285_3 rfl ?_
  refine mjq_ic (v := (0 : Int32)) D_285_4 rfl ?_
  refine mjq_vN (As := [.int (1 : Int32), .int l1, .int (0 : Int32), .int (0 : Int32)]) (rest := []) D_285_5 mr_12_359 V_281 rfl rfl rfl hR (Nat.le_refl _) h1 h2 h (fun  hp1 h => ?_)
  refine mjr_aload_n (x := l0) D_285_8 rfl ?_
  refine mjq_vI (As := []) (rest := []) D_285_9 mr_12_408 V_277 rfl rfl rfl hR (Nat.le_refl _) h1 h2 h (fun v2 hp3 h => ?_)
  refine mjq_istore_n (lo' := [some (.ref l0), some (.int l1), some (.int v2), none, none]) D_285_12 (Nat.le_of_ble_eq_true rfl) rfl ?_
  refine mjr_aload_n (x := l0) D_285_13 rfl ?_
  refine mjq_gI D_285_14 fr_12_333 h (fun v4 h => ?_)
  refine mjq_if_le (tgt := 21) D_285_17 rfl h (fun h => ?_) (fun h => ?_)
  · refine mjr_aload_n (x := l0) D_285_21 rfl ?_
    refine mjq_gI D_285_22 fr_12_316 h (fun v5 h => ?_)
    refine mjq_ic (v := (2 : Int32)) D_285_25 rfl ?_
    refine mjq_icmp_eq (tgt := 34) D_285_26 rfl h (fun h => ?_) (fun h => ?_)
    · refine mjr_aload_n (x := l0) D_285_34 rfl ?_
      refine mjq_gI D_285_35 fr_12_372 h (fun v6 h => ?_)
      refine mjq_bi (v := (16 : Int32)) D_285_38 rfl ?_
      refine mjq_icmp_ne (tgt := 53) D_285_40 rfl h (fun h => ?_) (fun h => ?_)
      · refine mjr_aload_n (x := l0) D_285_53 rfl ?_
        refine mjq_gI D_285_54 fr_12_372 h (fun v7 h => ?_)
        refine mjq_istore_n (lo' := [some (.ref l0), some (.int l1), some (.int v2), some (.int v7), none]) D_285_57 (Nat.le_of_ble_eq_true rfl) rfl ?_
        refine mjr_aload_n (x := l0) D_285_58 rfl ?_
        refine mjr_dup D_285_59 rfl ?_
        refine mjq_gI D_285_60 fr_12_372 h (fun v8 h => ?_)
        refine mjq_ic (v := (1 : Int32)) D_285_63 rfl ?_
        refine mjr_iadd D_285_64 ?_
        refine mjq_pI D_285_65 fr_12_372 rfl rfl h (fun hp9 h => ?_)
        refine mjr_aload_n (x := l0) D_285_68 rfl ?_
        refine mjq_bi (v := (19 : Int32)) D_285_69 rfl ?_
        refine mjr_aload_n (x := l0) D_285_71 rfl ?_
        refine mjq_gI D_285_72 fr_12_310 h (fun v10 h => ?_)
        refine mjr_aload_n (x := l0) D_285_75 rfl ?_
        refine mjq_gL D_285_76 fr_12_322 h (fun v11 h => ?_)
        refine mjr_iload_n (x := v2) D_285_79 rfl ?_
        refine mjq_vN (As := [.int (19 : Int32), .int v10, .long v11, .int v2]) (rest := []) D_285_80 mr_12_436 V_286 rfl rfl rfl hR (Nat.le_refl _) h1 h2 h (fun  hp12 h => ?_)
        refine mjr_aload_n (x := l0) D_285_83 rfl ?_
        refine mjq_vN (As := []) (rest := []) D_285_84 mr_12_350 V_262 rfl rfl rfl hR (Nat.le_refl _) h1 h2 h (fun  hp13 h => ?_)
        refine mjr_aload_n (x := l0) D_285_87 rfl ?_
        refine mjq_gI D_285_88 fr_12_310 h (fun v14 h => ?_)
        refine mjq_istore (lo' := [some (.ref l0), some (.int l1), some (.int v2), some (.int v7), some (.int v14)]) D_285_91 (Nat.le_of_ble_eq_true rfl) rfl ?_
        refine mjr_aload_n (x := l0) D_285_93 rfl ?_
        refine mjq_bi (v := (61 : Int32)) D_285_94 rfl ?_
        refine mjq_vN (As := [.int (61 : Int32)]) (rest := []) D_285_96 mr_12_381 V_270 rfl rfl rfl hR (Nat.le_refl _) h1 h2 h (fun  hp15 h => ?_)
        refine mjr_aload_n (x := l0) D_285_99 rfl ?_
        refine mjq_gI D_285_100 fr_12_333 h (fun v16 h => ?_)
        refine mjq_if_ne (tgt := 110) D_285_103 rfl h (fun h => ?_) (fun h => ?_)
        · exact mjG.fg (lo' := [some (.ref l0), none, none, some (.int v7), some (.int v14)]) (And.intro rfl (And.intro rfl (And.intro rfl True.intro))) ((t_285_110 hR h1 h2) _ _ _ _ _ h)
        · refine mjr_aload_n (x := l0) D_285_106 rfl ?_
          refine mjq_vN (As := []) (rest := []) D_285_107 mr_12_430 V_287 rfl rfl rfl hR (Nat.le_refl _) h1 h2 h (fun  hp17 h => ?_)
          exact mjG.fg (lo' := [some (.ref l0), none, none, some (.int v7), some (.int v14)]) (And.intro rfl (And.intro rfl (And.intro rfl True.intro))) ((t_285_110 hR h1 h2) _ _ _ _ _ h)
      · refine mjr_aload_n (x := l0) D_285_43 rfl ?_
        refine mjq_ic (v := (3 : Int32)) D_285_44 rfl ?_
        refine mjr_aload_n (x := l0) D_285_45 rfl ?_
        refine mjq_gI D_285_46 fr_12_310 h (fun v18 h => ?_)
        refine mjq_vN (As := [.int (3 : Int32), .int v18]) (rest := []) D_285_49 mr_12_339 V_268 rfl rfl rfl hR (Nat.le_refl _) h1 h2 h (fun  hp19 h => ?_)
        exact mjq_nret D_285_52 rfl h1 h2 h
    · refine mjr_aload_n (x := l0) D_285_29 rfl ?_
      refine mjq_vN (As := []) (rest := []) D_285_30 mr_12_347 V_269 rfl rfl rfl hR (Nat.le_refl _) h1 h2 h (fun  hp20 h => ?_)
      exact mjq_nret D_285_33 rfl h1 h2 h
  · exact mjq_nret D_285_20 rfl h1 h2 h
noncomputable def f_285 (R : mjR) (a0 : Nat) (a1 : Int32) (hp : mjH) : mjU := b_285_0 R a0 a1 hp
theorem c_285 {R : mjR} {d : Nat} (hR : mjC R d) {a0 : Nat} {a1 : Int32} {hp : mjH} {q : Option Value × mjH} (h : f_285 R a0 a1 hp = some q) : mjM (d + 1) 0 0 285 [.ref a0, .int a1] hp (mjEq q) :=
  mjM_of Ja_285 (Nat.le_of_ble_eq_true rfl) (mjG.fg (lo' := [some (.ref a0), some (.int a1), none, none, none]) (And.intro rfl (And.intro rfl True.intro)) ((t_285_0 hR (Nat.le_refl 0) (Nat.le_refl 0)) a0 a1 hp q h))
def J_286 : mjI := (⟨"OwnerHeapModel", "orderName", "(IIJI)V"⟩, 12, prog_14_method_17_code, 6, none, 4, false)
theorem Ja_286 : mjMt 286 = some J_286 := by rfl
theorem D_286_0 : decode J_286.2.2.1 0 = .ok (.aload_n 0, 1) := dzq_42 (by decide +kernel)
theorem D_286_1 : decode J_286.2.2.1 1 = .ok (.iload_n 1, 1) := dzq_27 (by decide +kernel)
theorem D_286_2 : decode J_286.2.2.1 2 = .ok (.iload_n 2, 1) := dzq_28 (by decide +kernel)
theorem D_286_3 : decode J_286.2.2.1 3 = .ok (.iload 5, 2) := dzq_21 (by decide +kernel)
theorem D_286_5 : decode J_286.2.2.1 5 = .ok (.iconst 0, 1) := dzq_3 (by decide +kernel)
theorem D_286_6 : decode J_286.2.2.1 6 = .ok (.invokevirtual 359, 3) := dzq_182 (by decide +kernel)
theorem D_286_9 : decode J_286.2.2.1 9 = .ok (.aload_n 0, 1) := dzq_42 (by decide +kernel)
theorem D_286_10 : decode J_286.2.2.1 10 = .ok (.getfield 160, 3) := dzq_180 (by decide +kernel)
theorem D_286_13 : decode J_286.2.2.1 13 = .ok (.sipush 5000, 3) := dzq_17 (by decide +kernel)
theorem D_286_16 : decode J_286.2.2.1 16 = .ok (.aload_n 0, 1) := dzq_42 (by decide +kernel)
theorem D_286_17 : decode J_286.2.2.1 17 = .ok (.getfield 356, 3) := dzq_180 (by decide +kernel)
theorem D_286_20 : decode J_286.2.2.1 20 = .ok (.imul, 1) := dzq_104 (by decide +kernel)
theorem D_286_21 : decode J_286.2.2.1 21 = .ok (.aload_n 0, 1) := dzq_42 (by decide +kernel)
theorem D_286_22 : decode J_286.2.2.1 22 = .ok (.getfield 85, 3) := dzq_180 (by decide +kernel)
theorem D_286_25 : decode J_286.2.2.1 25 = .ok (.aload_n 0, 1) := dzq_42 (by decide +kernel)
theorem D_286_26 : decode J_286.2.2.1 26 = .ok (.getfield 356, 3) := dzq_180 (by decide +kernel)
theorem D_286_29 : decode J_286.2.2.1 29 = .ok (.iaload, 1) := dzq_46 (by decide +kernel)
theorem D_286_30 : decode J_286.2.2.1 30 = .ok (.iadd, 1) := dzq_96 (by decide +kernel)
theorem D_286_31 : decode J_286.2.2.1 31 = .ok (.iconst 1, 1) := dzq_4 (by decide +kernel)
theorem D_286_32 : decode J_286.2.2.1 32 = .ok (.isub, 1) := dzq_100 (by decide +kernel)
theorem D_286_33 : decode J_286.2.2.1 33 = .ok (.lload_n 3, 1) := dzq_33 (by decide +kernel)
theorem D_286_34 : decode J_286.2.2.1 34 = .ok (.lastore, 1) := by decide +kernel
theorem D_286_35 : decode J_286.2.2.1 35 = .ok (.return_, 1) := dzq_177 (by decide +kernel)
def P_286_0 (X : mjX) (d C S kc ks : Nat) (k : Nat → Int32 → Int32 → Int64 → Int32 → mjH → mjU) : Prop := ∀ (l0 : Nat) (l1 : Int32) (l2 : Int32) (l3 : Int64) (l5 : Int32) (hp : mjH) (q : Option Value × mjH), k l0 l1 l2 l3 l5 hp = some q → mjG X d C S J_286 (mjEq q) 0 [some (.ref l0), some (.int l1), some (.int l2), some (.long l3), none, some (.int l5)] [] hp kc ks
noncomputable def b_286_0 (R : mjR) (l0 : Nat) (l1 : Int32) (l2 : Int32) (l3 : Int64) (l5 : Int32) (hp : mjH) : mjU := rV hp l0 12 (bN (R 281 [.ref l0, .int l1, .int l2, .int l5, .int (0 : Int32)] hp) (fun  hp1 => gR hp1 l0 12 58 (fun v2 => gI hp1 l0 12 63 (fun v3 => gR hp1 l0 12 33 (fun v4 => gI hp1 l0 12 63 (fun v5 => aI hp1 v4 v5 (fun v6 => sL hp1 v2 ((((5000 : Int32) * v3) + v6) - (1 : Int32)) l3 (fun hp7 => some (none, hp7)))))))))
theorem t_286_0 {X : mjX} {d C S kc ks : Nat} {R : mjR} (hR : mjC R d) (h1 : kc ≤ C) (h2 : ks ≤ S) : P_286_0 X (d + 1) C S kc ks (b_286_0 R) := by
  intro l0 l1 l2 l3 l5 hp q h
  unfold b_286_0 at h
  refine mjr_aload_n (x := l0) D_286_0 rfl ?_
  refine mjr_iload_n (x := l1) D_286_1 rfl ?_
  refine mjr_iload_n (x := l2) D_286_2 rfl ?_
  refine mjr_iload (x := l5) D_286_3 rfl ?_
  refine mjq_ic (v := (0 : Int32)) D_286_5 rfl ?_
  refine mjq_vN (As := [.int l1, .int l2, .int l5, .int (0 : Int32)]) (rest := []) D_286_6 mr_12_359 V_281 rfl rfl rfl hR (Nat.le_refl _) h1 h2 h (fun  hp1 h => ?_)
  refine mjr_aload_n (x := l0) D_286_9 rfl ?_
  refine mjq_gR D_286_10 fr_12_160 h (fun v2 h => ?_)
  refine mjq_si (v := (5000 : Int32)) D_286_13 rfl ?_
  refine mjr_aload_n (x := l0) D_286_16 rfl ?_
  refine mjq_gI D_286_17 fr_12_356 h (fun v3 h => ?_)
  refine mjr_imul D_286_20 ?_
  refine mjr_aload_n (x := l0) D_286_21 rfl ?_
  refine mjq_gR D_286_22 fr_12_85 h (fun v4 h => ?_)
  refine mjr_aload_n (x := l0) D_286_25 rfl ?_
  refine mjq_gI D_286_26 fr_12_356 h (fun v5 h => ?_)
  refine mjq_aI D_286_29 h (fun v6 h => ?_)
  refine mjr_iadd D_286_30 ?_
  refine mjq_ic (v := (1 : Int32)) D_286_31 rfl ?_
  refine mjr_isub D_286_32 ?_
  refine mjr_lload_n (x := l3) D_286_33 rfl ?_
  refine mjq_sL D_286_34 h (fun hp7 h => ?_)
  exact mjq_nret D_286_35 rfl h1 h2 h
noncomputable def f_286 (R : mjR) (a0 : Nat) (a1 : Int32) (a2 : Int32) (a3 : Int64) (a4 : Int32) (hp : mjH) : mjU := b_286_0 R a0 a1 a2 a3 a4 hp
theorem c_286 {R : mjR} {d : Nat} (hR : mjC R d) {a0 : Nat} {a1 : Int32} {a2 : Int32} {a3 : Int64} {a4 : Int32} {hp : mjH} {q : Option Value × mjH} (h : f_286 R a0 a1 a2 a3 a4 hp = some q) : mjM (d + 1) 0 0 286 [.ref a0, .int a1, .int a2, .long a3, .int a4] hp (mjEq q) :=
  mjM_of Ja_286 (Nat.le_of_ble_eq_true rfl) (mjG.fg (lo' := [some (.ref a0), some (.int a1), some (.int a2), some (.long a3), none, some (.int a4)]) (And.intro rfl (And.intro rfl (And.intro rfl (And.intro rfl (And.intro rfl True.intro))))) ((t_286_0 hR (Nat.le_refl 0) (Nat.le_refl 0)) a0 a1 a2 a3 a4 hp q h))
def J_287 : mjI := (⟨"OwnerHeapModel", "readE", "()V"⟩, 12, prog_14_method_34_code, 2, none, 0, false)
theorem Ja_287 : mjMt 287 = some J_287 := by rfl
theorem D_287_0 : decode J_287.2.2.1 0 = .ok (.aload_n 0, 1) := dzq_42 (by decide +kernel)
theorem D_287_1 : decode J_287.2.2.1 1 = .ok (.iconst 0, 1) := dzq_3 (by decide +kernel)
theorem D_287_2 : decode J_287.2.2.1 2 = .ok (.putfield 443, 3) := dzq_181 (by decide +kernel)
theorem D_287_5 : decode J_287.2.2.1 5 = .ok (.aload_n 0, 1) := dzq_42 (by decide +kernel)
theorem D_287_6 : decode J_287.2.2.1 6 = .ok (.iconst 0, 1) := dzq_3 (by decide +kernel)
theorem D_287_7 : decode J_287.2.2.1 7 = .ok (.iconst 0, 1) := dzq_3 (by decide +kernel)
theorem D_287_8 : decode J_287.2.2.1 8 = .ok (.aload_n 0, 1) := dzq_42 (by decide +kernel)
theorem D_287_9 : decode J_287.2.2.1 9 = .ok (.getfield 310, 3) := dzq_180 (by decide +kernel)
theorem D_287_12 : decode J_287.2.2.1 12 = .ok (.iconst 0, 1) := dzq_3 (by decide +kernel)
theorem D_287_13 : decode J_287.2.2.1 13 = .ok (.invokevirtual 446, 3) := dzq_182 (by decide +kernel)
theorem D_287_16 : decode J_287.2.2.1 16 = .ok (.iconst 1, 1) := dzq_4 (by decide +kernel)
theorem D_287_17 : decode J_287.2.2.1 17 = .ok (.istore_n 1, 1) := dzq_60 (by decide +kernel)
theorem D_287_18 : decode J_287.2.2.1 18 = .ok (.aload_n 0, 1) := dzq_42 (by decide +kernel)
theorem D_287_19 : decode J_287.2.2.1 19 = .ok (.getfield 333, 3) := dzq_180 (by decide +kernel)
theorem D_287_22 : decode J_287.2.2.1 22 = .ok (.ifCond .ne 30, 3) := dzq_154 (by decide +kernel)
theorem D_287_25 : decode J_287.2.2.1 25 = .ok (.aload_n 0, 1) := dzq_42 (by decide +kernel)
theorem D_287_26 : decode J_287.2.2.1 26 = .ok (.getfield 443, 3) := dzq_180 (by decide +kernel)
theorem D_287_29 : decode J_287.2.2.1 29 = .ok (.ifCond .le 23, 3) := dzq_158 (by decide +kernel)
theorem D_287_32 : decode J_287.2.2.1 32 = .ok (.iload_n 1, 1) := dzq_27 (by decide +kernel)
theorem D_287_33 : decode J_287.2.2.1 33 = .ok (.ifCond .eq 11, 3) := dzq_153 (by decide +kernel)
theorem D_287_36 : decode J_287.2.2.1 36 = .ok (.aload_n 0, 1) := dzq_42 (by decide +kernel)
theorem D_287_37 : decode J_287.2.2.1 37 = .ok (.invokevirtual 448, 3) := dzq_182 (by decide +kernel)
theorem D_287_40 : decode J_287.2.2.1 40 = .ok (.istore_n 1, 1) := dzq_60 (by decide +kernel)
theorem D_287_41 : decode J_287.2.2.1 41 = .ok (.goto (-23), 3) := dzq_167 (by decide +kernel)
theorem D_287_44 : decode J_287.2.2.1 44 = .ok (.aload_n 0, 1) := dzq_42 (by decide +kernel)
theorem D_287_45 : decode J_287.2.2.1 45 = .ok (.invokevirtual 451, 3) := dzq_182 (by decide +kernel)
theorem D_287_48 : decode J_287.2.2.1 48 = .ok (.istore_n 1, 1) := dzq_60 (by decide +kernel)
theorem D_287_49 : decode J_287.2.2.1 49 = .ok (.goto (-31), 3) := dzq_167 (by decide +kernel)
theorem D_287_52 : decode J_287.2.2.1 52 = .ok (.return_, 1) := dzq_177 (by decide +kernel)
def P_287_18 (X : mjX) (d C S kc ks : Nat) (k : Nat → Int32 → mjH → mjU) : Prop := ∀ (l0 : Nat) (l1 : Int32) (hp : mjH) (q : Option Value × mjH), k l0 l1 hp = some q → mjG X d C S J_287 (mjEq q) 18 [some (.ref l0), some (.int l1)] [] hp kc ks
def P_287_0 (X : mjX) (d C S kc ks : Nat) (k : Nat → mjH → mjU) : Prop := ∀ (l0 : Nat) (hp : mjH) (q : Option Value × mjH), k l0 hp = some q → mjG X d C S J_287 (mjEq q) 0 [some (.ref l0), none] [] hp kc ks
noncomputable def b_287_18 (R : mjR) (k18 : Nat → Int32 → mjH → mjU) (l0 : Nat) (l1 : Int32) (hp : mjH) : mjU := gI hp l0 12 61 (fun v1 => (if v1 = 0 then gI hp l0 12 76 (fun v2 => (if v2 ≤ 0 then some (none, hp) else (if l1 = 0 then rV hp l0 12 (bI (R 291 [.ref l0] hp) (fun v3 hp4 => k18 l0 v3 hp4)) else rV hp l0 12 (bI (R 289 [.ref l0] hp) (fun v5 hp6 => k18 l0 v5 hp6))))) else some (none, hp)))
theorem t_287_18 {X : mjX} {d C S kc ks : Nat} {R : mjR} (hR : mjC R d) (h1 : kc ≤ C) (h2 : ks ≤ S) {k18 : Nat → Int32 → mjH → mjU} (hk18 : P_287_18 X (d + 1) C S kc ks k18) : P_287_18 X (d + 1) C S kc ks (b_287_18 R k18) := by
  intro l0 l1 hp q h
  unfold b_287_18 at h
  refine mjr_aload_n (x := l0) D_287_18 rfl ?_
  refine mjq_gI D_287_19 fr_12_333 h (fun v1 h => ?_)
  refine mjq_if_ne (tgt := 52) D_287_22 rfl h (fun h => ?_) (fun h => ?_)
  · exact mjq_nret D_287_52 rfl h1 h2 h
  · refine mjr_aload_n (x := l0) D_287_25 rfl ?_
    refine mjq_gI D_287_26 fr_12_443 h (fun v2 h => ?_)
    refine mjq_if_le (tgt := 52) D_287_29 rfl h (fun h => ?_) (fun h => ?_)
    · exact mjq_nret D_287_52 rfl h1 h2 h
    · refine mjr_iload_n (x := l1) D_287_32 rfl ?_
      refine mjq_if_eq (tgt := 44) D_287_33 rfl h (fun h => ?_) (fun h => ?_)
      · refine mjr_aload_n (x := l0) D_287_44 rfl ?_
        refine mjq_vI (As := []) (rest := []) D_287_45 mr_12_451 V_291 rfl rfl rfl hR (Nat.le_refl _) h1 h2 h (fun v3 hp4 h => ?_)
        refine mjq_istore_n (lo' := [some (.ref l0), some (.int v3)]) D_287_48 (Nat.le_of_ble_eq_true rfl) rfl ?_
        refine mjr_goto (tgt := 18) D_287_49 rfl ?_
        exact hk18 _ _ _ _ h
      · refine mjr_aload_n (x := l0) D_287_36 rfl ?_
        refine mjq_vI (As := []) (rest := []) D_287_37 mr_12_448 V_289 rfl rfl rfl hR (Nat.le_refl _) h1 h2 h (fun v5 hp6 h => ?_)
        refine mjq_istore_n (lo' := [some (.ref l0), some (.int v5)]) D_287_40 (Nat.le_of_ble_eq_true rfl) rfl ?_
        refine mjr_goto (tgt := 18) D_287_41 rfl ?_
        exact hk18 _ _ _ _ h
noncomputable def L_287_18 (R : mjR) (n : Nat) : Nat → Int32 → mjH → mjU := Nat.rec (motive := fun _ => Nat → Int32 → mjH → mjU) (fun _ _ _ => none) (fun _ self => b_287_18 R self) n
theorem T_287_18 {X : mjX} {d C S kc ks : Nat} {R : mjR} (hR : mjC R d) (h1 : kc ≤ C) (h2 : ks ≤ S) (n : Nat) : P_287_18 X (d + 1) C S kc ks (L_287_18 R n) := by
  induction n with
  | zero => intro _ _ _ _ h; exact mj_no h
  | succ n ih => exact t_287_18 hR h1 h2 ih
noncomputable def b_287_0 (R : mjR) (l0 : Nat) (hp : mjH) : mjU := pI hp l0 12 76 (0 : Int32) (fun hp1 => gI hp1 l0 12 4 (fun v2 => rV hp1 l0 12 (bN (R 288 [.ref l0, .int (0 : Int32), .int (0 : Int32), .int v2, .int (0 : Int32)] hp1) (fun  hp3 => L_287_18 R mjN l0 (1 : Int32) hp3))))
theorem t_287_0 {X : mjX} {d C S kc ks : Nat} {R : mjR} (hR : mjC R d) (h1 : kc ≤ C) (h2 : ks ≤ S) : P_287_0 X (d + 1) C S kc ks (b_287_0 R) := by
  intro l0 hp q h
  unfold b_287_0 at h
  refine mjr_aload_n (x := l0) D_287_0 rfl ?_
  refine mjq_ic (v := (0 : Int32)) D_287_1 rfl ?_
  refine mjq_pI D_287_2 fr_12_443 rfl rfl h (fun hp1 h => ?_)
  refine mjr_aload_n (x := l0) D_287_5 rfl ?_
  refine mjq_ic (v := (0 : Int32)) D_287_6 rfl ?_
  refine mjq_ic (v := (0 : Int32)) D_287_7 rfl ?_
  refine mjr_aload_n (x := l0) D_287_8 rfl ?_
  refine mjq_gI D_287_9 fr_12_310 h (fun v2 h => ?_)
  refine mjq_ic (v := (0 : Int32)) D_287_12 rfl ?_
  refine mjq_vN (As := [.int (0 : Int32), .int (0 : Int32), .int v2, .int (0 : Int32)]) (rest := []) D_287_13 mr_12_446 V_288 rfl rfl rfl hR (Nat.le_refl _) h1 h2 h (fun  hp3 h => ?_)
  refine mjq_ic (v := (1 : Int32)) D_287_16 rfl ?_
  refine mjq_istore_n (lo' := [some (.ref l0), some (.int (1 : Int32))]) D_287_17 (Nat.le_of_ble_eq_true rfl) rfl ?_
  exact (T_287_18 hR h1 h2 mjN) _ _ _ _ h
noncomputable def f_287 (R : mjR) (a0 : Nat) (hp : mjH) : mjU := b_287_0 R a0 hp
theorem c_287 {R : mjR} {d : Nat} (hR : mjC R d) {a0 : Nat} {hp : mjH} {q : Option Value × mjH} (h : f_287 R a0 hp = some q) : mjM (d + 1) 0 0 287 [.ref a0] hp (mjEq q) :=
  mjM_of Ja_287 (Nat.le_of_ble_eq_true rfl) (mjG.fg (lo' := [some (.ref a0), none]) (And.intro rfl True.intro) ((t_287_0 hR (Nat.le_refl 0) (Nat.le_refl 0)) a0 hp q h))
def J_288 : mjI := (⟨"OwnerHeapModel", "waits", "(IIII)V"⟩, 12, prog_14_method_32_code, 5, none, 4, false)
theorem Ja_288 : mjMt 288 = some J_288 := by rfl
theorem D_288_0 : decode J_288.2.2.1 0 = .ok (.aload_n 0, 1) := dzq_42 (by decide +kernel)
theorem D_288_1 : decode J_288.2.2.1 1 = .ok (.getfield 179, 3) := dzq_180 (by decide +kernel)
theorem D_288_4 : decode J_288.2.2.1 4 = .ok (.aload_n 0, 1) := dzq_42 (by decide +kernel)
theorem D_288_5 : decode J_288.2.2.1 5 = .ok (.getfield 443, 3) := dzq_180 (by decide +kernel)
theorem D_288_8 : decode J_288.2.2.1 8 = .ok (.iload_n 1, 1) := dzq_27 (by decide +kernel)
theorem D_288_9 : decode J_288.2.2.1 9 = .ok (.iastore, 1) := dzq_79 (by decide +kernel)
theorem D_288_10 : decode J_288.2.2.1 10 = .ok (.aload_n 0, 1) := dzq_42 (by decide +kernel)
theorem D_288_11 : decode J_288.2.2.1 11 = .ok (.getfield 182, 3) := dzq_180 (by decide +kernel)
theorem D_288_14 : decode J_288.2.2.1 14 = .ok (.aload_n 0, 1) := dzq_42 (by decide +kernel)
theorem D_288_15 : decode J_288.2.2.1 15 = .ok (.getfield 443, 3) := dzq_180 (by decide +kernel)
theorem D_288_18 : decode J_288.2.2.1 18 = .ok (.iload_n 2, 1) := dzq_28 (by decide +kernel)
theorem D_288_19 : decode J_288.2.2.1 19 = .ok (.iastore, 1) := dzq_79 (by decide +kernel)
theorem D_288_20 : decode J_288.2.2.1 20 = .ok (.aload_n 0, 1) := dzq_42 (by decide +kernel)
theorem D_288_21 : decode J_288.2.2.1 21 = .ok (.getfield 185, 3) := dzq_180 (by decide +kernel)
theorem D_288_24 : decode J_288.2.2.1 24 = .ok (.aload_n 0, 1) := dzq_42 (by decide +kernel)
theorem D_288_25 : decode J_288.2.2.1 25 = .ok (.getfield 443, 3) := dzq_180 (by decide +kernel)
theorem D_288_28 : decode J_288.2.2.1 28 = .ok (.iload_n 3, 1) := dzq_29 (by decide +kernel)
theorem D_288_29 : decode J_288.2.2.1 29 = .ok (.iastore, 1) := dzq_79 (by decide +kernel)
theorem D_288_30 : decode J_288.2.2.1 30 = .ok (.aload_n 0, 1) := dzq_42 (by decide +kernel)
theorem D_288_31 : decode J_288.2.2.1 31 = .ok (.getfield 188, 3) := dzq_180 (by decide +kernel)
theorem D_288_34 : decode J_288.2.2.1 34 = .ok (.aload_n 0, 1) := dzq_42 (by decide +kernel)
theorem D_288_35 : decode J_288.2.2.1 35 = .ok (.getfield 443, 3) := dzq_180 (by decide +kernel)
theorem D_288_38 : decode J_288.2.2.1 38 = .ok (.iload 4, 2) := dzq_21 (by decide +kernel)
theorem D_288_40 : decode J_288.2.2.1 40 = .ok (.iastore, 1) := dzq_79 (by decide +kernel)
theorem D_288_41 : decode J_288.2.2.1 41 = .ok (.aload_n 0, 1) := dzq_42 (by decide +kernel)
theorem D_288_42 : decode J_288.2.2.1 42 = .ok (.dup, 1) := dzq_89 (by decide +kernel)
theorem D_288_43 : decode J_288.2.2.1 43 = .ok (.getfield 443, 3) := dzq_180 (by decide +kernel)
theorem D_288_46 : decode J_288.2.2.1 46 = .ok (.iconst 1, 1) := dzq_4 (by decide +kernel)
theorem D_288_47 : decode J_288.2.2.1 47 = .ok (.iadd, 1) := dzq_96 (by decide +kernel)
theorem D_288_48 : decode J_288.2.2.1 48 = .ok (.putfield 443, 3) := dzq_181 (by decide +kernel)
theorem D_288_51 : decode J_288.2.2.1 51 = .ok (.return_, 1) := dzq_177 (by decide +kernel)
def P_288_0 (X : mjX) (d C S kc ks : Nat) (k : Nat → Int32 → Int32 → Int32 → Int32 → mjH → mjU) : Prop := ∀ (l0 : Nat) (l1 : Int32) (l2 : Int32) (l3 : Int32) (l4 : Int32) (hp : mjH) (q : Option Value × mjH), k l0 l1 l2 l3 l4 hp = some q → mjG X d C S J_288 (mjEq q) 0 [some (.ref l0), some (.int l1), some (.int l2), some (.int l3), some (.int l4)] [] hp kc ks
noncomputable def b_288_0 (R : mjR) (l0 : Nat) (l1 : Int32) (l2 : Int32) (l3 : Int32) (l4 : Int32) (hp : mjH) : mjU := gR hp l0 12 72 (fun v1 => gI hp l0 12 76 (fun v2 => sI hp v1 v2 l1 (fun hp3 => gR hp3 l0 12 73 (fun v4 => gI hp3 l0 12 76 (fun v5 => sI hp3 v4 v5 l2 (fun hp6 => gR hp6 l0 12 74 (fun v7 => gI hp6 l0 12 76 (fun v8 => sI hp6 v7 v8 l3 (fun hp9 => gR hp9 l0 12 75 (fun v10 => gI hp9 l0 12 76 (fun v11 => sI hp9 v10 v11 l4 (fun hp12 => gI hp12 l0 12 76 (fun v13 => pI hp12 l0 12 76 (v13 + (1 : Int32)) (fun hp14 => some (none, hp14)))))))))))))))
theorem t_288_0 {X : mjX} {d C S kc ks : Nat} {R : mjR} (hR : mjC R d) (h1 : kc ≤ C) (h2 : ks ≤ S) : P_288_0 X (d + 1) C S kc ks (b_288_0 R) := by
  intro l0 l1 l2 l3 l4 hp q h
  unfold b_288_0 at h
  refine mjr_aload_n (x := l0) D_288_0 rfl ?_
  refine mjq_gR D_288_1 fr_12_179 h (fun v1 h => ?_)
  refine mjr_aload_n (x := l0) D_288_4 rfl ?_
  refine mjq_gI D_288_5 fr_12_443 h (fun v2 h => ?_)
  refine mjr_iload_n (x := l1) D_288_8 rfl ?_
  refine mjq_sI D_288_9 h (fun hp3 h => ?_)
  refine mjr_aload_n (x := l0) D_288_10 rfl ?_
  refine mjq_gR D_288_11 fr_12_182 h (fun v4 h => ?_)
  refine mjr_aload_n (x := l0) D_288_14 rfl ?_
  refine mjq_gI D_288_15 fr_12_443 h (fun v5 h => ?_)
  refine mjr_iload_n (x := l2) D_288_18 rfl ?_
  refine mjq_sI D_288_19 h (fun hp6 h => ?_)
  refine mjr_aload_n (x := l0) D_288_20 rfl ?_
  refine mjq_gR D_288_21 fr_12_185 h (fun v7 h => ?_)
  refine mjr_aload_n (x := l0) D_288_24 rfl ?_
  refine mjq_gI D_288_25 fr_12_443 h (fun v8 h => ?_)
  refine mjr_iload_n (x := l3) D_288_28 rfl ?_
  refine mjq_sI D_288_29 h (fun hp9 h => ?_)
  refine mjr_aload_n (x := l0) D_288_30 rfl ?_
  refine mjq_gR D_288_31 fr_12_188 h (fun v10 h => ?_)
  refine mjr_aload_n (x := l0) D_288_34 rfl ?_
  refine mjq_gI D_288_35 fr_12_443 h (fun v11 h => ?_)
  refine mjr_iload (x := l4) D_288_38 rfl ?_
  refine mjq_sI D_288_40 h (fun hp12 h => ?_)
  refine mjr_aload_n (x := l0) D_288_41 rfl ?_
  refine mjr_dup D_288_42 rfl ?_
  refine mjq_gI D_288_43 fr_12_443 h (fun v13 h => ?_)
  refine mjq_ic (v := (1 : Int32)) D_288_46 rfl ?_
  refine mjr_iadd D_288_47 ?_
  refine mjq_pI D_288_48 fr_12_443 rfl rfl h (fun hp14 h => ?_)
  exact mjq_nret D_288_51 rfl h1 h2 h
noncomputable def f_288 (R : mjR) (a0 : Nat) (a1 : Int32) (a2 : Int32) (a3 : Int32) (a4 : Int32) (hp : mjH) : mjU := b_288_0 R a0 a1 a2 a3 a4 hp
theorem c_288 {R : mjR} {d : Nat} (hR : mjC R d) {a0 : Nat} {a1 : Int32} {a2 : Int32} {a3 : Int32} {a4 : Int32} {hp : mjH} {q : Option Value × mjH} (h : f_288 R a0 a1 a2 a3 a4 hp = some q) : mjM (d + 1) 0 0 288 [.ref a0, .int a1, .int a2, .int a3, .int a4] hp (mjEq q) :=
  mjM_of Ja_288 (Nat.le_of_ble_eq_true rfl) (mjG.fg (lo' := [some (.ref a0), some (.int a1), some (.int a2), some (.int a3), some (.int a4)]) (And.intro rfl (And.intro rfl (And.intro rfl (And.intro rfl (And.intro rfl True.intro))))) ((t_288_0 hR (Nat.le_refl 0) (Nat.le_refl 0)) a0 a1 a2 a3 a4 hp q h))
def J_289 : mjI := (⟨"OwnerHeapModel", "readAtom", "()Z"⟩, 12, prog_14_method_35_code, 3, (some .boolean), 0, false)
theorem Ja_289 : mjMt 289 = some J_289 := by rfl
theorem D_289_0 : decode J_289.2.2.1 0 = .ok (.aload_n 0, 1) := dzq_42 (by decide +kernel)
theorem D_289_1 : decode J_289.2.2.1 1 = .ok (.invokevirtual 454, 3) := dzq_182 (by decide +kernel)
theorem D_289_4 : decode J_289.2.2.1 4 = .ok (.ifCond .ne 9, 3) := dzq_154 (by decide +kernel)
theorem D_289_7 : decode J_289.2.2.1 7 = .ok (.aload_n 0, 1) := dzq_42 (by decide +kernel)
theorem D_289_8 : decode J_289.2.2.1 8 = .ok (.invokevirtual 347, 3) := dzq_182 (by decide +kernel)
theorem D_289_11 : decode J_289.2.2.1 11 = .ok (.iconst 1, 1) := dzq_4 (by decide +kernel)
theorem D_289_12 : decode J_289.2.2.1 12 = .ok (.ireturn, 1) := dzq_172 (by decide +kernel)
theorem D_289_13 : decode J_289.2.2.1 13 = .ok (.aload_n 0, 1) := dzq_42 (by decide +kernel)
theorem D_289_14 : decode J_289.2.2.1 14 = .ok (.bipush 45, 2) := dzq_16 (by decide +kernel)
theorem D_289_16 : decode J_289.2.2.1 16 = .ok (.invokevirtual 343, 3) := dzq_182 (by decide +kernel)
theorem D_289_19 : decode J_289.2.2.1 19 = .ok (.ifCond .ne 12, 3) := dzq_154 (by decide +kernel)
theorem D_289_22 : decode J_289.2.2.1 22 = .ok (.aload_n 0, 1) := dzq_42 (by decide +kernel)
theorem D_289_23 : decode J_289.2.2.1 23 = .ok (.bipush 40, 2) := dzq_16 (by decide +kernel)
theorem D_289_25 : decode J_289.2.2.1 25 = .ok (.invokevirtual 343, 3) := dzq_182 (by decide +kernel)
theorem D_289_28 : decode J_289.2.2.1 28 = .ok (.ifCond .eq 46, 3) := dzq_153 (by decide +kernel)
theorem D_289_31 : decode J_289.2.2.1 31 = .ok (.aload_n 0, 1) := dzq_42 (by decide +kernel)
theorem D_289_32 : decode J_289.2.2.1 32 = .ok (.bipush 45, 2) := dzq_16 (by decide +kernel)
theorem D_289_34 : decode J_289.2.2.1 34 = .ok (.invokevirtual 343, 3) := dzq_182 (by decide +kernel)
theorem D_289_37 : decode J_289.2.2.1 37 = .ok (.istore_n 1, 1) := dzq_60 (by decide +kernel)
theorem D_289_38 : decode J_289.2.2.1 38 = .ok (.aload_n 0, 1) := dzq_42 (by decide +kernel)
theorem D_289_39 : decode J_289.2.2.1 39 = .ok (.iload_n 1, 1) := dzq_27 (by decide +kernel)
theorem D_289_40 : decode J_289.2.2.1 40 = .ok (.ifCond .eq 7, 3) := dzq_153 (by decide +kernel)
theorem D_289_43 : decode J_289.2.2.1 43 = .ok (.iconst 2, 1) := dzq_5 (by decide +kernel)
theorem D_289_44 : decode J_289.2.2.1 44 = .ok (.goto 4, 3) := dzq_167 (by decide +kernel)
theorem D_289_47 : decode J_289.2.2.1 47 = .ok (.iconst 1, 1) := dzq_4 (by decide +kernel)
theorem D_289_48 : decode J_289.2.2.1 48 = .ok (.iconst 0, 1) := dzq_3 (by decide +kernel)
theorem D_289_49 : decode J_289.2.2.1 49 = .ok (.aload_n 0, 1) := dzq_42 (by decide +kernel)
theorem D_289_50 : decode J_289.2.2.1 50 = .ok (.getfield 310, 3) := dzq_180 (by decide +kernel)
theorem D_289_53 : decode J_289.2.2.1 53 = .ok (.iconst 0, 1) := dzq_3 (by decide +kernel)
theorem D_289_54 : decode J_289.2.2.1 54 = .ok (.invokevirtual 446, 3) := dzq_182 (by decide +kernel)
theorem D_289_57 : decode J_289.2.2.1 57 = .ok (.aload_n 0, 1) := dzq_42 (by decide +kernel)
theorem D_289_58 : decode J_289.2.2.1 58 = .ok (.iload_n 1, 1) := dzq_27 (by decide +kernel)
theorem D_289_59 : decode J_289.2.2.1 59 = .ok (.ifCond .eq 8, 3) := dzq_153 (by decide +kernel)
theorem D_289_62 : decode J_289.2.2.1 62 = .ok (.bipush 45, 2) := dzq_16 (by decide +kernel)
theorem D_289_64 : decode J_289.2.2.1 64 = .ok (.goto 5, 3) := dzq_167 (by decide +kernel)
theorem D_289_67 : decode J_289.2.2.1 67 = .ok (.bipush 40, 2) := dzq_16 (by decide +kernel)
theorem D_289_69 : decode J_289.2.2.1 69 = .ok (.invokevirtual 391, 3) := dzq_182 (by decide +kernel)
theorem D_289_72 : decode J_289.2.2.1 72 = .ok (.iconst 1, 1) := dzq_4 (by decide +kernel)
theorem D_289_73 : decode J_289.2.2.1 73 = .ok (.ireturn, 1) := dzq_172 (by decide +kernel)
theorem D_289_74 : decode J_289.2.2.1 74 = .ok (.aload_n 0, 1) := dzq_42 (by decide +kernel)
theorem D_289_75 : decode J_289.2.2.1 75 = .ok (.iconst 0, 1) := dzq_3 (by decide +kernel)
theorem D_289_76 : decode J_289.2.2.1 76 = .ok (.putfield 440, 3) := dzq_181 (by decide +kernel)
theorem D_289_79 : decode J_289.2.2.1 79 = .ok (.aload_n 0, 1) := dzq_42 (by decide +kernel)
theorem D_289_80 : decode J_289.2.2.1 80 = .ok (.getfield 316, 3) := dzq_180 (by decide +kernel)
theorem D_289_83 : decode J_289.2.2.1 83 = .ok (.iconst 3, 1) := dzq_6 (by decide +kernel)
theorem D_289_84 : decode J_289.2.2.1 84 = .ok (.if_icmp .ne 24, 3) := dzq_160 (by decide +kernel)
theorem D_289_87 : decode J_289.2.2.1 87 = .ok (.aload_n 0, 1) := dzq_42 (by decide +kernel)
theorem D_289_88 : decode J_289.2.2.1 88 = .ok (.iconst 3, 1) := dzq_6 (by decide +kernel)
theorem D_289_89 : decode J_289.2.2.1 89 = .ok (.aload_n 0, 1) := dzq_42 (by decide +kernel)
theorem D_289_90 : decode J_289.2.2.1 90 = .ok (.getfield 310, 3) := dzq_180 (by decide +kernel)
theorem D_289_93 : decode J_289.2.2.1 93 = .ok (.aload_n 0, 1) := dzq_42 (by decide +kernel)
theorem D_289_94 : decode J_289.2.2.1 94 = .ok (.getfield 319, 3) := dzq_180 (by decide +kernel)
theorem D_289_97 : decode J_289.2.2.1 97 = .ok (.iconst 0, 1) := dzq_3 (by decide +kernel)
theorem D_289_98 : decode J_289.2.2.1 98 = .ok (.invokevirtual 359, 3) := dzq_182 (by decide +kernel)
theorem D_289_101 : decode J_289.2.2.1 101 = .ok (.aload_n 0, 1) := dzq_42 (by decide +kernel)
theorem D_289_102 : decode J_289.2.2.1 102 = .ok (.invokevirtual 350, 3) := dzq_182 (by decide +kernel)
theorem D_289_105 : decode J_289.2.2.1 105 = .ok (.goto 115, 3) := dzq_167 (by decide +kernel)
theorem D_289_108 : decode J_289.2.2.1 108 = .ok (.aload_n 0, 1) := dzq_42 (by decide +kernel)
theorem D_289_109 : decode J_289.2.2.1 109 = .ok (.getfield 316, 3) := dzq_180 (by decide +kernel)
theorem D_289_112 : decode J_289.2.2.1 112 = .ok (.iconst 2, 1) := dzq_5 (by decide +kernel)
theorem D_289_113 : decode J_289.2.2.1 113 = .ok (.if_icmp .ne 30, 3) := dzq_160 (by decide +kernel)
theorem D_289_116 : decode J_289.2.2.1 116 = .ok (.aload_n 0, 1) := dzq_42 (by decide +kernel)
theorem D_289_117 : decode J_289.2.2.1 117 = .ok (.iconst 1, 1) := dzq_4 (by decide +kernel)
theorem D_289_118 : decode J_289.2.2.1 118 = .ok (.putfield 440, 3) := dzq_181 (by decide +kernel)
theorem D_289_121 : decode J_289.2.2.1 121 = .ok (.aload_n 0, 1) := dzq_42 (by decide +kernel)
theorem D_289_122 : decode J_289.2.2.1 122 = .ok (.bipush 6, 2) := dzq_16 (by decide +kernel)
theorem D_289_124 : decode J_289.2.2.1 124 = .ok (.aload_n 0, 1) := dzq_42 (by decide +kernel)
theorem D_289_125 : decode J_289.2.2.1 125 = .ok (.getfield 310, 3) := dzq_180 (by decide +kernel)
theorem D_289_128 : decode J_289.2.2.1 128 = .ok (.aload_n 0, 1) := dzq_42 (by decide +kernel)
theorem D_289_129 : decode J_289.2.2.1 129 = .ok (.getfield 322, 3) := dzq_180 (by decide +kernel)
theorem D_289_132 : decode J_289.2.2.1 132 = .ok (.iconst 0, 1) := dzq_3 (by decide +kernel)
theorem D_289_133 : decode J_289.2.2.1 133 = .ok (.invokevirtual 436, 3) := dzq_182 (by decide +kernel)
theorem D_289_136 : decode J_289.2.2.1 136 = .ok (.aload_n 0, 1) := dzq_42 (by decide +kernel)
theorem D_289_137 : decode J_289.2.2.1 137 = .ok (.invokevirtual 350, 3) := dzq_182 (by decide +kernel)
theorem D_289_140 : decode J_289.2.2.1 140 = .ok (.goto 80, 3) := dzq_167 (by decide +kernel)
theorem D_289_143 : decode J_289.2.2.1 143 = .ok (.aload_n 0, 1) := dzq_42 (by decide +kernel)
theorem D_289_144 : decode J_289.2.2.1 144 = .ok (.bipush 7, 2) := dzq_16 (by decide +kernel)
theorem D_289_146 : decode J_289.2.2.1 146 = .ok (.invokevirtual 363, 3) := dzq_182 (by decide +kernel)
theorem D_289_149 : decode J_289.2.2.1 149 = .ok (.ifCond .eq 21, 3) := dzq_153 (by decide +kernel)
theorem D_289_152 : decode J_289.2.2.1 152 = .ok (.aload_n 0, 1) := dzq_42 (by decide +kernel)
theorem D_289_153 : decode J_289.2.2.1 153 = .ok (.iconst 4, 1) := dzq_7 (by decide +kernel)
theorem D_289_154 : decode J_289.2.2.1 154 = .ok (.aload_n 0, 1) := dzq_42 (by decide +kernel)
theorem D_289_155 : decode J_289.2.2.1 155 = .ok (.getfield 310, 3) := dzq_180 (by decide +kernel)
theorem D_289_158 : decode J_289.2.2.1 158 = .ok (.iconst 0, 1) := dzq_3 (by decide +kernel)
theorem D_289_159 : decode J_289.2.2.1 159 = .ok (.iconst 0, 1) := dzq_3 (by decide +kernel)
theorem D_289_160 : decode J_289.2.2.1 160 = .ok (.invokevirtual 359, 3) := dzq_182 (by decide +kernel)
theorem D_289_163 : decode J_289.2.2.1 163 = .ok (.aload_n 0, 1) := dzq_42 (by decide +kernel)
theorem D_289_164 : decode J_289.2.2.1 164 = .ok (.invokevirtual 350, 3) := dzq_182 (by decide +kernel)
theorem D_289_167 : decode J_289.2.2.1 167 = .ok (.goto 53, 3) := dzq_167 (by decide +kernel)
theorem D_289_170 : decode J_289.2.2.1 170 = .ok (.aload_n 0, 1) := dzq_42 (by decide +kernel)
theorem D_289_171 : decode J_289.2.2.1 171 = .ok (.bipush 8, 2) := dzq_16 (by decide +kernel)
theorem D_289_173 : decode J_289.2.2.1 173 = .ok (.invokevirtual 363, 3) := dzq_182 (by decide +kernel)
theorem D_289_176 : decode J_289.2.2.1 176 = .ok (.ifCond .eq 21, 3) := dzq_153 (by decide +kernel)
theorem D_289_179 : decode J_289.2.2.1 179 = .ok (.aload_n 0, 1) := dzq_42 (by decide +kernel)
theorem D_289_180 : decode J_289.2.2.1 180 = .ok (.iconst 5, 1) := dzq_8 (by decide +kernel)
theorem D_289_181 : decode J_289.2.2.1 181 = .ok (.aload_n 0, 1) := dzq_42 (by decide +kernel)
theorem D_289_182 : decode J_289.2.2.1 182 = .ok (.getfield 310, 3) := dzq_180 (by decide +kernel)
theorem D_289_185 : decode J_289.2.2.1 185 = .ok (.iconst 0, 1) := dzq_3 (by decide +kernel)
theorem D_289_186 : decode J_289.2.2.1 186 = .ok (.iconst 0, 1) := dzq_3 (by decide +kernel)
theorem D_289_187 : decode J_289.2.2.1 187 = .ok (.invokevirtual 359, 3) := dzq_182 (by decide +kernel)
theorem D_289_190 : decode J_289.2.2.1 190 = .ok (.aload_n 0, 1) := dzq_42 (by decide +kernel)
theorem D_289_191 : decode J_289.2.2.1 191 = .ok (.invokevirtual 350, 3) := dzq_182 (by decide +kernel)
theorem D_289_194 : decode J_289.2.2.1 194 = .ok (.goto 26, 3) := dzq_167 (by decide +kernel)
theorem D_289_197 : decode J_289.2.2.1 197 = .ok (.aload_n 0, 1) := dzq_42 (by decide +kernel)
theorem D_289_198 : decode J_289.2.2.1 198 = .ok (.getfield 310, 3) := dzq_180 (by decide +kernel)
theorem D_289_201 : decode J_289.2.2.1 201 = .ok (.istore_n 1, 1) := dzq_60 (by decide +kernel)
theorem D_289_202 : decode J_289.2.2.1 202 = .ok (.aload_n 0, 1) := dzq_42 (by decide +kernel)
theorem D_289_203 : decode J_289.2.2.1 203 = .ok (.invokevirtual 350, 3) := dzq_182 (by decide +kernel)
theorem D_289_206 : decode J_289.2.2.1 206 = .ok (.aload_n 0, 1) := dzq_42 (by decide +kernel)
theorem D_289_207 : decode J_289.2.2.1 207 = .ok (.invokevirtual 384, 3) := dzq_182 (by decide +kernel)
theorem D_289_210 : decode J_289.2.2.1 210 = .ok (.istore_n 2, 1) := dzq_61 (by decide +kernel)
theorem D_289_211 : decode J_289.2.2.1 211 = .ok (.aload_n 0, 1) := dzq_42 (by decide +kernel)
theorem D_289_212 : decode J_289.2.2.1 212 = .ok (.bipush 7, 2) := dzq_16 (by decide +kernel)
theorem D_289_214 : decode J_289.2.2.1 214 = .ok (.iload_n 1, 1) := dzq_27 (by decide +kernel)
theorem D_289_215 : decode J_289.2.2.1 215 = .ok (.iload_n 2, 1) := dzq_28 (by decide +kernel)
theorem D_289_216 : decode J_289.2.2.1 216 = .ok (.iconst 0, 1) := dzq_3 (by decide +kernel)
theorem D_289_217 : decode J_289.2.2.1 217 = .ok (.invokevirtual 359, 3) := dzq_182 (by decide +kernel)
theorem D_289_220 : decode J_289.2.2.1 220 = .ok (.iconst 0, 1) := dzq_3 (by decide +kernel)
theorem D_289_221 : decode J_289.2.2.1 221 = .ok (.ireturn, 1) := dzq_172 (by decide +kernel)
def P_289_69 (X : mjX) (d C S kc ks : Nat) (k : Nat → Int32 → mjH → mjU) : Prop := ∀ (s0 : Nat) (s1 : Int32) (hp : mjH) (q : Option Value × mjH), k s0 s1 hp = some q → mjG X d C S J_289 (mjEq q) 69 [none, none, none] [.int s1, .ref s0] hp kc ks
def P_289_48 (X : mjX) (d C S kc ks : Nat) (k : Nat → Int32 → Nat → Int32 → mjH → mjU) : Prop := ∀ (l0 : Nat) (l1 : Int32) (s0 : Nat) (s1 : Int32) (hp : mjH) (q : Option Value × mjH), k l0 l1 s0 s1 hp = some q → mjG X d C S J_289 (mjEq q) 48 [some (.ref l0), some (.int l1), none] [.int s1, .ref s0] hp kc ks
def P_289_31 (X : mjX) (d C S kc ks : Nat) (k : Nat → mjH → mjU) : Prop := ∀ (l0 : Nat) (hp : mjH) (q : Option Value × mjH), k l0 hp = some q → mjG X d C S J_289 (mjEq q) 31 [some (.ref l0), none, none] [] hp kc ks
def P_289_220 (X : mjX) (d C S kc ks : Nat) (k : mjH → mjU) : Prop := ∀  (hp : mjH) (q : Option Value × mjH), k  hp = some q → mjG X d C S J_289 (mjEq q) 220 [none, none, none] [] hp kc ks
def P_289_0 (X : mjX) (d C S kc ks : Nat) (k : Nat → mjH → mjU) : Prop := ∀ (l0 : Nat) (hp : mjH) (q : Option Value × mjH), k l0 hp = some q → mjG X d C S J_289 (mjEq q) 0 [some (.ref l0), none, none] [] hp kc ks
noncomputable def b_289_69 (R : mjR) (s0 : Nat) (s1 : Int32) (hp : mjH) : mjU := rV hp s0 12 (bN (R 274 [.ref s0, .int s1] hp) (fun  hp1 => some (some (.int (1 : Int32)), hp1)))
theorem t_289_69 {X : mjX} {d C S kc ks : Nat} {R : mjR} (hR : mjC R d) (h1 : kc ≤ C) (h2 : ks ≤ S) : P_289_69 X (d + 1) C S kc ks (b_289_69 R) := by
  intro s0 s1 hp q h
  unfold b_289_69 at h
  refine mjq_vN (As := [.int s1]) (rest := []) D_289_69 mr_12_391 V_274 rfl rfl rfl hR (Nat.le_refl _) h1 h2 h (fun  hp1 h => ?_)
  refine mjq_ic (v := (1 : Int32)) D_289_72 rfl ?_
  exact mjr_ireturn D_289_73 rfl rfl h1 h2 (Option.some.inj h)
noncomputable def b_289_48 (R : mjR) (l0 : Nat) (l1 : Int32) (s0 : Nat) (s1 : Int32) (hp : mjH) : mjU := gI hp l0 12 4 (fun v1 => rV hp s0 12 (bN (R 288 [.ref s0, .int s1, .int (0 : Int32), .int v1, .int (0 : Int32)] hp) (fun  hp2 => (if l1 = 0 then b_289_69 R l0 (40 : Int32) hp2 else b_289_69 R l0 (45 : Int32) hp2))))
theorem t_289_48 {X : mjX} {d C S kc ks : Nat} {R : mjR} (hR : mjC R d) (h1 : kc ≤ C) (h2 : ks ≤ S) : P_289_48 X (d + 1) C S kc ks (b_289_48 R) := by
  intro l0 l1 s0 s1 hp q h
  unfold b_289_48 at h
  refine mjq_ic (v := (0 : Int32)) D_289_48 rfl ?_
  refine mjr_aload_n (x := l0) D_289_49 rfl ?_
  refine mjq_gI D_289_50 fr_12_310 h (fun v1 h => ?_)
  refine mjq_ic (v := (0 : Int32)) D_289_53 rfl ?_
  refine mjq_vN (As := [.int s1, .int (0 : Int32), .int v1, .int (0 : Int32)]) (rest := []) D_289_54 mr_12_446 V_288 rfl rfl rfl hR (Nat.le_refl _) h1 h2 h (fun  hp2 h => ?_)
  refine mjr_aload_n (x := l0) D_289_57 rfl ?_
  refine mjr_iload_n (x := l1) D_289_58 rfl ?_
  refine mjq_if_eq (tgt := 67) D_289_59 rfl h (fun h => ?_) (fun h => ?_)
  · refine mjq_bi (v := (40 : Int32)) D_289_67 rfl ?_
    exact mjG.fg (lo' := [none, none, none]) True.intro ((t_289_69 hR h1 h2) _ _ _ _ h)
  · refine mjq_bi (v := (45 : Int32)) D_289_62 rfl ?_
    refine mjr_goto (tgt := 69) D_289_64 rfl ?_
    exact mjG.fg (lo' := [none, none, none]) True.intro ((t_289_69 hR h1 h2) _ _ _ _ h)
noncomputable def b_289_31 (R : mjR) (l0 : Nat) (hp : mjH) : mjU := rV hp l0 12 (bI (R 271 [.ref l0, .int (45 : Int32)] hp) (fun v1 hp2 => (if v1 = 0 then b_289_48 R l0 v1 l0 (1 : Int32) hp2 else b_289_48 R l0 v1 l0 (2 : Int32) hp2)))
theorem t_289_31 {X : mjX} {d C S kc ks : Nat} {R : mjR} (hR : mjC R d) (h1 : kc ≤ C) (h2 : ks ≤ S) : P_289_31 X (d + 1) C S kc ks (b_289_31 R) := by
  intro l0 hp q h
  unfold b_289_31 at h
  refine mjr_aload_n (x := l0) D_289_31 rfl ?_
  refine mjq_bi (v := (45 : Int32)) D_289_32 rfl ?_
  refine mjq_vI (As := [.int (45 : Int32)]) (rest := []) D_289_34 mr_12_343 V_271 rfl rfl rfl hR (Nat.le_refl _) h1 h2 h (fun v1 hp2 h => ?_)
  refine mjq_istore_n (lo' := [some (.ref l0), some (.int v1), none]) D_289_37 (Nat.le_of_ble_eq_true rfl) rfl ?_
  refine mjr_aload_n (x := l0) D_289_38 rfl ?_
  refine mjr_iload_n (x := v1) D_289_39 rfl ?_
  refine mjq_if_eq (tgt := 47) D_289_40 rfl h (fun h => ?_) (fun h => ?_)
  · refine mjq_ic (v := (1 : Int32)) D_289_47 rfl ?_
    exact (t_289_48 hR h1 h2) _ _ _ _ _ _ h
  · refine mjq_ic (v := (2 : Int32)) D_289_43 rfl ?_
    refine mjr_goto (tgt := 48) D_289_44 rfl ?_
    exact (t_289_48 hR h1 h2) _ _ _ _ _ _ h
noncomputable def b_289_220 (R : mjR)  (hp : mjH) : mjU := some (some (.int (0 : Int32)), hp)
theorem t_289_220 {X : mjX} {d C S kc ks : Nat} {R : mjR} (hR : mjC R d) (h1 : kc ≤ C) (h2 : ks ≤ S) : P_289_220 X (d + 1) C S kc ks (b_289_220 R) := by
  intro  hp q h
  unfold b_289_220 at h
  refine mjq_ic (v := (0 : Int32)) D_289_220 rfl ?_
  exact mjr_ireturn D_289_221 rfl rfl h1 h2 (Option.some.inj h)
noncomputable def b_289_0 (R : mjR) (l0 : Nat) (hp : mjH) : mjU := rV hp l0 12 (bI (R 290 [.ref l0] hp) (fun v1 hp2 => (if v1 = 0 then rV hp2 l0 12 (bN (R 269 [.ref l0] hp2) (fun  hp34 => some (some (.int (1 : Int32)), hp34))) else rV hp2 l0 12 (bI (R 271 [.ref l0, .int (45 : Int32)] hp2) (fun v3 hp4 => (if v3 = 0 then rV hp4 l0 12 (bI (R 271 [.ref l0, .int (40 : Int32)] hp4) (fun v5 hp6 => (if v5 = 0 then pI hp6 l0 12 77 (0 : Int32) (fun hp7 => gI hp7 l0 12 3 (fun v8 => (if v8 = (3 : Int32) then gI hp7 l0 12 4 (fun v30 => gI hp7 l0 12 6 (fun v31 => rV hp7 l0 12 (bN (R 281 [.ref l0, .int (3 : Int32), .int v30, .int v31, .int (0 : Int32)] hp7) (fun  hp32 => rV hp32 l0 12 (bN (R 262 [.ref l0] hp32) (fun  hp33 => b_289_220 R hp33)))))) else gI hp7 l0 12 3 (fun v9 => (if v9 = (2 : Int32) then pI hp7 l0 12 77 (1 : Int32) (fun hp25 => gI hp25 l0 12 4 (fun v26 => gL hp25 l0 12 7 (fun v27 => rV hp25 l0 12 (bN (R 286 [.ref l0, .int (6 : Int32), .int v26, .long v27, .int (0 : Int32)] hp25) (fun  hp28 => rV hp28 l0 12 (bN (R 262 [.ref l0] hp28) (fun  hp29 => b_289_220 R hp29))))))) else rV hp7 l0 12 (bI (R 266 [.ref l0, .int (7 : Int32)] hp7) (fun v10 hp11 => (if v10 = 0 then rV hp11 l0 12 (bI (R 266 [.ref l0, .int (8 : Int32)] hp11) (fun v12 hp13 => (if v12 = 0 then gI hp13 l0 12 4 (fun v14 => rV hp13 l0 12 (bN (R 262 [.ref l0] hp13) (fun  hp15 => rV hp15 l0 12 (bI (R 272 [.ref l0] hp15) (fun v16 hp17 => rV hp17 l0 12 (bN (R 281 [.ref l0, .int (7 : Int32), .int v14, .int v16, .int (0 : Int32)] hp17) (fun  hp18 => b_289_220 R hp18))))))) else gI hp13 l0 12 4 (fun v19 => rV hp13 l0 12 (bN (R 281 [.ref l0, .int (5 : Int32), .int v19, .int (0 : Int32), .int (0 : Int32)] hp13) (fun  hp20 => rV hp20 l0 12 (bN (R 262 [.ref l0] hp20) (fun  hp21 => b_289_220 R hp21)))))))) else gI hp11 l0 12 4 (fun v22 => rV hp11 l0 12 (bN (R 281 [.ref l0, .int (4 : Int32), .int v22, .int (0 : Int32), .int (0 : Int32)] hp11) (fun  hp23 => rV hp23 l0 12 (bN (R 262 [.ref l0] hp23) (fun  hp24 => b_289_220 R hp24))))))))))))) else b_289_31 R l0 hp6))) else b_289_31 R l0 hp4))))))
theorem t_289_0 {X : mjX} {d C S kc ks : Nat} {R : mjR} (hR : mjC R d) (h1 : kc ≤ C) (h2 : ks ≤ S) : P_289_0 X (d + 1) C S kc ks (b_289_0 R) := by
  intro l0 hp q h
  unfold b_289_0 at h
  refine mjr_aload_n (x := l0) D_289_0 rfl ?_
  refine mjq_vI (As := []) (rest := []) D_289_1 mr_12_454 V_290 rfl rfl rfl hR (Nat.le_refl _) h1 h2 h (fun v1 hp2 h => ?_)
  refine mjq_if_ne (tgt := 13) D_289_4 rfl h (fun h => ?_) (fun h => ?_)
  · refine mjr_aload_n (x := l0) D_289_13 rfl ?_
    refine mjq_bi (v := (45 : Int32)) D_289_14 rfl ?_
    refine mjq_vI (As := [.int (45 : Int32)]) (rest := []) D_289_16 mr_12_343 V_271 rfl rfl rfl hR (Nat.le_refl _) h1 h2 h (fun v3 hp4 h => ?_)
    refine mjq_if_ne (tgt := 31) D_289_19 rfl h (fun h => ?_) (fun h => ?_)
    · exact (t_289_31 hR h1 h2) _ _ _ h
    · refine mjr_aload_n (x := l0) D_289_22 rfl ?_
      refine mjq_bi (v := (40 : Int32)) D_289_23 rfl ?_
      refine mjq_vI (As := [.int (40 : Int32)]) (rest := []) D_289_25 mr_12_343 V_271 rfl rfl rfl hR (Nat.le_refl _) h1 h2 h (fun v5 hp6 h => ?_)
      refine mjq_if_eq (tgt := 74) D_289_28 rfl h (fun h => ?_) (fun h => ?_)
      · refine mjr_aload_n (x := l0) D_289_74 rfl ?_
        refine mjq_ic (v := (0 : Int32)) D_289_75 rfl ?_
        refine mjq_pI D_289_76 fr_12_440 rfl rfl h (fun hp7 h => ?_)
        refine mjr_aload_n (x := l0) D_289_79 rfl ?_
        refine mjq_gI D_289_80 fr_12_316 h (fun v8 h => ?_)
        refine mjq_ic (v := (3 : Int32)) D_289_83 rfl ?_
        refine mjq_icmp_ne (tgt := 108) D_289_84 rfl h (fun h => ?_) (fun h => ?_)
        · refine mjr_aload_n (x := l0) D_289_108 rfl ?_
          refine mjq_gI D_289_109 fr_12_316 h (fun v9 h => ?_)
          refine mjq_ic (v := (2 : Int32)) D_289_112 rfl ?_
          refine mjq_icmp_ne (tgt := 143) D_289_113 rfl h (fun h => ?_) (fun h => ?_)
          · refine mjr_aload_n (x := l0) D_289_143 rfl ?_
            refine mjq_bi (v := (7 : Int32)) D_289_144 rfl ?_
            refine mjq_vI (As := [.int (7 : Int32)]) (rest := []) D_289_146 mr_12_363 V_266 rfl rfl rfl hR (Nat.le_refl _) h1 h2 h (fun v10 hp11 h => ?_)
            refine mjq_if_eq (tgt := 170) D_289_149 rfl h (fun h => ?_) (fun h => ?_)
            · refine mjr_aload_n (x := l0) D_289_170 rfl ?_
              refine mjq_bi (v := (8 : Int32)) D_289_171 rfl ?_
              refine mjq_vI (As := [.int (8 : Int32)]) (rest := []) D_289_173 mr_12_363 V_266 rfl rfl rfl hR (Nat.le_refl _) h1 h2 h (fun v12 hp13 h => ?_)
              refine mjq_if_eq (tgt := 197) D_289_176 rfl h (fun h => ?_) (fun h => ?_)
              · refine mjr_aload_n (x := l0) D_289_197 rfl ?_
                refine mjq_gI D_289_198 fr_12_310 h (fun v14 h => ?_)
                refine mjq_istore_n (lo' := [some (.ref l0), some (.int v14), none]) D_289_201 (Nat.le_of_ble_eq_true rfl) rfl ?_
                refine mjr_aload_n (x := l0) D_289_202 rfl ?_
                refine mjq_vN (As := []) (rest := []) D_289_203 mr_12_350 V_262 rfl rfl rfl hR (Nat.le_refl _) h1 h2 h (fun  hp15 h => ?_)
                refine mjr_aload_n (x := l0) D_289_206 rfl ?_
                refine mjq_vI (As := []) (rest := []) D_289_207 mr_12_384 V_272 rfl rfl rfl hR (Nat.le_refl _) h1 h2 h (fun v16 hp17 h => ?_)
                refine mjq_istore_n (lo' := [some (.ref l0), some (.int v14), some (.int v16)]) D_289_210 (Nat.le_of_ble_eq_true rfl) rfl ?_
                refine mjr_aload_n (x := l0) D_289_211 rfl ?_
                refine mjq_bi (v := (7 : Int32)) D_289_212 rfl ?_
                refine mjr_iload_n (x := v14) D_289_214 rfl ?_
                refine mjr_iload_n (x := v16) D_289_215 rfl ?_
                refine mjq_ic (v := (0 : Int32)) D_289_216 rfl ?_
                refine mjq_vN (As := [.int (7 : Int32), .int v14, .int v16, .int (0 : Int32)]) (rest := []) D_289_217 mr_12_359 V_281 rfl rfl rfl hR (Nat.le_refl _) h1 h2 h (fun  hp18 h => ?_)
                exact mjG.fg (lo' := [none, none, none]) True.intro ((t_289_220 hR h1 h2) _ _ h)
              · refine mjr_aload_n (x := l0) D_289_179 rfl ?_
                refine mjq_ic (v := (5 : Int32)) D_289_180 rfl ?_
                refine mjr_aload_n (x := l0) D_289_181 rfl ?_
                refine mjq_gI D_289_182 fr_12_310 h (fun v19 h => ?_)
                refine mjq_ic (v := (0 : Int32)) D_289_185 rfl ?_
                refine mjq_ic (v := (0 : Int32)) D_289_186 rfl ?_
                refine mjq_vN (As := [.int (5 : Int32), .int v19, .int (0 : Int32), .int (0 : Int32)]) (rest := []) D_289_187 mr_12_359 V_281 rfl rfl rfl hR (Nat.le_refl _) h1 h2 h (fun  hp20 h => ?_)
                refine mjr_aload_n (x := l0) D_289_190 rfl ?_
                refine mjq_vN (As := []) (rest := []) D_289_191 mr_12_350 V_262 rfl rfl rfl hR (Nat.le_refl _) h1 h2 h (fun  hp21 h => ?_)
                refine mjr_goto (tgt := 220) D_289_194 rfl ?_
                exact mjG.fg (lo' := [none, none, none]) True.intro ((t_289_220 hR h1 h2) _ _ h)
            · refine mjr_aload_n (x := l0) D_289_152 rfl ?_
              refine mjq_ic (v := (4 : Int32)) D_289_153 rfl ?_
              refine mjr_aload_n (x := l0) D_289_154 rfl ?_
              refine mjq_gI D_289_155 fr_12_310 h (fun v22 h => ?_)
              refine mjq_ic (v := (0 : Int32)) D_289_158 rfl ?_
              refine mjq_ic (v := (0 : Int32)) D_289_159 rfl ?_
              refine mjq_vN (As := [.int (4 : Int32), .int v22, .int (0 : Int32), .int (0 : Int32)]) (rest := []) D_289_160 mr_12_359 V_281 rfl rfl rfl hR (Nat.le_refl _) h1 h2 h (fun  hp23 h => ?_)
              refine mjr_aload_n (x := l0) D_289_163 rfl ?_
              refine mjq_vN (As := []) (rest := []) D_289_164 mr_12_350 V_262 rfl rfl rfl hR (Nat.le_refl _) h1 h2 h (fun  hp24 h => ?_)
              refine mjr_goto (tgt := 220) D_289_167 rfl ?_
              exact mjG.fg (lo' := [none, none, none]) True.intro ((t_289_220 hR h1 h2) _ _ h)
          · refine mjr_aload_n (x := l0) D_289_116 rfl ?_
            refine mjq_ic (v := (1 : Int32)) D_289_117 rfl ?_
            refine mjq_pI D_289_118 fr_12_440 rfl rfl h (fun hp25 h => ?_)
            refine mjr_aload_n (x := l0) D_289_121 rfl ?_
            refine mjq_bi (v := (6 : Int32)) D_289_122 rfl ?_
            refine mjr_aload_n (x := l0) D_289_124 rfl ?_
            refine mjq_gI D_289_125 fr_12_310 h (fun v26 h => ?_)
            refine mjr_aload_n (x := l0) D_289_128 rfl ?_
            refine mjq_gL D_289_129 fr_12_322 h (fun v27 h => ?_)
            refine mjq_ic (v := (0 : Int32)) D_289_132 rfl ?_
            refine mjq_vN (As := [.int (6 : Int32), .int v26, .long v27, .int (0 : Int32)]) (rest := []) D_289_133 mr_12_436 V_286 rfl rfl rfl hR (Nat.le_refl _) h1 h2 h (fun  hp28 h => ?_)
            refine mjr_aload_n (x := l0) D_289_136 rfl ?_
            refine mjq_vN (As := []) (rest := []) D_289_137 mr_12_350 V_262 rfl rfl rfl hR (Nat.le_refl _) h1 h2 h (fun  hp29 h => ?_)
            refine mjr_goto (tgt := 220) D_289_140 rfl ?_
            exact mjG.fg (lo' := [none, none, none]) True.intro ((t_289_220 hR h1 h2) _ _ h)
        · refine mjr_aload_n (x := l0) D_289_87 rfl ?_
          refine mjq_ic (v := (3 : Int32)) D_289_88 rfl ?_
          refine mjr_aload_n (x := l0) D_289_89 rfl ?_
          refine mjq_gI D_289_90 fr_12_310 h (fun v30 h => ?_)
          refine mjr_aload_n (x := l0) D_289_93 rfl ?_
          refine mjq_gI D_289_94 fr_12_319 h (fun v31 h => ?_)
          refine mjq_ic (v := (0 : Int32)) D_289_97 rfl ?_
          refine mjq_vN (As := [.int (3 : Int32), .int v30, .int v31, .int (0 : Int32)]) (rest := []) D_289_98 mr_12_359 V_281 rfl rfl rfl hR (Nat.le_refl _) h1 h2 h (fun  hp32 h => ?_)
          refine mjr_aload_n (x := l0) D_289_101 rfl ?_
          refine mjq_vN (As := []) (rest := []) D_289_102 mr_12_350 V_262 rfl rfl rfl hR (Nat.le_refl _) h1 h2 h (fun  hp33 h => ?_)
          refine mjr_goto (tgt := 220) D_289_105 rfl ?_
          exact mjG.fg (lo' := [none, none, none]) True.intro ((t_289_220 hR h1 h2) _ _ h)
      · exact (t_289_31 hR h1 h2) _ _ _ h
  · refine mjr_aload_n (x := l0) D_289_7 rfl ?_
    refine mjq_vN (As := []) (rest := []) D_289_8 mr_12_347 V_269 rfl rfl rfl hR (Nat.le_refl _) h1 h2 h (fun  hp34 h => ?_)
    refine mjq_ic (v := (1 : Int32)) D_289_11 rfl ?_
    exact mjr_ireturn D_289_12 rfl rfl h1 h2 (Option.some.inj h)
noncomputable def f_289 (R : mjR) (a0 : Nat) (hp : mjH) : mjU := b_289_0 R a0 hp
theorem c_289 {R : mjR} {d : Nat} (hR : mjC R d) {a0 : Nat} {hp : mjH} {q : Option Value × mjH} (h : f_289 R a0 hp = some q) : mjM (d + 1) 0 0 289 [.ref a0] hp (mjEq q) :=
  mjM_of Ja_289 (Nat.le_of_ble_eq_true rfl) (mjG.fg (lo' := [some (.ref a0), none, none]) (And.intro rfl True.intro) ((t_289_0 hR (Nat.le_refl 0) (Nat.le_refl 0)) a0 hp q h))
def J_290 : mjI := (⟨"OwnerHeapModel", "beginsE", "()Z"⟩, 12, prog_14_method_33_code, 1, (some .boolean), 0, false)
theorem Ja_290 : mjMt 290 = some J_290 := by rfl
theorem D_290_0 : decode J_290.2.2.1 0 = .ok (.aload_n 0, 1) := dzq_42 (by decide +kernel)
theorem D_290_1 : decode J_290.2.2.1 1 = .ok (.getfield 316, 3) := dzq_180 (by decide +kernel)
theorem D_290_4 : decode J_290.2.2.1 4 = .ok (.iconst 3, 1) := dzq_6 (by decide +kernel)
theorem D_290_5 : decode J_290.2.2.1 5 = .ok (.if_icmp .eq 56, 3) := dzq_159 (by decide +kernel)
theorem D_290_8 : decode J_290.2.2.1 8 = .ok (.aload_n 0, 1) := dzq_42 (by decide +kernel)
theorem D_290_9 : decode J_290.2.2.1 9 = .ok (.getfield 316, 3) := dzq_180 (by decide +kernel)
theorem D_290_12 : decode J_290.2.2.1 12 = .ok (.iconst 2, 1) := dzq_5 (by decide +kernel)
theorem D_290_13 : decode J_290.2.2.1 13 = .ok (.if_icmp .eq 48, 3) := dzq_159 (by decide +kernel)
theorem D_290_16 : decode J_290.2.2.1 16 = .ok (.aload_n 0, 1) := dzq_42 (by decide +kernel)
theorem D_290_17 : decode J_290.2.2.1 17 = .ok (.bipush 7, 2) := dzq_16 (by decide +kernel)
theorem D_290_19 : decode J_290.2.2.1 19 = .ok (.invokevirtual 363, 3) := dzq_182 (by decide +kernel)
theorem D_290_22 : decode J_290.2.2.1 22 = .ok (.ifCond .ne 39, 3) := dzq_154 (by decide +kernel)
theorem D_290_25 : decode J_290.2.2.1 25 = .ok (.aload_n 0, 1) := dzq_42 (by decide +kernel)
theorem D_290_26 : decode J_290.2.2.1 26 = .ok (.bipush 8, 2) := dzq_16 (by decide +kernel)
theorem D_290_28 : decode J_290.2.2.1 28 = .ok (.invokevirtual 363, 3) := dzq_182 (by decide +kernel)
theorem D_290_31 : decode J_290.2.2.1 31 = .ok (.ifCond .ne 30, 3) := dzq_154 (by decide +kernel)
theorem D_290_34 : decode J_290.2.2.1 34 = .ok (.aload_n 0, 1) := dzq_42 (by decide +kernel)
theorem D_290_35 : decode J_290.2.2.1 35 = .ok (.bipush 10, 2) := dzq_16 (by decide +kernel)
theorem D_290_37 : decode J_290.2.2.1 37 = .ok (.invokevirtual 363, 3) := dzq_182 (by decide +kernel)
theorem D_290_40 : decode J_290.2.2.1 40 = .ok (.ifCond .ne 21, 3) := dzq_154 (by decide +kernel)
theorem D_290_43 : decode J_290.2.2.1 43 = .ok (.aload_n 0, 1) := dzq_42 (by decide +kernel)
theorem D_290_44 : decode J_290.2.2.1 44 = .ok (.bipush 40, 2) := dzq_16 (by decide +kernel)
theorem D_290_46 : decode J_290.2.2.1 46 = .ok (.invokevirtual 343, 3) := dzq_182 (by decide +kernel)
theorem D_290_49 : decode J_290.2.2.1 49 = .ok (.ifCond .ne 12, 3) := dzq_154 (by decide +kernel)
theorem D_290_52 : decode J_290.2.2.1 52 = .ok (.aload_n 0, 1) := dzq_42 (by decide +kernel)
theorem D_290_53 : decode J_290.2.2.1 53 = .ok (.bipush 45, 2) := dzq_16 (by decide +kernel)
theorem D_290_55 : decode J_290.2.2.1 55 = .ok (.invokevirtual 343, 3) := dzq_182 (by decide +kernel)
theorem D_290_58 : decode J_290.2.2.1 58 = .ok (.ifCond .eq 7, 3) := dzq_153 (by decide +kernel)
theorem D_290_61 : decode J_290.2.2.1 61 = .ok (.iconst 1, 1) := dzq_4 (by decide +kernel)
theorem D_290_62 : decode J_290.2.2.1 62 = .ok (.goto 4, 3) := dzq_167 (by decide +kernel)
theorem D_290_65 : decode J_290.2.2.1 65 = .ok (.iconst 0, 1) := dzq_3 (by decide +kernel)
theorem D_290_66 : decode J_290.2.2.1 66 = .ok (.ireturn, 1) := dzq_172 (by decide +kernel)
def P_290_61 (X : mjX) (d C S kc ks : Nat) (k : mjH → mjU) : Prop := ∀  (hp : mjH) (q : Option Value × mjH), k  hp = some q → mjG X d C S J_290 (mjEq q) 61 [none] [] hp kc ks
def P_290_0 (X : mjX) (d C S kc ks : Nat) (k : Nat → mjH → mjU) : Prop := ∀ (l0 : Nat) (hp : mjH) (q : Option Value × mjH), k l0 hp = some q → mjG X d C S J_290 (mjEq q) 0 [some (.ref l0)] [] hp kc ks
noncomputable def b_290_61 (R : mjR)  (hp : mjH) : mjU := some (some (.int (1 : Int32)), hp)
theorem t_290_61 {X : mjX} {d C S kc ks : Nat} {R : mjR} (hR : mjC R d) (h1 : kc ≤ C) (h2 : ks ≤ S) : P_290_61 X (d + 1) C S kc ks (b_290_61 R) := by
  intro  hp q h
  unfold b_290_61 at h
  refine mjq_ic (v := (1 : Int32)) D_290_61 rfl ?_
  refine mjr_goto (tgt := 66) D_290_62 rfl ?_
  exact mjr_ireturn D_290_66 rfl rfl h1 h2 (Option.some.inj h)
noncomputable def b_290_0 (R : mjR) (l0 : Nat) (hp : mjH) : mjU := gI hp l0 12 3 (fun v1 => (if v1 = (3 : Int32) then b_290_61 R hp else gI hp l0 12 3 (fun v2 => (if v2 = (2 : Int32) then b_290_61 R hp else rV hp l0 12 (bI (R 266 [.ref l0, .int (7 : Int32)] hp) (fun v3 hp4 => (if v3 = 0 then rV hp4 l0 12 (bI (R 266 [.ref l0, .int (8 : Int32)] hp4) (fun v5 hp6 => (if v5 = 0 then rV hp6 l0 12 (bI (R 266 [.ref l0, .int (10 : Int32)] hp6) (fun v7 hp8 => (if v7 = 0 then rV hp8 l0 12 (bI (R 271 [.ref l0, .int (40 : Int32)] hp8) (fun v9 hp10 => (if v9 = 0 then rV hp10 l0 12 (bI (R 271 [.ref l0, .int (45 : Int32)] hp10) (fun v11 hp12 => (if v11 = 0 then some (some (.int (0 : Int32)), hp12) else b_290_61 R hp12))) else b_290_61 R hp10))) else b_290_61 R hp8))) else b_290_61 R hp6))) else b_290_61 R hp4)))))))
theorem t_290_0 {X : mjX} {d C S kc ks : Nat} {R : mjR} (hR : mjC R d) (h1 : kc ≤ C) (h2 : ks ≤ S) : P_290_0 X (d + 1) C S kc ks (b_290_0 R) := by
  intro l0 hp q h
  unfold b_290_0 at h
  refine mjr_aload_n (x := l0) D_290_0 rfl ?_
  refine mjq_gI D_290_1 fr_12_316 h (fun v1 h => ?_)
  refine mjq_ic (v := (3 : Int32)) D_290_4 rfl ?_
  refine mjq_icmp_eq (tgt := 61) D_290_5 rfl h (fun h => ?_) (fun h => ?_)
  · exact mjG.fg (lo' := [none]) True.intro ((t_290_61 hR h1 h2) _ _ h)
  · refine mjr_aload_n (x := l0) D_290_8 rfl ?_
    refine mjq_gI D_290_9 fr_12_316 h (fun v2 h => ?_)
    refine mjq_ic (v := (2 : Int32)) D_290_12 rfl ?_
    refine mjq_icmp_eq (tgt := 61) D_290_13 rfl h (fun h => ?_) (fun h => ?_)
    · exact mjG.fg (lo' := [none]) True.intro ((t_290_61 hR h1 h2) _ _ h)
    · refine mjr_aload_n (x := l0) D_290_16 rfl ?_
      refine mjq_bi (v := (7 : Int32)) D_290_17 rfl ?_
      refine mjq_vI (As := [.int (7 : Int32)]) (rest := []) D_290_19 mr_12_363 V_266 rfl rfl rfl hR (Nat.le_refl _) h1 h2 h (fun v3 hp4 h => ?_)
      refine mjq_if_ne (tgt := 61) D_290_22 rfl h (fun h => ?_) (fun h => ?_)
      · exact mjG.fg (lo' := [none]) True.intro ((t_290_61 hR h1 h2) _ _ h)
      · refine mjr_aload_n (x := l0) D_290_25 rfl ?_
        refine mjq_bi (v := (8 : Int32)) D_290_26 rfl ?_
        refine mjq_vI (As := [.int (8 : Int32)]) (rest := []) D_290_28 mr_12_363 V_266 rfl rfl rfl hR (Nat.le_refl _) h1 h2 h (fun v5 hp6 h => ?_)
        refine mjq_if_ne (tgt := 61) D_290_31 rfl h (fun h => ?_) (fun h => ?_)
        · exact mjG.fg (lo' := [none]) True.intro ((t_290_61 hR h1 h2) _ _ h)
        · refine mjr_aload_n (x := l0) D_290_34 rfl ?_
          refine mjq_bi (v := (10 : Int32)) D_290_35 rfl ?_
          refine mjq_vI (As := [.int (10 : Int32)]) (rest := []) D_290_37 mr_12_363 V_266 rfl rfl rfl hR (Nat.le_refl _) h1 h2 h (fun v7 hp8 h => ?_)
          refine mjq_if_ne (tgt := 61) D_290_40 rfl h (fun h => ?_) (fun h => ?_)
          · exact mjG.fg (lo' := [none]) True.intro ((t_290_61 hR h1 h2) _ _ h)
          · refine mjr_aload_n (x := l0) D_290_43 rfl ?_
            refine mjq_bi (v := (40 : Int32)) D_290_44 rfl ?_
            refine mjq_vI (As := [.int (40 : Int32)]) (rest := []) D_290_46 mr_12_343 V_271 rfl rfl rfl hR (Nat.le_refl _) h1 h2 h (fun v9 hp10 h => ?_)
            refine mjq_if_ne (tgt := 61) D_290_49 rfl h (fun h => ?_) (fun h => ?_)
            · exact mjG.fg (lo' := [none]) True.intro ((t_290_61 hR h1 h2) _ _ h)
            · refine mjr_aload_n (x := l0) D_290_52 rfl ?_
              refine mjq_bi (v := (45 : Int32)) D_290_53 rfl ?_
              refine mjq_vI (As := [.int (45 : Int32)]) (rest := []) D_290_55 mr_12_343 V_271 rfl rfl rfl hR (Nat.le_refl _) h1 h2 h (fun v11 hp12 h => ?_)
              refine mjq_if_eq (tgt := 65) D_290_58 rfl h (fun h => ?_) (fun h => ?_)
              · refine mjq_ic (v := (0 : Int32)) D_290_65 rfl ?_
                exact mjr_ireturn D_290_66 rfl rfl h1 h2 (Option.some.inj h)
              · exact mjG.fg (lo' := [none]) True.intro ((t_290_61 hR h1 h2) _ _ h)
noncomputable def f_290 (R : mjR) (a0 : Nat) (hp : mjH) : mjU := b_290_0 R a0 hp
theorem c_290 {R : mjR} {d : Nat} (hR : mjC R d) {a0 : Nat} {hp : mjH} {q : Option Value × mjH} (h : f_290 R a0 hp = some q) : mjM (d + 1) 0 0 290 [.ref a0] hp (mjEq q) :=
  mjM_of Ja_290 (Nat.le_of_ble_eq_true rfl) (mjG.fg (lo' := [some (.ref a0)]) (And.intro rfl True.intro) ((t_290_0 hR (Nat.le_refl 0) (Nat.le_refl 0)) a0 hp q h))
def J_291 : mjI := (⟨"OwnerHeapModel", "readBehind", "()Z"⟩, 12, prog_14_method_38_code, 3, (some .boolean), 0, false)
theorem Ja_291 : mjMt 291 = some J_291 := by rfl
theorem D_291_0 : decode J_291.2.2.1 0 = .ok (.aload_n 0, 1) := dzq_42 (by decide +kernel)
theorem D_291_1 : decode J_291.2.2.1 1 = .ok (.bipush 46, 2) := dzq_16 (by decide +kernel)
theorem D_291_3 : decode J_291.2.2.1 3 = .ok (.invokevirtual 343, 3) := dzq_182 (by decide +kernel)
theorem D_291_6 : decode J_291.2.2.1 6 = .ok (.ifCond .eq 8, 3) := dzq_153 (by decide +kernel)
theorem D_291_9 : decode J_291.2.2.1 9 = .ok (.aload_n 0, 1) := dzq_42 (by decide +kernel)
theorem D_291_10 : decode J_291.2.2.1 10 = .ok (.invokevirtual 457, 3) := dzq_182 (by decide +kernel)
theorem D_291_13 : decode J_291.2.2.1 13 = .ok (.ireturn, 1) := dzq_172 (by decide +kernel)
theorem D_291_14 : decode J_291.2.2.1 14 = .ok (.aload_n 0, 1) := dzq_42 (by decide +kernel)
theorem D_291_15 : decode J_291.2.2.1 15 = .ok (.bipush 16, 2) := dzq_16 (by decide +kernel)
theorem D_291_17 : decode J_291.2.2.1 17 = .ok (.invokevirtual 363, 3) := dzq_182 (by decide +kernel)
theorem D_291_20 : decode J_291.2.2.1 20 = .ok (.ifCond .eq 33, 3) := dzq_153 (by decide +kernel)
theorem D_291_23 : decode J_291.2.2.1 23 = .ok (.aload_n 0, 1) := dzq_42 (by decide +kernel)
theorem D_291_24 : decode J_291.2.2.1 24 = .ok (.getfield 310, 3) := dzq_180 (by decide +kernel)
theorem D_291_27 : decode J_291.2.2.1 27 = .ok (.istore_n 1, 1) := dzq_60 (by decide +kernel)
theorem D_291_28 : decode J_291.2.2.1 28 = .ok (.aload_n 0, 1) := dzq_42 (by decide +kernel)
theorem D_291_29 : decode J_291.2.2.1 29 = .ok (.invokevirtual 350, 3) := dzq_182 (by decide +kernel)
theorem D_291_32 : decode J_291.2.2.1 32 = .ok (.aload_n 0, 1) := dzq_42 (by decide +kernel)
theorem D_291_33 : decode J_291.2.2.1 33 = .ok (.invokevirtual 384, 3) := dzq_182 (by decide +kernel)
theorem D_291_36 : decode J_291.2.2.1 36 = .ok (.istore_n 2, 1) := dzq_61 (by decide +kernel)
theorem D_291_37 : decode J_291.2.2.1 37 = .ok (.aload_n 0, 1) := dzq_42 (by decide +kernel)
theorem D_291_38 : decode J_291.2.2.1 38 = .ok (.bipush 14, 2) := dzq_16 (by decide +kernel)
theorem D_291_40 : decode J_291.2.2.1 40 = .ok (.iload_n 1, 1) := dzq_27 (by decide +kernel)
theorem D_291_41 : decode J_291.2.2.1 41 = .ok (.iload_n 2, 1) := dzq_28 (by decide +kernel)
theorem D_291_42 : decode J_291.2.2.1 42 = .ok (.iconst 0, 1) := dzq_3 (by decide +kernel)
theorem D_291_43 : decode J_291.2.2.1 43 = .ok (.invokevirtual 359, 3) := dzq_182 (by decide +kernel)
theorem D_291_46 : decode J_291.2.2.1 46 = .ok (.aload_n 0, 1) := dzq_42 (by decide +kernel)
theorem D_291_47 : decode J_291.2.2.1 47 = .ok (.iconst 0, 1) := dzq_3 (by decide +kernel)
theorem D_291_48 : decode J_291.2.2.1 48 = .ok (.putfield 440, 3) := dzq_181 (by decide +kernel)
theorem D_291_51 : decode J_291.2.2.1 51 = .ok (.iconst 0, 1) := dzq_3 (by decide +kernel)
theorem D_291_52 : decode J_291.2.2.1 52 = .ok (.ireturn, 1) := dzq_172 (by decide +kernel)
theorem D_291_53 : decode J_291.2.2.1 53 = .ok (.aload_n 0, 1) := dzq_42 (by decide +kernel)
theorem D_291_54 : decode J_291.2.2.1 54 = .ok (.getfield 179, 3) := dzq_180 (by decide +kernel)
theorem D_291_57 : decode J_291.2.2.1 57 = .ok (.aload_n 0, 1) := dzq_42 (by decide +kernel)
theorem D_291_58 : decode J_291.2.2.1 58 = .ok (.getfield 443, 3) := dzq_180 (by decide +kernel)
theorem D_291_61 : decode J_291.2.2.1 61 = .ok (.iconst 1, 1) := dzq_4 (by decide +kernel)
theorem D_291_62 : decode J_291.2.2.1 62 = .ok (.isub, 1) := dzq_100 (by decide +kernel)
theorem D_291_63 : decode J_291.2.2.1 63 = .ok (.iaload, 1) := dzq_46 (by decide +kernel)
theorem D_291_64 : decode J_291.2.2.1 64 = .ok (.iconst 2, 1) := dzq_5 (by decide +kernel)
theorem D_291_65 : decode J_291.2.2.1 65 = .ok (.if_icmp .ne 48, 3) := dzq_160 (by decide +kernel)
theorem D_291_68 : decode J_291.2.2.1 68 = .ok (.aload_n 0, 1) := dzq_42 (by decide +kernel)
theorem D_291_69 : decode J_291.2.2.1 69 = .ok (.dup, 1) := dzq_89 (by decide +kernel)
theorem D_291_70 : decode J_291.2.2.1 70 = .ok (.getfield 443, 3) := dzq_180 (by decide +kernel)
theorem D_291_73 : decode J_291.2.2.1 73 = .ok (.iconst 1, 1) := dzq_4 (by decide +kernel)
theorem D_291_74 : decode J_291.2.2.1 74 = .ok (.isub, 1) := dzq_100 (by decide +kernel)
theorem D_291_75 : decode J_291.2.2.1 75 = .ok (.putfield 443, 3) := dzq_181 (by decide +kernel)
theorem D_291_78 : decode J_291.2.2.1 78 = .ok (.aload_n 0, 1) := dzq_42 (by decide +kernel)
theorem D_291_79 : decode J_291.2.2.1 79 = .ok (.dup, 1) := dzq_89 (by decide +kernel)
theorem D_291_80 : decode J_291.2.2.1 80 = .ok (.getfield 353, 3) := dzq_180 (by decide +kernel)
theorem D_291_83 : decode J_291.2.2.1 83 = .ok (.iconst 1, 1) := dzq_4 (by decide +kernel)
theorem D_291_84 : decode J_291.2.2.1 84 = .ok (.isub, 1) := dzq_100 (by decide +kernel)
theorem D_291_85 : decode J_291.2.2.1 85 = .ok (.putfield 353, 3) := dzq_181 (by decide +kernel)
theorem D_291_88 : decode J_291.2.2.1 88 = .ok (.aload_n 0, 1) := dzq_42 (by decide +kernel)
theorem D_291_89 : decode J_291.2.2.1 89 = .ok (.bipush 8, 2) := dzq_16 (by decide +kernel)
theorem D_291_91 : decode J_291.2.2.1 91 = .ok (.aload_n 0, 1) := dzq_42 (by decide +kernel)
theorem D_291_92 : decode J_291.2.2.1 92 = .ok (.getfield 185, 3) := dzq_180 (by decide +kernel)
theorem D_291_95 : decode J_291.2.2.1 95 = .ok (.aload_n 0, 1) := dzq_42 (by decide +kernel)
theorem D_291_96 : decode J_291.2.2.1 96 = .ok (.getfield 443, 3) := dzq_180 (by decide +kernel)
theorem D_291_99 : decode J_291.2.2.1 99 = .ok (.iaload, 1) := dzq_46 (by decide +kernel)
theorem D_291_100 : decode J_291.2.2.1 100 = .ok (.iconst 0, 1) := dzq_3 (by decide +kernel)
theorem D_291_101 : decode J_291.2.2.1 101 = .ok (.iconst 0, 1) := dzq_3 (by decide +kernel)
theorem D_291_102 : decode J_291.2.2.1 102 = .ok (.invokevirtual 359, 3) := dzq_182 (by decide +kernel)
theorem D_291_105 : decode J_291.2.2.1 105 = .ok (.aload_n 0, 1) := dzq_42 (by decide +kernel)
theorem D_291_106 : decode J_291.2.2.1 106 = .ok (.iconst 0, 1) := dzq_3 (by decide +kernel)
theorem D_291_107 : decode J_291.2.2.1 107 = .ok (.putfield 440, 3) := dzq_181 (by decide +kernel)
theorem D_291_110 : decode J_291.2.2.1 110 = .ok (.goto (-57), 3) := dzq_167 (by decide +kernel)
theorem D_291_113 : decode J_291.2.2.1 113 = .ok (.aload_n 0, 1) := dzq_42 (by decide +kernel)
theorem D_291_114 : decode J_291.2.2.1 114 = .ok (.invokevirtual 460, 3) := dzq_182 (by decide +kernel)
theorem D_291_117 : decode J_291.2.2.1 117 = .ok (.istore_n 1, 1) := dzq_60 (by decide +kernel)
theorem D_291_118 : decode J_291.2.2.1 118 = .ok (.aload_n 0, 1) := dzq_42 (by decide +kernel)
theorem D_291_119 : decode J_291.2.2.1 119 = .ok (.getfield 179, 3) := dzq_180 (by decide +kernel)
theorem D_291_122 : decode J_291.2.2.1 122 = .ok (.aload_n 0, 1) := dzq_42 (by decide +kernel)
theorem D_291_123 : decode J_291.2.2.1 123 = .ok (.getfield 443, 3) := dzq_180 (by decide +kernel)
theorem D_291_126 : decode J_291.2.2.1 126 = .ok (.iconst 1, 1) := dzq_4 (by decide +kernel)
theorem D_291_127 : decode J_291.2.2.1 127 = .ok (.isub, 1) := dzq_100 (by decide +kernel)
theorem D_291_128 : decode J_291.2.2.1 128 = .ok (.iaload, 1) := dzq_46 (by decide +kernel)
theorem D_291_129 : decode J_291.2.2.1 129 = .ok (.iconst 3, 1) := dzq_6 (by decide +kernel)
theorem D_291_130 : decode J_291.2.2.1 130 = .ok (.if_icmp .ne 91, 3) := dzq_160 (by decide +kernel)
theorem D_291_133 : decode J_291.2.2.1 133 = .ok (.aload_n 0, 1) := dzq_42 (by decide +kernel)
theorem D_291_134 : decode J_291.2.2.1 134 = .ok (.getfield 182, 3) := dzq_180 (by decide +kernel)
theorem D_291_137 : decode J_291.2.2.1 137 = .ok (.aload_n 0, 1) := dzq_42 (by decide +kernel)
theorem D_291_138 : decode J_291.2.2.1 138 = .ok (.getfield 443, 3) := dzq_180 (by decide +kernel)
theorem D_291_141 : decode J_291.2.2.1 141 = .ok (.iconst 1, 1) := dzq_4 (by decide +kernel)
theorem D_291_142 : decode J_291.2.2.1 142 = .ok (.isub, 1) := dzq_100 (by decide +kernel)
theorem D_291_143 : decode J_291.2.2.1 143 = .ok (.iaload, 1) := dzq_46 (by decide +kernel)
theorem D_291_144 : decode J_291.2.2.1 144 = .ok (.invokestatic 463, 3) := dzq_184 (by decide +kernel)
theorem D_291_147 : decode J_291.2.2.1 147 = .ok (.iload_n 1, 1) := dzq_27 (by decide +kernel)
theorem D_291_148 : decode J_291.2.2.1 148 = .ok (.iconst 1, 1) := dzq_4 (by decide +kernel)
theorem D_291_149 : decode J_291.2.2.1 149 = .ok (.invokestatic 466, 3) := dzq_184 (by decide +kernel)
theorem D_291_152 : decode J_291.2.2.1 152 = .ok (.if_icmp .lt 69, 3) := dzq_161 (by decide +kernel)
theorem D_291_155 : decode J_291.2.2.1 155 = .ok (.iload_n 1, 1) := dzq_27 (by decide +kernel)
theorem D_291_156 : decode J_291.2.2.1 156 = .ok (.iconst 1, 1) := dzq_4 (by decide +kernel)
theorem D_291_157 : decode J_291.2.2.1 157 = .ok (.if_icmp .ne 21, 3) := dzq_160 (by decide +kernel)
theorem D_291_160 : decode J_291.2.2.1 160 = .ok (.aload_n 0, 1) := dzq_42 (by decide +kernel)
theorem D_291_161 : decode J_291.2.2.1 161 = .ok (.getfield 182, 3) := dzq_180 (by decide +kernel)
theorem D_291_164 : decode J_291.2.2.1 164 = .ok (.aload_n 0, 1) := dzq_42 (by decide +kernel)
theorem D_291_165 : decode J_291.2.2.1 165 = .ok (.getfield 443, 3) := dzq_180 (by decide +kernel)
theorem D_291_168 : decode J_291.2.2.1 168 = .ok (.iconst 1, 1) := dzq_4 (by decide +kernel)
theorem D_291_169 : decode J_291.2.2.1 169 = .ok (.isub, 1) := dzq_100 (by decide +kernel)
theorem D_291_170 : decode J_291.2.2.1 170 = .ok (.iaload, 1) := dzq_46 (by decide +kernel)
theorem D_291_171 : decode J_291.2.2.1 171 = .ok (.invokestatic 463, 3) := dzq_184 (by decide +kernel)
theorem D_291_174 : decode J_291.2.2.1 174 = .ok (.iconst 1, 1) := dzq_4 (by decide +kernel)
theorem D_291_175 : decode J_291.2.2.1 175 = .ok (.if_icmp .eq 46, 3) := dzq_159 (by decide +kernel)
theorem D_291_178 : decode J_291.2.2.1 178 = .ok (.aload_n 0, 1) := dzq_42 (by decide +kernel)
theorem D_291_179 : decode J_291.2.2.1 179 = .ok (.dup, 1) := dzq_89 (by decide +kernel)
theorem D_291_180 : decode J_291.2.2.1 180 = .ok (.getfield 443, 3) := dzq_180 (by decide +kernel)
theorem D_291_183 : decode J_291.2.2.1 183 = .ok (.iconst 1, 1) := dzq_4 (by decide +kernel)
theorem D_291_184 : decode J_291.2.2.1 184 = .ok (.isub, 1) := dzq_100 (by decide +kernel)
theorem D_291_185 : decode J_291.2.2.1 185 = .ok (.putfield 443, 3) := dzq_181 (by decide +kernel)
theorem D_291_188 : decode J_291.2.2.1 188 = .ok (.aload_n 0, 1) := dzq_42 (by decide +kernel)
theorem D_291_189 : decode J_291.2.2.1 189 = .ok (.bipush 9, 2) := dzq_16 (by decide +kernel)
theorem D_291_191 : decode J_291.2.2.1 191 = .ok (.aload_n 0, 1) := dzq_42 (by decide +kernel)
theorem D_291_192 : decode J_291.2.2.1 192 = .ok (.getfield 185, 3) := dzq_180 (by decide +kernel)
theorem D_291_195 : decode J_291.2.2.1 195 = .ok (.aload_n 0, 1) := dzq_42 (by decide +kernel)
theorem D_291_196 : decode J_291.2.2.1 196 = .ok (.getfield 443, 3) := dzq_180 (by decide +kernel)
theorem D_291_199 : decode J_291.2.2.1 199 = .ok (.iaload, 1) := dzq_46 (by decide +kernel)
theorem D_291_200 : decode J_291.2.2.1 200 = .ok (.aload_n 0, 1) := dzq_42 (by decide +kernel)
theorem D_291_201 : decode J_291.2.2.1 201 = .ok (.getfield 182, 3) := dzq_180 (by decide +kernel)
theorem D_291_204 : decode J_291.2.2.1 204 = .ok (.aload_n 0, 1) := dzq_42 (by decide +kernel)
theorem D_291_205 : decode J_291.2.2.1 205 = .ok (.getfield 443, 3) := dzq_180 (by decide +kernel)
theorem D_291_208 : decode J_291.2.2.1 208 = .ok (.iaload, 1) := dzq_46 (by decide +kernel)
theorem D_291_209 : decode J_291.2.2.1 209 = .ok (.iconst 0, 1) := dzq_3 (by decide +kernel)
theorem D_291_210 : decode J_291.2.2.1 210 = .ok (.invokevirtual 359, 3) := dzq_182 (by decide +kernel)
theorem D_291_213 : decode J_291.2.2.1 213 = .ok (.aload_n 0, 1) := dzq_42 (by decide +kernel)
theorem D_291_214 : decode J_291.2.2.1 214 = .ok (.iconst 0, 1) := dzq_3 (by decide +kernel)
theorem D_291_215 : decode J_291.2.2.1 215 = .ok (.putfield 440, 3) := dzq_181 (by decide +kernel)
theorem D_291_218 : decode J_291.2.2.1 218 = .ok (.goto (-100), 3) := dzq_167 (by decide +kernel)
theorem D_291_221 : decode J_291.2.2.1 221 = .ok (.iload_n 1, 1) := dzq_27 (by decide +kernel)
theorem D_291_222 : decode J_291.2.2.1 222 = .ok (.ifCond .le 67, 3) := dzq_158 (by decide +kernel)
theorem D_291_225 : decode J_291.2.2.1 225 = .ok (.aload_n 0, 1) := dzq_42 (by decide +kernel)
theorem D_291_226 : decode J_291.2.2.1 226 = .ok (.getfield 179, 3) := dzq_180 (by decide +kernel)
theorem D_291_229 : decode J_291.2.2.1 229 = .ok (.aload_n 0, 1) := dzq_42 (by decide +kernel)
theorem D_291_230 : decode J_291.2.2.1 230 = .ok (.getfield 443, 3) := dzq_180 (by decide +kernel)
theorem D_291_233 : decode J_291.2.2.1 233 = .ok (.iconst 1, 1) := dzq_4 (by decide +kernel)
theorem D_291_234 : decode J_291.2.2.1 234 = .ok (.isub, 1) := dzq_100 (by decide +kernel)
theorem D_291_235 : decode J_291.2.2.1 235 = .ok (.iaload, 1) := dzq_46 (by decide +kernel)
theorem D_291_236 : decode J_291.2.2.1 236 = .ok (.iconst 3, 1) := dzq_6 (by decide +kernel)
theorem D_291_237 : decode J_291.2.2.1 237 = .ok (.if_icmp .ne 32, 3) := dzq_160 (by decide +kernel)
theorem D_291_240 : decode J_291.2.2.1 240 = .ok (.aload_n 0, 1) := dzq_42 (by decide +kernel)
theorem D_291_241 : decode J_291.2.2.1 241 = .ok (.getfield 182, 3) := dzq_180 (by decide +kernel)
theorem D_291_244 : decode J_291.2.2.1 244 = .ok (.aload_n 0, 1) := dzq_42 (by decide +kernel)
theorem D_291_245 : decode J_291.2.2.1 245 = .ok (.getfield 443, 3) := dzq_180 (by decide +kernel)
theorem D_291_248 : decode J_291.2.2.1 248 = .ok (.iconst 1, 1) := dzq_4 (by decide +kernel)
theorem D_291_249 : decode J_291.2.2.1 249 = .ok (.isub, 1) := dzq_100 (by decide +kernel)
theorem D_291_250 : decode J_291.2.2.1 250 = .ok (.iaload, 1) := dzq_46 (by decide +kernel)
theorem D_291_251 : decode J_291.2.2.1 251 = .ok (.invokestatic 463, 3) := dzq_184 (by decide +kernel)
theorem D_291_254 : decode J_291.2.2.1 254 = .ok (.iconst 1, 1) := dzq_4 (by decide +kernel)
theorem D_291_255 : decode J_291.2.2.1 255 = .ok (.if_icmp .ne 14, 3) := dzq_160 (by decide +kernel)
theorem D_291_258 : decode J_291.2.2.1 258 = .ok (.iload_n 1, 1) := dzq_27 (by decide +kernel)
theorem D_291_259 : decode J_291.2.2.1 259 = .ok (.iconst 1, 1) := dzq_4 (by decide +kernel)
theorem D_291_260 : decode J_291.2.2.1 260 = .ok (.if_icmp .ne 9, 3) := dzq_160 (by decide +kernel)
theorem D_291_263 : decode J_291.2.2.1 263 = .ok (.aload_n 0, 1) := dzq_42 (by decide +kernel)
theorem D_291_264 : decode J_291.2.2.1 264 = .ok (.invokevirtual 347, 3) := dzq_182 (by decide +kernel)
theorem D_291_267 : decode J_291.2.2.1 267 = .ok (.iconst 0, 1) := dzq_3 (by decide +kernel)
theorem D_291_268 : decode J_291.2.2.1 268 = .ok (.ireturn, 1) := dzq_172 (by decide +kernel)
theorem D_291_269 : decode J_291.2.2.1 269 = .ok (.aload_n 0, 1) := dzq_42 (by decide +kernel)
theorem D_291_270 : decode J_291.2.2.1 270 = .ok (.iconst 3, 1) := dzq_6 (by decide +kernel)
theorem D_291_271 : decode J_291.2.2.1 271 = .ok (.aload_n 0, 1) := dzq_42 (by decide +kernel)
theorem D_291_272 : decode J_291.2.2.1 272 = .ok (.getfield 319, 3) := dzq_180 (by decide +kernel)
theorem D_291_275 : decode J_291.2.2.1 275 = .ok (.aload_n 0, 1) := dzq_42 (by decide +kernel)
theorem D_291_276 : decode J_291.2.2.1 276 = .ok (.getfield 310, 3) := dzq_180 (by decide +kernel)
theorem D_291_279 : decode J_291.2.2.1 279 = .ok (.iconst 0, 1) := dzq_3 (by decide +kernel)
theorem D_291_280 : decode J_291.2.2.1 280 = .ok (.invokevirtual 446, 3) := dzq_182 (by decide +kernel)
theorem D_291_283 : decode J_291.2.2.1 283 = .ok (.aload_n 0, 1) := dzq_42 (by decide +kernel)
theorem D_291_284 : decode J_291.2.2.1 284 = .ok (.invokevirtual 350, 3) := dzq_182 (by decide +kernel)
theorem D_291_287 : decode J_291.2.2.1 287 = .ok (.iconst 1, 1) := dzq_4 (by decide +kernel)
theorem D_291_288 : decode J_291.2.2.1 288 = .ok (.ireturn, 1) := dzq_172 (by decide +kernel)
theorem D_291_289 : decode J_291.2.2.1 289 = .ok (.aload_n 0, 1) := dzq_42 (by decide +kernel)
theorem D_291_290 : decode J_291.2.2.1 290 = .ok (.invokevirtual 472, 3) := dzq_182 (by decide +kernel)
theorem D_291_293 : decode J_291.2.2.1 293 = .ok (.ireturn, 1) := dzq_172 (by decide +kernel)
def P_291_269 (X : mjX) (d C S kc ks : Nat) (k : Nat → mjH → mjU) : Prop := ∀ (l0 : Nat) (hp : mjH) (q : Option Value × mjH), k l0 hp = some q → mjG X d C S J_291 (mjEq q) 269 [some (.ref l0), none, none] [] hp kc ks
def P_291_221 (X : mjX) (d C S kc ks : Nat) (k : Nat → Int32 → mjH → mjU) : Prop := ∀ (l0 : Nat) (l1 : Int32) (hp : mjH) (q : Option Value × mjH), k l0 l1 hp = some q → mjG X d C S J_291 (mjEq q) 221 [some (.ref l0), some (.int l1), none] [] hp kc ks
def P_291_178 (X : mjX) (d C S kc ks : Nat) (k : Nat → Int32 → mjH → mjU) : Prop := ∀ (l0 : Nat) (l1 : Int32) (hp : mjH) (q : Option Value × mjH), k l0 l1 hp = some q → mjG X d C S J_291 (mjEq q) 178 [some (.ref l0), some (.int l1), none] [] hp kc ks
def P_291_118 (X : mjX) (d C S kc ks : Nat) (k : Nat → Int32 → mjH → mjU) : Prop := ∀ (l0 : Nat) (l1 : Int32) (hp : mjH) (q : Option Value × mjH), k l0 l1 hp = some q → mjG X d C S J_291 (mjEq q) 118 [some (.ref l0), some (.int l1), none] [] hp kc ks
def P_291_53 (X : mjX) (d C S kc ks : Nat) (k : Nat → mjH → mjU) : Prop := ∀ (l0 : Nat) (hp : mjH) (q : Option Value × mjH), k l0 hp = some q → mjG X d C S J_291 (mjEq q) 53 [some (.ref l0), none, none] [] hp kc ks
def P_291_0 (X : mjX) (d C S kc ks : Nat) (k : Nat → mjH → mjU) : Prop := ∀ (l0 : Nat) (hp : mjH) (q : Option Value × mjH), k l0 hp = some q → mjG X d C S J_291 (mjEq q) 0 [some (.ref l0), none, none] [] hp kc ks
noncomputable def b_291_269 (R : mjR) (l0 : Nat) (hp : mjH) : mjU := gI hp l0 12 6 (fun v1 => gI hp l0 12 4 (fun v2 => rV hp l0 12 (bN (R 288 [.ref l0, .int (3 : Int32), .int v1, .int v2, .int (0 : Int32)] hp) (fun  hp3 => rV hp3 l0 12 (bN (R 262 [.ref l0] hp3) (fun  hp4 => some (some (.int (1 : Int32)), hp4)))))))
theorem t_291_269 {X : mjX} {d C S kc ks : Nat} {R : mjR} (hR : mjC R d) (h1 : kc ≤ C) (h2 : ks ≤ S) : P_291_269 X (d + 1) C S kc ks (b_291_269 R) := by
  intro l0 hp q h
  unfold b_291_269 at h
  refine mjr_aload_n (x := l0) D_291_269 rfl ?_
  refine mjq_ic (v := (3 : Int32)) D_291_270 rfl ?_
  refine mjr_aload_n (x := l0) D_291_271 rfl ?_
  refine mjq_gI D_291_272 fr_12_319 h (fun v1 h => ?_)
  refine mjr_aload_n (x := l0) D_291_275 rfl ?_
  refine mjq_gI D_291_276 fr_12_310 h (fun v2 h => ?_)
  refine mjq_ic (v := (0 : Int32)) D_291_279 rfl ?_
  refine mjq_vN (As := [.int (3 : Int32), .int v1, .int v2, .int (0 : Int32)]) (rest := []) D_291_280 mr_12_446 V_288 rfl rfl rfl hR (Nat.le_refl _) h1 h2 h (fun  hp3 h => ?_)
  refine mjr_aload_n (x := l0) D_291_283 rfl ?_
  refine mjq_vN (As := []) (rest := []) D_291_284 mr_12_350 V_262 rfl rfl rfl hR (Nat.le_refl _) h1 h2 h (fun  hp4 h => ?_)
  refine mjq_ic (v := (1 : Int32)) D_291_287 rfl ?_
  exact mjr_ireturn D_291_288 rfl rfl h1 h2 (Option.some.inj h)
noncomputable def b_291_221 (R : mjR) (l0 : Nat) (l1 : Int32) (hp : mjH) : mjU := (if l1 ≤ 0 then rV hp l0 12 (bI (R 297 [.ref l0] hp) (fun v1 hp2 => (if narrow .boolean (.int v1) = .int v1 then some (some (.int v1), hp2) else none))) else gR hp l0 12 72 (fun v3 => gI hp l0 12 76 (fun v4 => aI hp v3 (v4 - (1 : Int32)) (fun v5 => (if v5 = (3 : Int32) then gR hp l0 12 73 (fun v6 => gI hp l0 12 76 (fun v7 => aI hp v6 (v7 - (1 : Int32)) (fun v8 => bI (R 296 [.int v8] hp) (fun v9 hp10 => (if v9 = (1 : Int32) then (if l1 = (1 : Int32) then rV hp10 l0 12 (bN (R 269 [.ref l0] hp10) (fun  hp11 => some (some (.int (0 : Int32)), hp11))) else b_291_269 R l0 hp10) else b_291_269 R l0 hp10))))) else b_291_269 R l0 hp)))))
theorem t_291_221 {X : mjX} {d C S kc ks : Nat} {R : mjR} (hR : mjC R d) (h1 : kc ≤ C) (h2 : ks ≤ S) : P_291_221 X (d + 1) C S kc ks (b_291_221 R) := by
  intro l0 l1 hp q h
  unfold b_291_221 at h
  refine mjr_iload_n (x := l1) D_291_221 rfl ?_
  refine mjq_if_le (tgt := 289) D_291_222 rfl h (fun h => ?_) (fun h => ?_)
  · refine mjr_aload_n (x := l0) D_291_289 rfl ?_
    refine mjq_vI (As := []) (rest := []) D_291_290 mr_12_472 V_297 rfl rfl rfl hR (Nat.le_refl _) h1 h2 h (fun v1 hp2 h => ?_)
    exact mjq_retZ (ty := .boolean) D_291_293 rfl h1 h2 h
  · refine mjr_aload_n (x := l0) D_291_225 rfl ?_
    refine mjq_gR D_291_226 fr_12_179 h (fun v3 h => ?_)
    refine mjr_aload_n (x := l0) D_291_229 rfl ?_
    refine mjq_gI D_291_230 fr_12_443 h (fun v4 h => ?_)
    refine mjq_ic (v := (1 : Int32)) D_291_233 rfl ?_
    refine mjr_isub D_291_234 ?_
    refine mjq_aI D_291_235 h (fun v5 h => ?_)
    refine mjq_ic (v := (3 : Int32)) D_291_236 rfl ?_
    refine mjq_icmp_ne (tgt := 269) D_291_237 rfl h (fun h => ?_) (fun h => ?_)
    · exact mjG.fg (lo' := [some (.ref l0), none, none]) (And.intro rfl True.intro) ((t_291_269 hR h1 h2) _ _ _ h)
    · refine mjr_aload_n (x := l0) D_291_240 rfl ?_
      refine mjq_gR D_291_241 fr_12_182 h (fun v6 h => ?_)
      refine mjr_aload_n (x := l0) D_291_244 rfl ?_
      refine mjq_gI D_291_245 fr_12_443 h (fun v7 h => ?_)
      refine mjq_ic (v := (1 : Int32)) D_291_248 rfl ?_
      refine mjr_isub D_291_249 ?_
      refine mjq_aI D_291_250 h (fun v8 h => ?_)
      refine mjq_scI (As := [.int v8]) (rest := []) D_291_251 mr_12_463 V_296 rfl rfl rfl hR (Nat.le_refl _) h1 h2 h (fun v9 hp10 h => ?_)
      refine mjq_ic (v := (1 : Int32)) D_291_254 rfl ?_
      refine mjq_icmp_ne (tgt := 269) D_291_255 rfl h (fun h => ?_) (fun h => ?_)
      · exact mjG.fg (lo' := [some (.ref l0), none, none]) (And.intro rfl True.intro) ((t_291_269 hR h1 h2) _ _ _ h)
      · refine mjr_iload_n (x := l1) D_291_258 rfl ?_
        refine mjq_ic (v := (1 : Int32)) D_291_259 rfl ?_
        refine mjq_icmp_ne (tgt := 269) D_291_260 rfl h (fun h => ?_) (fun h => ?_)
        · exact mjG.fg (lo' := [some (.ref l0), none, none]) (And.intro rfl True.intro) ((t_291_269 hR h1 h2) _ _ _ h)
        · refine mjr_aload_n (x := l0) D_291_263 rfl ?_
          refine mjq_vN (As := []) (rest := []) D_291_264 mr_12_347 V_269 rfl rfl rfl hR (Nat.le_refl _) h1 h2 h (fun  hp11 h => ?_)
          refine mjq_ic (v := (0 : Int32)) D_291_267 rfl ?_
          exact mjr_ireturn D_291_268 rfl rfl h1 h2 (Option.some.inj h)
noncomputable def b_291_178 (R : mjR) (k118 : Nat → Int32 → mjH → mjU) (l0 : Nat) (l1 : Int32) (hp : mjH) : mjU := gI hp l0 12 76 (fun v1 => pI hp l0 12 76 (v1 - (1 : Int32)) (fun hp2 => gR hp2 l0 12 74 (fun v3 => gI hp2 l0 12 76 (fun v4 => aI hp2 v3 v4 (fun v5 => gR hp2 l0 12 73 (fun v6 => gI hp2 l0 12 76 (fun v7 => aI hp2 v6 v7 (fun v8 => rV hp2 l0 12 (bN (R 281 [.ref l0, .int (9 : Int32), .int v5, .int v8, .int (0 : Int32)] hp2) (fun  hp9 => pI hp9 l0 12 77 (0 : Int32) (fun hp10 => k118 l0 l1 hp10)))))))))))
theorem t_291_178 {X : mjX} {d C S kc ks : Nat} {R : mjR} (hR : mjC R d) (h1 : kc ≤ C) (h2 : ks ≤ S) {k118 : Nat → Int32 → mjH → mjU} (hk118 : P_291_118 X (d + 1) C S kc ks k118) : P_291_178 X (d + 1) C S kc ks (b_291_178 R k118) := by
  intro l0 l1 hp q h
  unfold b_291_178 at h
  refine mjr_aload_n (x := l0) D_291_178 rfl ?_
  refine mjr_dup D_291_179 rfl ?_
  refine mjq_gI D_291_180 fr_12_443 h (fun v1 h => ?_)
  refine mjq_ic (v := (1 : Int32)) D_291_183 rfl ?_
  refine mjr_isub D_291_184 ?_
  refine mjq_pI D_291_185 fr_12_443 rfl rfl h (fun hp2 h => ?_)
  refine mjr_aload_n (x := l0) D_291_188 rfl ?_
  refine mjq_bi (v := (9 : Int32)) D_291_189 rfl ?_
  refine mjr_aload_n (x := l0) D_291_191 rfl ?_
  refine mjq_gR D_291_192 fr_12_185 h (fun v3 h => ?_)
  refine mjr_aload_n (x := l0) D_291_195 rfl ?_
  refine mjq_gI D_291_196 fr_12_443 h (fun v4 h => ?_)
  refine mjq_aI D_291_199 h (fun v5 h => ?_)
  refine mjr_aload_n (x := l0) D_291_200 rfl ?_
  refine mjq_gR D_291_201 fr_12_182 h (fun v6 h => ?_)
  refine mjr_aload_n (x := l0) D_291_204 rfl ?_
  refine mjq_gI D_291_205 fr_12_443 h (fun v7 h => ?_)
  refine mjq_aI D_291_208 h (fun v8 h => ?_)
  refine mjq_ic (v := (0 : Int32)) D_291_209 rfl ?_
  refine mjq_vN (As := [.int (9 : Int32), .int v5, .int v8, .int (0 : Int32)]) (rest := []) D_291_210 mr_12_359 V_281 rfl rfl rfl hR (Nat.le_refl _) h1 h2 h (fun  hp9 h => ?_)
  refine mjr_aload_n (x := l0) D_291_213 rfl ?_
  refine mjq_ic (v := (0 : Int32)) D_291_214 rfl ?_
  refine mjq_pI D_291_215 fr_12_440 rfl rfl h (fun hp10 h => ?_)
  refine mjr_goto (tgt := 118) D_291_218 rfl ?_
  exact hk118 _ _ _ _ h
noncomputable def b_291_118 (R : mjR) (k118 : Nat → Int32 → mjH → mjU) (l0 : Nat) (l1 : Int32) (hp : mjH) : mjU := gR hp l0 12 72 (fun v1 => gI hp l0 12 76 (fun v2 => aI hp v1 (v2 - (1 : Int32)) (fun v3 => (if v3 = (3 : Int32) then gR hp l0 12 73 (fun v4 => gI hp l0 12 76 (fun v5 => aI hp v4 (v5 - (1 : Int32)) (fun v6 => bI (R 296 [.int v6] hp) (fun v7 hp8 => bI (R 354 [.int l1, .int (1 : Int32)] hp8) (fun v9 hp10 => (if v7 < v9 then b_291_221 R l0 l1 hp10 else (if l1 = (1 : Int32) then gR hp10 l0 12 73 (fun v11 => gI hp10 l0 12 76 (fun v12 => aI hp10 v11 (v12 - (1 : Int32)) (fun v13 => bI (R 296 [.int v13] hp10) (fun v14 hp15 => (if v14 = (1 : Int32) then b_291_221 R l0 l1 hp15 else b_291_178 R k118 l0 l1 hp15))))) else b_291_178 R k118 l0 l1 hp10))))))) else b_291_221 R l0 l1 hp))))
theorem t_291_118 {X : mjX} {d C S kc ks : Nat} {R : mjR} (hR : mjC R d) (h1 : kc ≤ C) (h2 : ks ≤ S) {k118 : Nat → Int32 → mjH → mjU} (hk118 : P_291_118 X (d + 1) C S kc ks k118) : P_291_118 X (d + 1) C S kc ks (b_291_118 R k118) := by
  intro l0 l1 hp q h
  unfold b_291_118 at h
  refine mjr_aload_n (x := l0) D_291_118 rfl ?_
  refine mjq_gR D_291_119 fr_12_179 h (fun v1 h => ?_)
  refine mjr_aload_n (x := l0) D_291_122 rfl ?_
  refine mjq_gI D_291_123 fr_12_443 h (fun v2 h => ?_)
  refine mjq_ic (v := (1 : Int32)) D_291_126 rfl ?_
  refine mjr_isub D_291_127 ?_
  refine mjq_aI D_291_128 h (fun v3 h => ?_)
  refine mjq_ic (v := (3 : Int32)) D_291_129 rfl ?_
  refine mjq_icmp_ne (tgt := 221) D_291_130 rfl h (fun h => ?_) (fun h => ?_)
  · exact (t_291_221 hR h1 h2) _ _ _ _ h
  · refine mjr_aload_n (x := l0) D_291_133 rfl ?_
    refine mjq_gR D_291_134 fr_12_182 h (fun v4 h => ?_)
    refine mjr_aload_n (x := l0) D_291_137 rfl ?_
    refine mjq_gI D_291_138 fr_12_443 h (fun v5 h => ?_)
    refine mjq_ic (v := (1 : Int32)) D_291_141 rfl ?_
    refine mjr_isub D_291_142 ?_
    refine mjq_aI D_291_143 h (fun v6 h => ?_)
    refine mjq_scI (As := [.int v6]) (rest := []) D_291_144 mr_12_463 V_296 rfl rfl rfl hR (Nat.le_refl _) h1 h2 h (fun v7 hp8 h => ?_)
    refine mjr_iload_n (x := l1) D_291_147 rfl ?_
    refine mjq_ic (v := (1 : Int32)) D_291_148 rfl ?_
    refine mjq_scI (As := [.int l1, .int (1 : Int32)]) (rest := [.int v7]) D_291_149 mr_12_466 V_354 rfl rfl rfl hR (Nat.le_refl _) h1 h2 h (fun v9 hp10 h => ?_)
    refine mjq_icmp_lt (tgt := 221) D_291_152 rfl h (fun h => ?_) (fun h => ?_)
    · exact (t_291_221 hR h1 h2) _ _ _ _ h
    · refine mjr_iload_n (x := l1) D_291_155 rfl ?_
      refine mjq_ic (v := (1 : Int32)) D_291_156 rfl ?_
      refine mjq_icmp_ne (tgt := 178) D_291_157 rfl h (fun h => ?_) (fun h => ?_)
      · exact (t_291_178 hR h1 h2 hk118) _ _ _ _ h
      · refine mjr_aload_n (x := l0) D_291_160 rfl ?_
        refine mjq_gR D_291_161 fr_12_182 h (fun v11 h => ?_)
        refine mjr_aload_n (x := l0) D_291_164 rfl ?_
        refine mjq_gI D_291_165 fr_12_443 h (fun v12 h => ?_)
        refine mjq_ic (v := (1 : Int32)) D_291_168 rfl ?_
        refine mjr_isub D_291_169 ?_
        refine mjq_aI D_291_170 h (fun v13 h => ?_)
        refine mjq_scI (As := [.int v13]) (rest := []) D_291_171 mr_12_463 V_296 rfl rfl rfl hR (Nat.le_refl _) h1 h2 h (fun v14 hp15 h => ?_)
        refine mjq_ic (v := (1 : Int32)) D_291_174 rfl ?_
        refine mjq_icmp_eq (tgt := 221) D_291_175 rfl h (fun h => ?_) (fun h => ?_)
        · exact (t_291_221 hR h1 h2) _ _ _ _ h
        · exact (t_291_178 hR h1 h2 hk118) _ _ _ _ h
noncomputable def L_291_118 (R : mjR) (n : Nat) : Nat → Int32 → mjH → mjU := Nat.rec (motive := fun _ => Nat → Int32 → mjH → mjU) (fun _ _ _ => none) (fun _ self => b_291_118 R self) n
theorem T_291_118 {X : mjX} {d C S kc ks : Nat} {R : mjR} (hR : mjC R d) (h1 : kc ≤ C) (h2 : ks ≤ S) (n : Nat) : P_291_118 X (d + 1) C S kc ks (L_291_118 R n) := by
  induction n with
  | zero => intro _ _ _ _ h; exact mj_no h
  | succ n ih => exact t_291_118 hR h1 h2 ih
noncomputable def b_291_53 (R : mjR) (k53 : Nat → mjH → mjU) (l0 : Nat) (hp : mjH) : mjU := gR hp l0 12 72 (fun v1 => gI hp l0 12 76 (fun v2 => aI hp v1 (v2 - (1 : Int32)) (fun v3 => (if v3 = (2 : Int32) then gI hp l0 12 76 (fun v6 => pI hp l0 12 76 (v6 - (1 : Int32)) (fun hp7 => gI hp7 l0 12 64 (fun v8 => pI hp7 l0 12 64 (v8 - (1 : Int32)) (fun hp9 => gR hp9 l0 12 74 (fun v10 => gI hp9 l0 12 76 (fun v11 => aI hp9 v10 v11 (fun v12 => rV hp9 l0 12 (bN (R 281 [.ref l0, .int (8 : Int32), .int v12, .int (0 : Int32), .int (0 : Int32)] hp9) (fun  hp13 => pI hp13 l0 12 77 (0 : Int32) (fun hp14 => k53 l0 hp14)))))))))) else rV hp l0 12 (bI (R 295 [.ref l0] hp) (fun v4 hp5 => L_291_118 R mjN l0 v4 hp5))))))
theorem t_291_53 {X : mjX} {d C S kc ks : Nat} {R : mjR} (hR : mjC R d) (h1 : kc ≤ C) (h2 : ks ≤ S) {k53 : Nat → mjH → mjU} (hk53 : P_291_53 X (d + 1) C S kc ks k53) : P_291_53 X (d + 1) C S kc ks (b_291_53 R k53) := by
  intro l0 hp q h
  unfold b_291_53 at h
  refine mjr_aload_n (x := l0) D_291_53 rfl ?_
  refine mjq_gR D_291_54 fr_12_179 h (fun v1 h => ?_)
  refine mjr_aload_n (x := l0) D_291_57 rfl ?_
  refine mjq_gI D_291_58 fr_12_443 h (fun v2 h => ?_)
  refine mjq_ic (v := (1 : Int32)) D_291_61 rfl ?_
  refine mjr_isub D_291_62 ?_
  refine mjq_aI D_291_63 h (fun v3 h => ?_)
  refine mjq_ic (v := (2 : Int32)) D_291_64 rfl ?_
  refine mjq_icmp_ne (tgt := 113) D_291_65 rfl h (fun h => ?_) (fun h => ?_)
  · refine mjr_aload_n (x := l0) D_291_113 rfl ?_
    refine mjq_vI (As := []) (rest := []) D_291_114 mr_12_460 V_295 rfl rfl rfl hR (Nat.le_refl _) h1 h2 h (fun v4 hp5 h => ?_)
    refine mjq_istore_n (lo' := [some (.ref l0), some (.int v4), none]) D_291_117 (Nat.le_of_ble_eq_true rfl) rfl ?_
    exact (T_291_118 hR h1 h2 mjN) _ _ _ _ h
  · refine mjr_aload_n (x := l0) D_291_68 rfl ?_
    refine mjr_dup D_291_69 rfl ?_
    refine mjq_gI D_291_70 fr_12_443 h (fun v6 h => ?_)
    refine mjq_ic (v := (1 : Int32)) D_291_73 rfl ?_
    refine mjr_isub D_291_74 ?_
    refine mjq_pI D_291_75 fr_12_443 rfl rfl h (fun hp7 h => ?_)
    refine mjr_aload_n (x := l0) D_291_78 rfl ?_
    refine mjr_dup D_291_79 rfl ?_
    refine mjq_gI D_291_80 fr_12_353 h (fun v8 h => ?_)
    refine mjq_ic (v := (1 : Int32)) D_291_83 rfl ?_
    refine mjr_isub D_291_84 ?_
    refine mjq_pI D_291_85 fr_12_353 rfl rfl h (fun hp9 h => ?_)
    refine mjr_aload_n (x := l0) D_291_88 rfl ?_
    refine mjq_bi (v := (8 : Int32)) D_291_89 rfl ?_
    refine mjr_aload_n (x := l0) D_291_91 rfl ?_
    refine mjq_gR D_291_92 fr_12_185 h (fun v10 h => ?_)
    refine mjr_aload_n (x := l0) D_291_95 rfl ?_
    refine mjq_gI D_291_96 fr_12_443 h (fun v11 h => ?_)
    refine mjq_aI D_291_99 h (fun v12 h => ?_)
    refine mjq_ic (v := (0 : Int32)) D_291_100 rfl ?_
    refine mjq_ic (v := (0 : Int32)) D_291_101 rfl ?_
    refine mjq_vN (As := [.int (8 : Int32), .int v12, .int (0 : Int32), .int (0 : Int32)]) (rest := []) D_291_102 mr_12_359 V_281 rfl rfl rfl hR (Nat.le_refl _) h1 h2 h (fun  hp13 h => ?_)
    refine mjr_aload_n (x := l0) D_291_105 rfl ?_
    refine mjq_ic (v := (0 : Int32)) D_291_106 rfl ?_
    refine mjq_pI D_291_107 fr_12_440 rfl rfl h (fun hp14 h => ?_)
    refine mjr_goto (tgt := 53) D_291_110 rfl ?_
    exact hk53 _ _ _ h
noncomputable def L_291_53 (R : mjR) (n : Nat) : Nat → mjH → mjU := Nat.rec (motive := fun _ => Nat → mjH → mjU) (fun _ _ => none) (fun _ self => b_291_53 R self) n
theorem T_291_53 {X : mjX} {d C S kc ks : Nat} {R : mjR} (hR : mjC R d) (h1 : kc ≤ C) (h2 : ks ≤ S) (n : Nat) : P_291_53 X (d + 1) C S kc ks (L_291_53 R n) := by
  induction n with
  | zero => intro _ _ _ h; exact mj_no h
  | succ n ih => exact t_291_53 hR h1 h2 ih
noncomputable def b_291_0 (R : mjR) (l0 : Nat) (hp : mjH) : mjU := rV hp l0 12 (bI (R 271 [.ref l0, .int (46 : Int32)] hp) (fun v1 hp2 => (if v1 = 0 then rV hp2 l0 12 (bI (R 266 [.ref l0, .int (16 : Int32)] hp2) (fun v3 hp4 => (if v3 = 0 then L_291_53 R mjN l0 hp4 else gI hp4 l0 12 4 (fun v5 => rV hp4 l0 12 (bN (R 262 [.ref l0] hp4) (fun  hp6 => rV hp6 l0 12 (bI (R 272 [.ref l0] hp6) (fun v7 hp8 => rV hp8 l0 12 (bN (R 281 [.ref l0, .int (14 : Int32), .int v5, .int v7, .int (0 : Int32)] hp8) (fun  hp9 => pI hp9 l0 12 77 (0 : Int32) (fun hp10 => some (some (.int (0 : Int32)), hp10)))))))))))) else rV hp2 l0 12 (bI (R 292 [.ref l0] hp2) (fun v11 hp12 => (if narrow .boolean (.int v11) = .int v11 then some (some (.int v11), hp12) else none))))))
theorem t_291_0 {X : mjX} {d C S kc ks : Nat} {R : mjR} (hR : mjC R d) (h1 : kc ≤ C) (h2 : ks ≤ S) : P_291_0 X (d + 1) C S kc ks (b_291_0 R) := by
  intro l0 hp q h
  unfold b_291_0 at h
  refine mjr_aload_n (x := l0) D_291_0 rfl ?_
  refine mjq_bi (v := (46 : Int32)) D_291_1 rfl ?_
  refine mjq_vI (As := [.int (46 : Int32)]) (rest := []) D_291_3 mr_12_343 V_271 rfl rfl rfl hR (Nat.le_refl _) h1 h2 h (fun v1 hp2 h => ?_)
  refine mjq_if_eq (tgt := 14) D_291_6 rfl h (fun h => ?_) (fun h => ?_)
  · refine mjr_aload_n (x := l0) D_291_14 rfl ?_
    refine mjq_bi (v := (16 : Int32)) D_291_15 rfl ?_
    refine mjq_vI (As := [.int (16 : Int32)]) (rest := []) D_291_17 mr_12_363 V_266 rfl rfl rfl hR (Nat.le_refl _) h1 h2 h (fun v3 hp4 h => ?_)
    refine mjq_if_eq (tgt := 53) D_291_20 rfl h (fun h => ?_) (fun h => ?_)
    · exact (T_291_53 hR h1 h2 mjN) _ _ _ h
    · refine mjr_aload_n (x := l0) D_291_23 rfl ?_
      refine mjq_gI D_291_24 fr_12_310 h (fun v5 h => ?_)
      refine mjq_istore_n (lo' := [some (.ref l0), some (.int v5), none]) D_291_27 (Nat.le_of_ble_eq_true rfl) rfl ?_
      refine mjr_aload_n (x := l0) D_291_28 rfl ?_
      refine mjq_vN (As := []) (rest := []) D_291_29 mr_12_350 V_262 rfl rfl rfl hR (Nat.le_refl _) h1 h2 h (fun  hp6 h => ?_)
      refine mjr_aload_n (x := l0) D_291_32 rfl ?_
      refine mjq_vI (As := []) (rest := []) D_291_33 mr_12_384 V_272 rfl rfl rfl hR (Nat.le_refl _) h1 h2 h (fun v7 hp8 h => ?_)
      refine mjq_istore_n (lo' := [some (.ref l0), some (.int v5), some (.int v7)]) D_291_36 (Nat.le_of_ble_eq_true rfl) rfl ?_
      refine mjr_aload_n (x := l0) D_291_37 rfl ?_
      refine mjq_bi (v := (14 : Int32)) D_291_38 rfl ?_
      refine mjr_iload_n (x := v5) D_291_40 rfl ?_
      refine mjr_iload_n (x := v7) D_291_41 rfl ?_
      refine mjq_ic (v := (0 : Int32)) D_291_42 rfl ?_
      refine mjq_vN (As := [.int (14 : Int32), .int v5, .int v7, .int (0 : Int32)]) (rest := []) D_291_43 mr_12_359 V_281 rfl rfl rfl hR (Nat.le_refl _) h1 h2 h (fun  hp9 h => ?_)
      refine mjr_aload_n (x := l0) D_291_46 rfl ?_
      refine mjq_ic (v := (0 : Int32)) D_291_47 rfl ?_
      refine mjq_pI D_291_48 fr_12_440 rfl rfl h (fun hp10 h => ?_)
      refine mjq_ic (v := (0 : Int32)) D_291_51 rfl ?_
      exact mjr_ireturn D_291_52 rfl rfl h1 h2 (Option.some.inj h)
  · refine mjr_aload_n (x := l0) D_291_9 rfl ?_
    refine mjq_vI (As := []) (rest := []) D_291_10 mr_12_457 V_292 rfl rfl rfl hR (Nat.le_refl _) h1 h2 h (fun v11 hp12 h => ?_)
    exact mjq_retZ (ty := .boolean) D_291_13 rfl h1 h2 h
noncomputable def f_291 (R : mjR) (a0 : Nat) (hp : mjH) : mjU := b_291_0 R a0 hp
theorem c_291 {R : mjR} {d : Nat} (hR : mjC R d) {a0 : Nat} {hp : mjH} {q : Option Value × mjH} (h : f_291 R a0 hp = some q) : mjM (d + 1) 0 0 291 [.ref a0] hp (mjEq q) :=
  mjM_of Ja_291 (Nat.le_of_ble_eq_true rfl) (mjG.fg (lo' := [some (.ref a0), none, none]) (And.intro rfl True.intro) ((t_291_0 hR (Nat.le_refl 0) (Nat.le_refl 0)) a0 hp q h))
def J_292 : mjI := (⟨"OwnerHeapModel", "readDot", "()Z"⟩, 12, prog_14_method_42_code, 4, (some .boolean), 0, false)
theorem Ja_292 : mjMt 292 = some J_292 := by rfl
theorem D_292_0 : decode J_292.2.2.1 0 = .ok (.aload_n 0, 1) := dzq_42 (by decide +kernel)
theorem D_292_1 : decode J_292.2.2.1 1 = .ok (.invokevirtual 350, 3) := dzq_182 (by decide +kernel)
theorem D_292_4 : decode J_292.2.2.1 4 = .ok (.aload_n 0, 1) := dzq_42 (by decide +kernel)
theorem D_292_5 : decode J_292.2.2.1 5 = .ok (.getfield 316, 3) := dzq_180 (by decide +kernel)
theorem D_292_8 : decode J_292.2.2.1 8 = .ok (.iconst 2, 1) := dzq_5 (by decide +kernel)
theorem D_292_9 : decode J_292.2.2.1 9 = .ok (.if_icmp .eq 9, 3) := dzq_159 (by decide +kernel)
theorem D_292_12 : decode J_292.2.2.1 12 = .ok (.aload_n 0, 1) := dzq_42 (by decide +kernel)
theorem D_292_13 : decode J_292.2.2.1 13 = .ok (.invokevirtual 347, 3) := dzq_182 (by decide +kernel)
theorem D_292_16 : decode J_292.2.2.1 16 = .ok (.iconst 0, 1) := dzq_3 (by decide +kernel)
theorem D_292_17 : decode J_292.2.2.1 17 = .ok (.ireturn, 1) := dzq_172 (by decide +kernel)
theorem D_292_18 : decode J_292.2.2.1 18 = .ok (.aload_n 0, 1) := dzq_42 (by decide +kernel)
theorem D_292_19 : decode J_292.2.2.1 19 = .ok (.getfield 310, 3) := dzq_180 (by decide +kernel)
theorem D_292_22 : decode J_292.2.2.1 22 = .ok (.istore_n 1, 1) := dzq_60 (by decide +kernel)
theorem D_292_23 : decode J_292.2.2.1 23 = .ok (.aload_n 0, 1) := dzq_42 (by decide +kernel)
theorem D_292_24 : decode J_292.2.2.1 24 = .ok (.getfield 322, 3) := dzq_180 (by decide +kernel)
theorem D_292_27 : decode J_292.2.2.1 27 = .ok (.lstore_n 2, 1) := by decide +kernel
theorem D_292_28 : decode J_292.2.2.1 28 = .ok (.aload_n 0, 1) := dzq_42 (by decide +kernel)
theorem D_292_29 : decode J_292.2.2.1 29 = .ok (.invokevirtual 350, 3) := dzq_182 (by decide +kernel)
theorem D_292_32 : decode J_292.2.2.1 32 = .ok (.aload_n 0, 1) := dzq_42 (by decide +kernel)
theorem D_292_33 : decode J_292.2.2.1 33 = .ok (.bipush 40, 2) := dzq_16 (by decide +kernel)
theorem D_292_35 : decode J_292.2.2.1 35 = .ok (.invokevirtual 343, 3) := dzq_182 (by decide +kernel)
theorem D_292_38 : decode J_292.2.2.1 38 = .ok (.ifCond .ne 19, 3) := dzq_154 (by decide +kernel)
theorem D_292_41 : decode J_292.2.2.1 41 = .ok (.aload_n 0, 1) := dzq_42 (by decide +kernel)
theorem D_292_42 : decode J_292.2.2.1 42 = .ok (.bipush 10, 2) := dzq_16 (by decide +kernel)
theorem D_292_44 : decode J_292.2.2.1 44 = .ok (.iload_n 1, 1) := dzq_27 (by decide +kernel)
theorem D_292_45 : decode J_292.2.2.1 45 = .ok (.lload_n 2, 1) := dzq_32 (by decide +kernel)
theorem D_292_46 : decode J_292.2.2.1 46 = .ok (.iconst 0, 1) := dzq_3 (by decide +kernel)
theorem D_292_47 : decode J_292.2.2.1 47 = .ok (.invokevirtual 436, 3) := dzq_182 (by decide +kernel)
theorem D_292_50 : decode J_292.2.2.1 50 = .ok (.aload_n 0, 1) := dzq_42 (by decide +kernel)
theorem D_292_51 : decode J_292.2.2.1 51 = .ok (.iconst 2, 1) := dzq_5 (by decide +kernel)
theorem D_292_52 : decode J_292.2.2.1 52 = .ok (.putfield 440, 3) := dzq_181 (by decide +kernel)
theorem D_292_55 : decode J_292.2.2.1 55 = .ok (.iconst 0, 1) := dzq_3 (by decide +kernel)
theorem D_292_56 : decode J_292.2.2.1 56 = .ok (.ireturn, 1) := dzq_172 (by decide +kernel)
theorem D_292_57 : decode J_292.2.2.1 57 = .ok (.aload_n 0, 1) := dzq_42 (by decide +kernel)
theorem D_292_58 : decode J_292.2.2.1 58 = .ok (.bipush 11, 2) := dzq_16 (by decide +kernel)
theorem D_292_60 : decode J_292.2.2.1 60 = .ok (.iload_n 1, 1) := dzq_27 (by decide +kernel)
theorem D_292_61 : decode J_292.2.2.1 61 = .ok (.lload_n 2, 1) := dzq_32 (by decide +kernel)
theorem D_292_62 : decode J_292.2.2.1 62 = .ok (.iconst 0, 1) := dzq_3 (by decide +kernel)
theorem D_292_63 : decode J_292.2.2.1 63 = .ok (.invokevirtual 436, 3) := dzq_182 (by decide +kernel)
theorem D_292_66 : decode J_292.2.2.1 66 = .ok (.aload_n 0, 1) := dzq_42 (by decide +kernel)
theorem D_292_67 : decode J_292.2.2.1 67 = .ok (.iconst 4, 1) := dzq_7 (by decide +kernel)
theorem D_292_68 : decode J_292.2.2.1 68 = .ok (.aload_n 0, 1) := dzq_42 (by decide +kernel)
theorem D_292_69 : decode J_292.2.2.1 69 = .ok (.getfield 85, 3) := dzq_180 (by decide +kernel)
theorem D_292_72 : decode J_292.2.2.1 72 = .ok (.aload_n 0, 1) := dzq_42 (by decide +kernel)
theorem D_292_73 : decode J_292.2.2.1 73 = .ok (.getfield 356, 3) := dzq_180 (by decide +kernel)
theorem D_292_76 : decode J_292.2.2.1 76 = .ok (.iaload, 1) := dzq_46 (by decide +kernel)
theorem D_292_77 : decode J_292.2.2.1 77 = .ok (.iconst 1, 1) := dzq_4 (by decide +kernel)
theorem D_292_78 : decode J_292.2.2.1 78 = .ok (.isub, 1) := dzq_100 (by decide +kernel)
theorem D_292_79 : decode J_292.2.2.1 79 = .ok (.iload_n 1, 1) := dzq_27 (by decide +kernel)
theorem D_292_80 : decode J_292.2.2.1 80 = .ok (.iconst 0, 1) := dzq_3 (by decide +kernel)
theorem D_292_81 : decode J_292.2.2.1 81 = .ok (.invokevirtual 446, 3) := dzq_182 (by decide +kernel)
theorem D_292_84 : decode J_292.2.2.1 84 = .ok (.aload_n 0, 1) := dzq_42 (by decide +kernel)
theorem D_292_85 : decode J_292.2.2.1 85 = .ok (.bipush 40, 2) := dzq_16 (by decide +kernel)
theorem D_292_87 : decode J_292.2.2.1 87 = .ok (.invokevirtual 391, 3) := dzq_182 (by decide +kernel)
theorem D_292_90 : decode J_292.2.2.1 90 = .ok (.aload_n 0, 1) := dzq_42 (by decide +kernel)
theorem D_292_91 : decode J_292.2.2.1 91 = .ok (.getfield 333, 3) := dzq_180 (by decide +kernel)
theorem D_292_94 : decode J_292.2.2.1 94 = .ok (.ifCond .le 5, 3) := dzq_158 (by decide +kernel)
theorem D_292_97 : decode J_292.2.2.1 97 = .ok (.iconst 0, 1) := dzq_3 (by decide +kernel)
theorem D_292_98 : decode J_292.2.2.1 98 = .ok (.ireturn, 1) := dzq_172 (by decide +kernel)
theorem D_292_99 : decode J_292.2.2.1 99 = .ok (.aload_n 0, 1) := dzq_42 (by decide +kernel)
theorem D_292_100 : decode J_292.2.2.1 100 = .ok (.bipush 41, 2) := dzq_16 (by decide +kernel)
theorem D_292_102 : decode J_292.2.2.1 102 = .ok (.invokevirtual 343, 3) := dzq_182 (by decide +kernel)
theorem D_292_105 : decode J_292.2.2.1 105 = .ok (.ifCond .eq 21, 3) := dzq_153 (by decide +kernel)
theorem D_292_108 : decode J_292.2.2.1 108 = .ok (.aload_n 0, 1) := dzq_42 (by decide +kernel)
theorem D_292_109 : decode J_292.2.2.1 109 = .ok (.bipush 41, 2) := dzq_16 (by decide +kernel)
theorem D_292_111 : decode J_292.2.2.1 111 = .ok (.invokevirtual 397, 3) := dzq_182 (by decide +kernel)
theorem D_292_114 : decode J_292.2.2.1 114 = .ok (.aload_n 0, 1) := dzq_42 (by decide +kernel)
theorem D_292_115 : decode J_292.2.2.1 115 = .ok (.aload_n 0, 1) := dzq_42 (by decide +kernel)
theorem D_292_116 : decode J_292.2.2.1 116 = .ok (.getfield 443, 3) := dzq_180 (by decide +kernel)
theorem D_292_119 : decode J_292.2.2.1 119 = .ok (.iconst 1, 1) := dzq_4 (by decide +kernel)
theorem D_292_120 : decode J_292.2.2.1 120 = .ok (.isub, 1) := dzq_100 (by decide +kernel)
theorem D_292_121 : decode J_292.2.2.1 121 = .ok (.invokevirtual 478, 3) := dzq_182 (by decide +kernel)
theorem D_292_124 : decode J_292.2.2.1 124 = .ok (.iconst 0, 1) := dzq_3 (by decide +kernel)
theorem D_292_125 : decode J_292.2.2.1 125 = .ok (.ireturn, 1) := dzq_172 (by decide +kernel)
theorem D_292_126 : decode J_292.2.2.1 126 = .ok (.aload_n 0, 1) := dzq_42 (by decide +kernel)
theorem D_292_127 : decode J_292.2.2.1 127 = .ok (.aload_n 0, 1) := dzq_42 (by decide +kernel)
theorem D_292_128 : decode J_292.2.2.1 128 = .ok (.getfield 443, 3) := dzq_180 (by decide +kernel)
theorem D_292_131 : decode J_292.2.2.1 131 = .ok (.iconst 1, 1) := dzq_4 (by decide +kernel)
theorem D_292_132 : decode J_292.2.2.1 132 = .ok (.isub, 1) := dzq_100 (by decide +kernel)
theorem D_292_133 : decode J_292.2.2.1 133 = .ok (.invokevirtual 475, 3) := dzq_182 (by decide +kernel)
theorem D_292_136 : decode J_292.2.2.1 136 = .ok (.ireturn, 1) := dzq_172 (by decide +kernel)
def P_292_0 (X : mjX) (d C S kc ks : Nat) (k : Nat → mjH → mjU) : Prop := ∀ (l0 : Nat) (hp : mjH) (q : Option Value × mjH), k l0 hp = some q → mjG X d C S J_292 (mjEq q) 0 [some (.ref l0), none, none, none] [] hp kc ks
noncomputable def b_292_0 (R : mjR) (l0 : Nat) (hp : mjH) : mjU := rV hp l0 12 (bN (R 262 [.ref l0] hp) (fun  hp1 => gI hp1 l0 12 3 (fun v2 => (if v2 = (2 : Int32) then gI hp1 l0 12 4 (fun v3 => gL hp1 l0 12 7 (fun v4 => rV hp1 l0 12 (bN (R 262 [.ref l0] hp1) (fun  hp5 => rV hp5 l0 12 (bI (R 271 [.ref l0, .int (40 : Int32)] hp5) (fun v6 hp7 => (if v6 = 0 then rV hp7 l0 12 (bN (R 286 [.ref l0, .int (10 : Int32), .int v3, .long v4, .int (0 : Int32)] hp7) (fun  hp23 => pI hp23 l0 12 77 (2 : Int32) (fun hp24 => some (some (.int (0 : Int32)), hp24)))) else rV hp7 l0 12 (bN (R 286 [.ref l0, .int (11 : Int32), .int v3, .long v4, .int (0 : Int32)] hp7) (fun  hp8 => gR hp8 l0 12 33 (fun v9 => gI hp8 l0 12 63 (fun v10 => aI hp8 v9 v10 (fun v11 => rV hp8 l0 12 (bN (R 288 [.ref l0, .int (4 : Int32), .int (v11 - (1 : Int32)), .int v3, .int (0 : Int32)] hp8) (fun  hp12 => rV hp12 l0 12 (bN (R 274 [.ref l0, .int (40 : Int32)] hp12) (fun  hp13 => gI hp13 l0 12 61 (fun v14 => (if v14 ≤ 0 then rV hp13 l0 12 (bI (R 271 [.ref l0, .int (41 : Int32)] hp13) (fun v15 hp16 => (if v15 = 0 then gI hp16 l0 12 76 (fun v17 => rV hp16 l0 12 (bI (R 294 [.ref l0, .int (v17 - (1 : Int32))] hp16) (fun v18 hp19 => (if narrow .boolean (.int v18) = .int v18 then some (some (.int v18), hp19) else none)))) else rV hp16 l0 12 (bN (R 278 [.ref l0, .int (41 : Int32)] hp16) (fun  hp20 => gI hp20 l0 12 76 (fun v21 => rV hp20 l0 12 (bN (R 293 [.ref l0, .int (v21 - (1 : Int32))] hp20) (fun  hp22 => some (some (.int (0 : Int32)), hp22))))))))) else some (some (.int (0 : Int32)), hp13))))))))))))))))))) else rV hp1 l0 12 (bN (R 269 [.ref l0] hp1) (fun  hp25 => some (some (.int (0 : Int32)), hp25)))))))
theorem t_292_0 {X : mjX} {d C S kc ks : Nat} {R : mjR} (hR : mjC R d) (h1 : kc ≤ C) (h2 : ks ≤ S) : P_292_0 X (d + 1) C S kc ks (b_292_0 R) := by
  intro l0 hp q h
  unfold b_292_0 at h
  refine mjr_aload_n (x := l0) D_292_0 rfl ?_
  refine mjq_vN (As := []) (rest := []) D_292_1 mr_12_350 V_262 rfl rfl rfl hR (Nat.le_refl _) h1 h2 h (fun  hp1 h => ?_)
  refine mjr_aload_n (x := l0) D_292_4 rfl ?_
  refine mjq_gI D_292_5 fr_12_316 h (fun v2 h => ?_)
  refine mjq_ic (v := (2 : Int32)) D_292_8 rfl ?_
  refine mjq_icmp_eq (tgt := 18) D_292_9 rfl h (fun h => ?_) (fun h => ?_)
  · refine mjr_aload_n (x := l0) D_292_18 rfl ?_
    refine mjq_gI D_292_19 fr_12_310 h (fun v3 h => ?_)
    refine mjq_istore_n (lo' := [some (.ref l0), some (.int v3), none, none]) D_292_22 (Nat.le_of_ble_eq_true rfl) rfl ?_
    refine mjr_aload_n (x := l0) D_292_23 rfl ?_
    refine mjq_gL D_292_24 fr_12_322 h (fun v4 h => ?_)
    refine mjq_lstore_n (lo' := [some (.ref l0), some (.int v3), some (.long v4), none]) D_292_27 (Nat.le_of_ble_eq_true rfl) rfl ?_
    refine mjr_aload_n (x := l0) D_292_28 rfl ?_
    refine mjq_vN (As := []) (rest := []) D_292_29 mr_12_350 V_262 rfl rfl rfl hR (Nat.le_refl _) h1 h2 h (fun  hp5 h => ?_)
    refine mjr_aload_n (x := l0) D_292_32 rfl ?_
    refine mjq_bi (v := (40 : Int32)) D_292_33 rfl ?_
    refine mjq_vI (As := [.int (40 : Int32)]) (rest := []) D_292_35 mr_12_343 V_271 rfl rfl rfl hR (Nat.le_refl _) h1 h2 h (fun v6 hp7 h => ?_)
    refine mjq_if_ne (tgt := 57) D_292_38 rfl h (fun h => ?_) (fun h => ?_)
    · refine mjr_aload_n (x := l0) D_292_57 rfl ?_
      refine mjq_bi (v := (11 : Int32)) D_292_58 rfl ?_
      refine mjr_iload_n (x := v3) D_292_60 rfl ?_
      refine mjr_lload_n (x := v4) D_292_61 rfl ?_
      refine mjq_ic (v := (0 : Int32)) D_292_62 rfl ?_
      refine mjq_vN (As := [.int (11 : Int32), .int v3, .long v4, .int (0 : Int32)]) (rest := []) D_292_63 mr_12_436 V_286 rfl rfl rfl hR (Nat.le_refl _) h1 h2 h (fun  hp8 h => ?_)
      refine mjr_aload_n (x := l0) D_292_66 rfl ?_
      refine mjq_ic (v := (4 : Int32)) D_292_67 rfl ?_
      refine mjr_aload_n (x := l0) D_292_68 rfl ?_
      refine mjq_gR D_292_69 fr_12_85 h (fun v9 h => ?_)
      refine mjr_aload_n (x := l0) D_292_72 rfl ?_
      refine mjq_gI D_292_73 fr_12_356 h (fun v10 h => ?_)
      refine mjq_aI D_292_76 h (fun v11 h => ?_)
      refine mjq_ic (v := (1 : Int32)) D_292_77 rfl ?_
      refine mjr_isub D_292_78 ?_
      refine mjr_iload_n (x := v3) D_292_79 rfl ?_
      refine mjq_ic (v := (0 : Int32)) D_292_80 rfl ?_
      refine mjq_vN (As := [.int (4 : Int32), .int (v11 - (1 : Int32)), .int v3, .int (0 : Int32)]) (rest := []) D_292_81 mr_12_446 V_288 rfl rfl rfl hR (Nat.le_refl _) h1 h2 h (fun  hp12 h => ?_)
      refine mjr_aload_n (x := l0) D_292_84 rfl ?_
      refine mjq_bi (v := (40 : Int32)) D_292_85 rfl ?_
      refine mjq_vN (As := [.int (40 : Int32)]) (rest := []) D_292_87 mr_12_391 V_274 rfl rfl rfl hR (Nat.le_refl _) h1 h2 h (fun  hp13 h => ?_)
      refine mjr_aload_n (x := l0) D_292_90 rfl ?_
      refine mjq_gI D_292_91 fr_12_333 h (fun v14 h => ?_)
      refine mjq_if_le (tgt := 99) D_292_94 rfl h (fun h => ?_) (fun h => ?_)
      · refine mjr_aload_n (x := l0) D_292_99 rfl ?_
        refine mjq_bi (v := (41 : Int32)) D_292_100 rfl ?_
        refine mjq_vI (As := [.int (41 : Int32)]) (rest := []) D_292_102 mr_12_343 V_271 rfl rfl rfl hR (Nat.le_refl _) h1 h2 h (fun v15 hp16 h => ?_)
        refine mjq_if_eq (tgt := 126) D_292_105 rfl h (fun h => ?_) (fun h => ?_)
        · refine mjr_aload_n (x := l0) D_292_126 rfl ?_
          refine mjr_aload_n (x := l0) D_292_127 rfl ?_
          refine mjq_gI D_292_128 fr_12_443 h (fun v17 h => ?_)
          refine mjq_ic (v := (1 : Int32)) D_292_131 rfl ?_
          refine mjr_isub D_292_132 ?_
          refine mjq_vI (As := [.int (v17 - (1 : Int32))]) (rest := []) D_292_133 mr_12_475 V_294 rfl rfl rfl hR (Nat.le_refl _) h1 h2 h (fun v18 hp19 h => ?_)
          exact mjq_retZ (ty := .boolean) D_292_136 rfl h1 h2 h
        · refine mjr_aload_n (x := l0) D_292_108 rfl ?_
          refine mjq_bi (v := (41 : Int32)) D_292_109 rfl ?_
          refine mjq_vN (As := [.int (41 : Int32)]) (rest := []) D_292_111 mr_12_397 V_278 rfl rfl rfl hR (Nat.le_refl _) h1 h2 h (fun  hp20 h => ?_)
          refine mjr_aload_n (x := l0) D_292_114 rfl ?_
          refine mjr_aload_n (x := l0) D_292_115 rfl ?_
          refine mjq_gI D_292_116 fr_12_443 h (fun v21 h => ?_)
          refine mjq_ic (v := (1 : Int32)) D_292_119 rfl ?_
          refine mjr_isub D_292_120 ?_
          refine mjq_vN (As := [.int (v21 - (1 : Int32))]) (rest := []) D_292_121 mr_12_478 V_293 rfl rfl rfl hR (Nat.le_refl _) h1 h2 h (fun  hp22 h => ?_)
          refine mjq_ic (v := (0 : Int32)) D_292_124 rfl ?_
          exact mjr_ireturn D_292_125 rfl rfl h1 h2 (Option.some.inj h)
      · refine mjq_ic (v := (0 : Int32)) D_292_97 rfl ?_
        exact mjr_ireturn D_292_98 rfl rfl h1 h2 (Option.some.inj h)
    · refine mjr_aload_n (x := l0) D_292_41 rfl ?_
      refine mjq_bi (v := (10 : Int32)) D_292_42 rfl ?_
      refine mjr_iload_n (x := v3) D_292_44 rfl ?_
      refine mjr_lload_n (x := v4) D_292_45 rfl ?_
      refine mjq_ic (v := (0 : Int32)) D_292_46 rfl ?_
      refine mjq_vN (As := [.int (10 : Int32), .int v3, .long v4, .int (0 : Int32)]) (rest := []) D_292_47 mr_12_436 V_286 rfl rfl rfl hR (Nat.le_refl _) h1 h2 h (fun  hp23 h => ?_)
      refine mjr_aload_n (x := l0) D_292_50 rfl ?_
      refine mjq_ic (v := (2 : Int32)) D_292_51 rfl ?_
      refine mjq_pI D_292_52 fr_12_440 rfl rfl h (fun hp24 h => ?_)
      refine mjq_ic (v := (0 : Int32)) D_292_55 rfl ?_
      exact mjr_ireturn D_292_56 rfl rfl h1 h2 (Option.some.inj h)
  · refine mjr_aload_n (x := l0) D_292_12 rfl ?_
    refine mjq_vN (As := []) (rest := []) D_292_13 mr_12_347 V_269 rfl rfl rfl hR (Nat.le_refl _) h1 h2 h (fun  hp25 h => ?_)
    refine mjq_ic (v := (0 : Int32)) D_292_16 rfl ?_
    exact mjr_ireturn D_292_17 rfl rfl h1 h2 (Option.some.inj h)
noncomputable def f_292 (R : mjR) (a0 : Nat) (hp : mjH) : mjU := b_292_0 R a0 hp
theorem c_292 {R : mjR} {d : Nat} (hR : mjC R d) {a0 : Nat} {hp : mjH} {q : Option Value × mjH} (h : f_292 R a0 hp = some q) : mjM (d + 1) 0 0 292 [.ref a0] hp (mjEq q) :=
  mjM_of Ja_292 (Nat.le_of_ble_eq_true rfl) (mjG.fg (lo' := [some (.ref a0), none, none, none]) (And.intro rfl True.intro) ((t_292_0 hR (Nat.le_refl 0) (Nat.le_refl 0)) a0 hp q h))
def J_293 : mjI := (⟨"OwnerHeapModel", "endCall", "(I)V"⟩, 12, prog_14_method_41_code, 2, none, 1, false)
theorem Ja_293 : mjMt 293 = some J_293 := by rfl
theorem D_293_0 : decode J_293.2.2.1 0 = .ok (.aload_n 0, 1) := dzq_42 (by decide +kernel)
theorem D_293_1 : decode J_293.2.2.1 1 = .ok (.iload_n 1, 1) := dzq_27 (by decide +kernel)
theorem D_293_2 : decode J_293.2.2.1 2 = .ok (.putfield 443, 3) := dzq_181 (by decide +kernel)
theorem D_293_5 : decode J_293.2.2.1 5 = .ok (.aload_n 0, 1) := dzq_42 (by decide +kernel)
theorem D_293_6 : decode J_293.2.2.1 6 = .ok (.getfield 157, 3) := dzq_180 (by decide +kernel)
theorem D_293_9 : decode J_293.2.2.1 9 = .ok (.sipush 5000, 3) := dzq_17 (by decide +kernel)
theorem D_293_12 : decode J_293.2.2.1 12 = .ok (.aload_n 0, 1) := dzq_42 (by decide +kernel)
theorem D_293_13 : decode J_293.2.2.1 13 = .ok (.getfield 356, 3) := dzq_180 (by decide +kernel)
theorem D_293_16 : decode J_293.2.2.1 16 = .ok (.imul, 1) := dzq_104 (by decide +kernel)
theorem D_293_17 : decode J_293.2.2.1 17 = .ok (.aload_n 0, 1) := dzq_42 (by decide +kernel)
theorem D_293_18 : decode J_293.2.2.1 18 = .ok (.getfield 182, 3) := dzq_180 (by decide +kernel)
theorem D_293_21 : decode J_293.2.2.1 21 = .ok (.iload_n 1, 1) := dzq_27 (by decide +kernel)
theorem D_293_22 : decode J_293.2.2.1 22 = .ok (.iaload, 1) := dzq_46 (by decide +kernel)
theorem D_293_23 : decode J_293.2.2.1 23 = .ok (.iadd, 1) := dzq_96 (by decide +kernel)
theorem D_293_24 : decode J_293.2.2.1 24 = .ok (.aload_n 0, 1) := dzq_42 (by decide +kernel)
theorem D_293_25 : decode J_293.2.2.1 25 = .ok (.getfield 188, 3) := dzq_180 (by decide +kernel)
theorem D_293_28 : decode J_293.2.2.1 28 = .ok (.iload_n 1, 1) := dzq_27 (by decide +kernel)
theorem D_293_29 : decode J_293.2.2.1 29 = .ok (.iaload, 1) := dzq_46 (by decide +kernel)
theorem D_293_30 : decode J_293.2.2.1 30 = .ok (.iastore, 1) := dzq_79 (by decide +kernel)
theorem D_293_31 : decode J_293.2.2.1 31 = .ok (.aload_n 0, 1) := dzq_42 (by decide +kernel)
theorem D_293_32 : decode J_293.2.2.1 32 = .ok (.bipush 13, 2) := dzq_16 (by decide +kernel)
theorem D_293_34 : decode J_293.2.2.1 34 = .ok (.aload_n 0, 1) := dzq_42 (by decide +kernel)
theorem D_293_35 : decode J_293.2.2.1 35 = .ok (.getfield 185, 3) := dzq_180 (by decide +kernel)
theorem D_293_38 : decode J_293.2.2.1 38 = .ok (.iload_n 1, 1) := dzq_27 (by decide +kernel)
theorem D_293_39 : decode J_293.2.2.1 39 = .ok (.iaload, 1) := dzq_46 (by decide +kernel)
theorem D_293_40 : decode J_293.2.2.1 40 = .ok (.aload_n 0, 1) := dzq_42 (by decide +kernel)
theorem D_293_41 : decode J_293.2.2.1 41 = .ok (.getfield 160, 3) := dzq_180 (by decide +kernel)
theorem D_293_44 : decode J_293.2.2.1 44 = .ok (.sipush 5000, 3) := dzq_17 (by decide +kernel)
theorem D_293_47 : decode J_293.2.2.1 47 = .ok (.aload_n 0, 1) := dzq_42 (by decide +kernel)
theorem D_293_48 : decode J_293.2.2.1 48 = .ok (.getfield 356, 3) := dzq_180 (by decide +kernel)
theorem D_293_51 : decode J_293.2.2.1 51 = .ok (.imul, 1) := dzq_104 (by decide +kernel)
theorem D_293_52 : decode J_293.2.2.1 52 = .ok (.aload_n 0, 1) := dzq_42 (by decide +kernel)
theorem D_293_53 : decode J_293.2.2.1 53 = .ok (.getfield 182, 3) := dzq_180 (by decide +kernel)
theorem D_293_56 : decode J_293.2.2.1 56 = .ok (.iload_n 1, 1) := dzq_27 (by decide +kernel)
theorem D_293_57 : decode J_293.2.2.1 57 = .ok (.iaload, 1) := dzq_46 (by decide +kernel)
theorem D_293_58 : decode J_293.2.2.1 58 = .ok (.iadd, 1) := dzq_96 (by decide +kernel)
theorem D_293_59 : decode J_293.2.2.1 59 = .ok (.laload, 1) := dzq_47 (by decide +kernel)
theorem D_293_60 : decode J_293.2.2.1 60 = .ok (.aload_n 0, 1) := dzq_42 (by decide +kernel)
theorem D_293_61 : decode J_293.2.2.1 61 = .ok (.getfield 188, 3) := dzq_180 (by decide +kernel)
theorem D_293_64 : decode J_293.2.2.1 64 = .ok (.iload_n 1, 1) := dzq_27 (by decide +kernel)
theorem D_293_65 : decode J_293.2.2.1 65 = .ok (.iaload, 1) := dzq_46 (by decide +kernel)
theorem D_293_66 : decode J_293.2.2.1 66 = .ok (.invokevirtual 436, 3) := dzq_182 (by decide +kernel)
theorem D_293_69 : decode J_293.2.2.1 69 = .ok (.aload_n 0, 1) := dzq_42 (by decide +kernel)
theorem D_293_70 : decode J_293.2.2.1 70 = .ok (.iconst 3, 1) := dzq_6 (by decide +kernel)
theorem D_293_71 : decode J_293.2.2.1 71 = .ok (.putfield 440, 3) := dzq_181 (by decide +kernel)
theorem D_293_74 : decode J_293.2.2.1 74 = .ok (.return_, 1) := dzq_177 (by decide +kernel)
def P_293_0 (X : mjX) (d C S kc ks : Nat) (k : Nat → Int32 → mjH → mjU) : Prop := ∀ (l0 : Nat) (l1 : Int32) (hp : mjH) (q : Option Value × mjH), k l0 l1 hp = some q → mjG X d C S J_293 (mjEq q) 0 [some (.ref l0), some (.int l1)] [] hp kc ks
noncomputable def b_293_0 (R : mjR) (l0 : Nat) (l1 : Int32) (hp : mjH) : mjU := pI hp l0 12 76 l1 (fun hp1 => gR hp1 l0 12 57 (fun v2 => gI hp1 l0 12 63 (fun v3 => gR hp1 l0 12 73 (fun v4 => aI hp1 v4 l1 (fun v5 => gR hp1 l0 12 75 (fun v6 => aI hp1 v6 l1 (fun v7 => sI hp1 v2 (((5000 : Int32) * v3) + v5) v7 (fun hp8 => gR hp8 l0 12 74 (fun v9 => aI hp8 v9 l1 (fun v10 => gR hp8 l0 12 58 (fun v11 => gI hp8 l0 12 63 (fun v12 => gR hp8 l0 12 73 (fun v13 => aI hp8 v13 l1 (fun v14 => aL hp8 v11 (((5000 : Int32) * v12) + v14) (fun v15 => gR hp8 l0 12 75 (fun v16 => aI hp8 v16 l1 (fun v17 => rV hp8 l0 12 (bN (R 286 [.ref l0, .int (13 : Int32), .int v10, .long v15, .int v17] hp8) (fun  hp18 => pI hp18 l0 12 77 (3 : Int32) (fun hp19 => some (none, hp19)))))))))))))))))))))
theorem t_293_0 {X : mjX} {d C S kc ks : Nat} {R : mjR} (hR : mjC R d) (h1 : kc ≤ C) (h2 : ks ≤ S) : P_293_0 X (d + 1) C S kc ks (b_293_0 R) := by
  intro l0 l1 hp q h
  unfold b_293_0 at h
  refine mjr_aload_n (x := l0) D_293_0 rfl ?_
  refine mjr_iload_n (x := l1) D_293_1 rfl ?_
  refine mjq_pI D_293_2 fr_12_443 rfl rfl h (fun hp1 h => ?_)
  refine mjr_aload_n (x := l0) D_293_5 rfl ?_
  refine mjq_gR D_293_6 fr_12_157 h (fun v2 h => ?_)
  refine mjq_si (v := (5000 : Int32)) D_293_9 rfl ?_
  refine mjr_aload_n (x := l0) D_293_12 rfl ?_
  refine mjq_gI D_293_13 fr_12_356 h (fun v3 h => ?_)
  refine mjr_imul D_293_16 ?_
  refine mjr_aload_n (x := l0) D_293_17 rfl ?_
  refine mjq_gR D_293_18 fr_12_182 h (fun v4 h => ?_)
  refine mjr_iload_n (x := l1) D_293_21 rfl ?_
  refine mjq_aI D_293_22 h (fun v5 h => ?_)
  refine mjr_iadd D_293_23 ?_
  refine mjr_aload_n (x := l0) D_293_24 rfl ?_
  refine mjq_gR D_293_25 fr_12_188 h (fun v6 h => ?_)
  refine mjr_iload_n (x := l1) D_293_28 rfl ?_
  refine mjq_aI D_293_29 h (fun v7 h => ?_)
  refine mjq_sI D_293_30 h (fun hp8 h => ?_)
  refine mjr_aload_n (x := l0) D_293_31 rfl ?_
  refine mjq_bi (v := (13 : Int32)) D_293_32 rfl ?_
  refine mjr_aload_n (x := l0) D_293_34 rfl ?_
  refine mjq_gR D_293_35 fr_12_185 h (fun v9 h => ?_)
  refine mjr_iload_n (x := l1) D_293_38 rfl ?_
  refine mjq_aI D_293_39 h (fun v10 h => ?_)
  refine mjr_aload_n (x := l0) D_293_40 rfl ?_
  refine mjq_gR D_293_41 fr_12_160 h (fun v11 h => ?_)
  refine mjq_si (v := (5000 : Int32)) D_293_44 rfl ?_
  refine mjr_aload_n (x := l0) D_293_47 rfl ?_
  refine mjq_gI D_293_48 fr_12_356 h (fun v12 h => ?_)
  refine mjr_imul D_293_51 ?_
  refine mjr_aload_n (x := l0) D_293_52 rfl ?_
  refine mjq_gR D_293_53 fr_12_182 h (fun v13 h => ?_)
  refine mjr_iload_n (x := l1) D_293_56 rfl ?_
  refine mjq_aI D_293_57 h (fun v14 h => ?_)
  refine mjr_iadd D_293_58 ?_
  refine mjq_aL D_293_59 h (fun v15 h => ?_)
  refine mjr_aload_n (x := l0) D_293_60 rfl ?_
  refine mjq_gR D_293_61 fr_12_188 h (fun v16 h => ?_)
  refine mjr_iload_n (x := l1) D_293_64 rfl ?_
  refine mjq_aI D_293_65 h (fun v17 h => ?_)
  refine mjq_vN (As := [.int (13 : Int32), .int v10, .long v15, .int v17]) (rest := []) D_293_66 mr_12_436 V_286 rfl rfl rfl hR (Nat.le_refl _) h1 h2 h (fun  hp18 h => ?_)
  refine mjr_aload_n (x := l0) D_293_69 rfl ?_
  refine mjq_ic (v := (3 : Int32)) D_293_70 rfl ?_
  refine mjq_pI D_293_71 fr_12_440 rfl rfl h (fun hp19 h => ?_)
  exact mjq_nret D_293_74 rfl h1 h2 h
noncomputable def f_293 (R : mjR) (a0 : Nat) (a1 : Int32) (hp : mjH) : mjU := b_293_0 R a0 a1 hp
theorem c_293 {R : mjR} {d : Nat} (hR : mjC R d) {a0 : Nat} {a1 : Int32} {hp : mjH} {q : Option Value × mjH} (h : f_293 R a0 a1 hp = some q) : mjM (d + 1) 0 0 293 [.ref a0, .int a1] hp (mjEq q) :=
  mjM_of Ja_293 (Nat.le_of_ble_eq_true rfl) (mjG.fg (lo' := [some (.ref a0), some (.int a1)]) (And.intro rfl (And.intro rfl True.intro)) ((t_293_0 hR (Nat.le_refl 0) (Nat.le_refl 0)) a0 a1 hp q h))
def J_294 : mjI := (⟨"OwnerHeapModel", "beginArgument", "(I)Z"⟩, 12, prog_14_method_40_code, 2, (some .boolean), 1, false)
theorem Ja_294 : mjMt 294 = some J_294 := by rfl
theorem D_294_0 : decode J_294.2.2.1 0 = .ok (.aload_n 0, 1) := dzq_42 (by decide +kernel)
theorem D_294_1 : decode J_294.2.2.1 1 = .ok (.invokevirtual 454, 3) := dzq_182 (by decide +kernel)
theorem D_294_4 : decode J_294.2.2.1 4 = .ok (.ifCond .ne 10, 3) := dzq_154 (by decide +kernel)
theorem D_294_7 : decode J_294.2.2.1 7 = .ok (.aload_n 0, 1) := dzq_42 (by decide +kernel)
theorem D_294_8 : decode J_294.2.2.1 8 = .ok (.invokevirtual 347, 3) := dzq_182 (by decide +kernel)
theorem D_294_11 : decode J_294.2.2.1 11 = .ok (.goto 23, 3) := dzq_167 (by decide +kernel)
theorem D_294_14 : decode J_294.2.2.1 14 = .ok (.aload_n 0, 1) := dzq_42 (by decide +kernel)
theorem D_294_15 : decode J_294.2.2.1 15 = .ok (.getfield 188, 3) := dzq_180 (by decide +kernel)
theorem D_294_18 : decode J_294.2.2.1 18 = .ok (.iload_n 1, 1) := dzq_27 (by decide +kernel)
theorem D_294_19 : decode J_294.2.2.1 19 = .ok (.iaload, 1) := dzq_46 (by decide +kernel)
theorem D_294_20 : decode J_294.2.2.1 20 = .ok (.bipush 6, 2) := dzq_16 (by decide +kernel)
theorem D_294_22 : decode J_294.2.2.1 22 = .ok (.if_icmp .ne 12, 3) := dzq_160 (by decide +kernel)
theorem D_294_25 : decode J_294.2.2.1 25 = .ok (.aload_n 0, 1) := dzq_42 (by decide +kernel)
theorem D_294_26 : decode J_294.2.2.1 26 = .ok (.iconst 3, 1) := dzq_6 (by decide +kernel)
theorem D_294_27 : decode J_294.2.2.1 27 = .ok (.aload_n 0, 1) := dzq_42 (by decide +kernel)
theorem D_294_28 : decode J_294.2.2.1 28 = .ok (.getfield 310, 3) := dzq_180 (by decide +kernel)
theorem D_294_31 : decode J_294.2.2.1 31 = .ok (.invokevirtual 339, 3) := dzq_182 (by decide +kernel)
theorem D_294_34 : decode J_294.2.2.1 34 = .ok (.aload_n 0, 1) := dzq_42 (by decide +kernel)
theorem D_294_35 : decode J_294.2.2.1 35 = .ok (.getfield 188, 3) := dzq_180 (by decide +kernel)
theorem D_294_38 : decode J_294.2.2.1 38 = .ok (.iload_n 1, 1) := dzq_27 (by decide +kernel)
theorem D_294_39 : decode J_294.2.2.1 39 = .ok (.dup2, 1) := by decide +kernel
theorem D_294_40 : decode J_294.2.2.1 40 = .ok (.iaload, 1) := dzq_46 (by decide +kernel)
theorem D_294_41 : decode J_294.2.2.1 41 = .ok (.iconst 1, 1) := dzq_4 (by decide +kernel)
theorem D_294_42 : decode J_294.2.2.1 42 = .ok (.iadd, 1) := dzq_96 (by decide +kernel)
theorem D_294_43 : decode J_294.2.2.1 43 = .ok (.iastore, 1) := dzq_79 (by decide +kernel)
theorem D_294_44 : decode J_294.2.2.1 44 = .ok (.aload_n 0, 1) := dzq_42 (by decide +kernel)
theorem D_294_45 : decode J_294.2.2.1 45 = .ok (.getfield 272, 3) := dzq_180 (by decide +kernel)
theorem D_294_48 : decode J_294.2.2.1 48 = .ok (.iload_n 1, 1) := dzq_27 (by decide +kernel)
theorem D_294_49 : decode J_294.2.2.1 49 = .ok (.aload_n 0, 1) := dzq_42 (by decide +kernel)
theorem D_294_50 : decode J_294.2.2.1 50 = .ok (.getfield 310, 3) := dzq_180 (by decide +kernel)
theorem D_294_53 : decode J_294.2.2.1 53 = .ok (.iastore, 1) := dzq_79 (by decide +kernel)
theorem D_294_54 : decode J_294.2.2.1 54 = .ok (.iconst 1, 1) := dzq_4 (by decide +kernel)
theorem D_294_55 : decode J_294.2.2.1 55 = .ok (.ireturn, 1) := dzq_172 (by decide +kernel)
def P_294_34 (X : mjX) (d C S kc ks : Nat) (k : Nat → Int32 → mjH → mjU) : Prop := ∀ (l0 : Nat) (l1 : Int32) (hp : mjH) (q : Option Value × mjH), k l0 l1 hp = some q → mjG X d C S J_294 (mjEq q) 34 [some (.ref l0), some (.int l1)] [] hp kc ks
def P_294_0 (X : mjX) (d C S kc ks : Nat) (k : Nat → Int32 → mjH → mjU) : Prop := ∀ (l0 : Nat) (l1 : Int32) (hp : mjH) (q : Option Value × mjH), k l0 l1 hp = some q → mjG X d C S J_294 (mjEq q) 0 [some (.ref l0), some (.int l1)] [] hp kc ks
noncomputable def b_294_34 (R : mjR) (l0 : Nat) (l1 : Int32) (hp : mjH) : mjU := gR hp l0 12 75 (fun v1 => aI hp v1 l1 (fun v2 => sI hp v1 l1 (v2 + (1 : Int32)) (fun hp3 => gR hp3 l0 12 128 (fun v4 => gI hp3 l0 12 4 (fun v5 => sI hp3 v4 l1 v5 (fun hp6 => some (some (.int (1 : Int32)), hp6)))))))
theorem t_294_34 {X : mjX} {d C S kc ks : Nat} {R : mjR} (hR : mjC R d) (h1 : kc ≤ C) (h2 : ks ≤ S) : P_294_34 X (d + 1) C S kc ks (b_294_34 R) := by
  intro l0 l1 hp q h
  unfold b_294_34 at h
  refine mjr_aload_n (x := l0) D_294_34 rfl ?_
  refine mjq_gR D_294_35 fr_12_188 h (fun v1 h => ?_)
  refine mjr_iload_n (x := l1) D_294_38 rfl ?_
  refine mjr_dup2 D_294_39 rfl rfl ?_
  refine mjq_aI D_294_40 h (fun v2 h => ?_)
  refine mjq_ic (v := (1 : Int32)) D_294_41 rfl ?_
  refine mjr_iadd D_294_42 ?_
  refine mjq_sI D_294_43 h (fun hp3 h => ?_)
  refine mjr_aload_n (x := l0) D_294_44 rfl ?_
  refine mjq_gR D_294_45 fr_12_272 h (fun v4 h => ?_)
  refine mjr_iload_n (x := l1) D_294_48 rfl ?_
  refine mjr_aload_n (x := l0) D_294_49 rfl ?_
  refine mjq_gI D_294_50 fr_12_310 h (fun v5 h => ?_)
  refine mjq_sI D_294_53 h (fun hp6 h => ?_)
  refine mjq_ic (v := (1 : Int32)) D_294_54 rfl ?_
  exact mjr_ireturn D_294_55 rfl rfl h1 h2 (Option.some.inj h)
noncomputable def b_294_0 (R : mjR) (l0 : Nat) (l1 : Int32) (hp : mjH) : mjU := rV hp l0 12 (bI (R 290 [.ref l0] hp) (fun v1 hp2 => (if v1 = 0 then rV hp2 l0 12 (bN (R 269 [.ref l0] hp2) (fun  hp7 => b_294_34 R l0 l1 hp7)) else gR hp2 l0 12 75 (fun v3 => aI hp2 v3 l1 (fun v4 => (if v4 = (6 : Int32) then gI hp2 l0 12 4 (fun v5 => rV hp2 l0 12 (bN (R 268 [.ref l0, .int (3 : Int32), .int v5] hp2) (fun  hp6 => b_294_34 R l0 l1 hp6))) else b_294_34 R l0 l1 hp2))))))
theorem t_294_0 {X : mjX} {d C S kc ks : Nat} {R : mjR} (hR : mjC R d) (h1 : kc ≤ C) (h2 : ks ≤ S) : P_294_0 X (d + 1) C S kc ks (b_294_0 R) := by
  intro l0 l1 hp q h
  unfold b_294_0 at h
  refine mjr_aload_n (x := l0) D_294_0 rfl ?_
  refine mjq_vI (As := []) (rest := []) D_294_1 mr_12_454 V_290 rfl rfl rfl hR (Nat.le_refl _) h1 h2 h (fun v1 hp2 h => ?_)
  refine mjq_if_ne (tgt := 14) D_294_4 rfl h (fun h => ?_) (fun h => ?_)
  · refine mjr_aload_n (x := l0) D_294_14 rfl ?_
    refine mjq_gR D_294_15 fr_12_188 h (fun v3 h => ?_)
    refine mjr_iload_n (x := l1) D_294_18 rfl ?_
    refine mjq_aI D_294_19 h (fun v4 h => ?_)
    refine mjq_bi (v := (6 : Int32)) D_294_20 rfl ?_
    refine mjq_icmp_ne (tgt := 34) D_294_22 rfl h (fun h => ?_) (fun h => ?_)
    · exact (t_294_34 hR h1 h2) _ _ _ _ h
    · refine mjr_aload_n (x := l0) D_294_25 rfl ?_
      refine mjq_ic (v := (3 : Int32)) D_294_26 rfl ?_
      refine mjr_aload_n (x := l0) D_294_27 rfl ?_
      refine mjq_gI D_294_28 fr_12_310 h (fun v5 h => ?_)
      refine mjq_vN (As := [.int (3 : Int32), .int v5]) (rest := []) D_294_31 mr_12_339 V_268 rfl rfl rfl hR (Nat.le_refl _) h1 h2 h (fun  hp6 h => ?_)
      exact (t_294_34 hR h1 h2) _ _ _ _ h
  · refine mjr_aload_n (x := l0) D_294_7 rfl ?_
    refine mjq_vN (As := []) (rest := []) D_294_8 mr_12_347 V_269 rfl rfl rfl hR (Nat.le_refl _) h1 h2 h (fun  hp7 h => ?_)
    refine mjr_goto (tgt := 34) D_294_11 rfl ?_
    exact (t_294_34 hR h1 h2) _ _ _ _ h
noncomputable def f_294 (R : mjR) (a0 : Nat) (a1 : Int32) (hp : mjH) : mjU := b_294_0 R a0 a1 hp
theorem c_294 {R : mjR} {d : Nat} (hR : mjC R d) {a0 : Nat} {a1 : Int32} {hp : mjH} {q : Option Value × mjH} (h : f_294 R a0 a1 hp = some q) : mjM (d + 1) 0 0 294 [.ref a0, .int a1] hp (mjEq q) :=
  mjM_of Ja_294 (Nat.le_of_ble_eq_true rfl) (mjG.fg (lo' := [some (.ref a0), some (.int a1)]) (And.intro rfl (And.intro rfl True.intro)) ((t_294_0 hR (Nat.le_refl 0) (Nat.le_refl 0)) a0 a1 hp q h))
def J_295 : mjI := (⟨"OwnerHeapModel", "level", "()I"⟩, 12, prog_14_method_36_code, 1, (some .int), 0, false)
theorem Ja_295 : mjMt 295 = some J_295 := by rfl
theorem D_295_0 : decode J_295.2.2.1 0 = .ok (.aload_n 0, 1) := dzq_42 (by decide +kernel)
theorem D_295_1 : decode J_295.2.2.1 1 = .ok (.getfield 316, 3) := dzq_180 (by decide +kernel)
theorem D_295_4 : decode J_295.2.2.1 4 = .ok (.iconst 4, 1) := dzq_7 (by decide +kernel)
theorem D_295_5 : decode J_295.2.2.1 5 = .ok (.if_icmp .eq 5, 3) := dzq_159 (by decide +kernel)
theorem D_295_8 : decode J_295.2.2.1 8 = .ok (.iconst 0, 1) := dzq_3 (by decide +kernel)
theorem D_295_9 : decode J_295.2.2.1 9 = .ok (.ireturn, 1) := dzq_172 (by decide +kernel)
theorem D_295_10 : decode J_295.2.2.1 10 = .ok (.aload_n 0, 1) := dzq_42 (by decide +kernel)
theorem D_295_11 : decode J_295.2.2.1 11 = .ok (.getfield 319, 3) := dzq_180 (by decide +kernel)
theorem D_295_14 : decode J_295.2.2.1 14 = .ok (.lookupswitch 80 #[(37, 78), (42, 78), (43, 76), (45, 76), (47, 78), (60, 74), (257, 74), (258, 74)], 74) := by decide +kernel
theorem D_295_88 : decode J_295.2.2.1 88 = .ok (.iconst 1, 1) := dzq_4 (by decide +kernel)
theorem D_295_89 : decode J_295.2.2.1 89 = .ok (.ireturn, 1) := dzq_172 (by decide +kernel)
theorem D_295_90 : decode J_295.2.2.1 90 = .ok (.iconst 2, 1) := dzq_5 (by decide +kernel)
theorem D_295_91 : decode J_295.2.2.1 91 = .ok (.ireturn, 1) := dzq_172 (by decide +kernel)
theorem D_295_92 : decode J_295.2.2.1 92 = .ok (.iconst 3, 1) := dzq_6 (by decide +kernel)
theorem D_295_93 : decode J_295.2.2.1 93 = .ok (.ireturn, 1) := dzq_172 (by decide +kernel)
theorem D_295_94 : decode J_295.2.2.1 94 = .ok (.iconst 0, 1) := dzq_3 (by decide +kernel)
theorem D_295_95 : decode J_295.2.2.1 95 = .ok (.ireturn, 1) := dzq_172 (by decide +kernel)
def P_295_92 (X : mjX) (d C S kc ks : Nat) (k : mjH → mjU) : Prop := ∀  (hp : mjH) (q : Option Value × mjH), k  hp = some q → mjG X d C S J_295 (mjEq q) 92 [none] [] hp kc ks
def P_295_90 (X : mjX) (d C S kc ks : Nat) (k : mjH → mjU) : Prop := ∀  (hp : mjH) (q : Option Value × mjH), k  hp = some q → mjG X d C S J_295 (mjEq q) 90 [none] [] hp kc ks
def P_295_88 (X : mjX) (d C S kc ks : Nat) (k : mjH → mjU) : Prop := ∀  (hp : mjH) (q : Option Value × mjH), k  hp = some q → mjG X d C S J_295 (mjEq q) 88 [none] [] hp kc ks
def P_295_0 (X : mjX) (d C S kc ks : Nat) (k : Nat → mjH → mjU) : Prop := ∀ (l0 : Nat) (hp : mjH) (q : Option Value × mjH), k l0 hp = some q → mjG X d C S J_295 (mjEq q) 0 [some (.ref l0)] [] hp kc ks
noncomputable def b_295_92 (R : mjR)  (hp : mjH) : mjU := some (some (.int (3 : Int32)), hp)
theorem t_295_92 {X : mjX} {d C S kc ks : Nat} {R : mjR} (hR : mjC R d) (h1 : kc ≤ C) (h2 : ks ≤ S) : P_295_92 X (d + 1) C S kc ks (b_295_92 R) := by
  intro  hp q h
  unfold b_295_92 at h
  refine mjq_ic (v := (3 : Int32)) D_295_92 rfl ?_
  exact mjq_ret D_295_93 rfl h1 h2 h
noncomputable def b_295_90 (R : mjR)  (hp : mjH) : mjU := some (some (.int (2 : Int32)), hp)
theorem t_295_90 {X : mjX} {d C S kc ks : Nat} {R : mjR} (hR : mjC R d) (h1 : kc ≤ C) (h2 : ks ≤ S) : P_295_90 X (d + 1) C S kc ks (b_295_90 R) := by
  intro  hp q h
  unfold b_295_90 at h
  refine mjq_ic (v := (2 : Int32)) D_295_90 rfl ?_
  exact mjq_ret D_295_91 rfl h1 h2 h
noncomputable def b_295_88 (R : mjR)  (hp : mjH) : mjU := some (some (.int (1 : Int32)), hp)
theorem t_295_88 {X : mjX} {d C S kc ks : Nat} {R : mjR} (hR : mjC R d) (h1 : kc ≤ C) (h2 : ks ≤ S) : P_295_88 X (d + 1) C S kc ks (b_295_88 R) := by
  intro  hp q h
  unfold b_295_88 at h
  refine mjq_ic (v := (1 : Int32)) D_295_88 rfl ?_
  exact mjq_ret D_295_89 rfl h1 h2 h
noncomputable def b_295_0 (R : mjR) (l0 : Nat) (hp : mjH) : mjU := gI hp l0 12 3 (fun v1 => (if v1 = (4 : Int32) then gI hp l0 12 6 (fun v2 => (if v2 = (37 : Int32) then b_295_92 R hp else if v2 = (42 : Int32) then b_295_92 R hp else if v2 = (43 : Int32) then b_295_90 R hp else if v2 = (45 : Int32) then b_295_90 R hp else if v2 = (47 : Int32) then b_295_92 R hp else if v2 = (60 : Int32) then b_295_88 R hp else if v2 = (257 : Int32) then b_295_88 R hp else if v2 = (258 : Int32) then b_295_88 R hp else some (some (.int (0 : Int32)), hp))) else some (some (.int (0 : Int32)), hp)))
theorem t_295_0 {X : mjX} {d C S kc ks : Nat} {R : mjR} (hR : mjC R d) (h1 : kc ≤ C) (h2 : ks ≤ S) : P_295_0 X (d + 1) C S kc ks (b_295_0 R) := by
  intro l0 hp q h
  unfold b_295_0 at h
  refine mjr_aload_n (x := l0) D_295_0 rfl ?_
  refine mjq_gI D_295_1 fr_12_316 h (fun v1 h => ?_)
  refine mjq_ic (v := (4 : Int32)) D_295_4 rfl ?_
  refine mjq_icmp_eq (tgt := 10) D_295_5 rfl h (fun h => ?_) (fun h => ?_)
  · refine mjr_aload_n (x := l0) D_295_10 rfl ?_
    refine mjq_gI D_295_11 fr_12_319 h (fun v2 h => ?_)
    refine mjq_lsw (c := (37 : Int32)) (tgt := 92) D_295_14 rfl (by decide) h (fun h => ?_) (fun n3 h => ?_)
    · exact mjG.fg (lo' := [none]) True.intro ((t_295_92 hR h1 h2) _ _ h)
    refine mjq_lsw (c := (42 : Int32)) (tgt := 92) D_295_14 rfl (by decide) h (fun h => ?_) (fun n4 h => ?_)
    · exact mjG.fg (lo' := [none]) True.intro ((t_295_92 hR h1 h2) _ _ h)
    refine mjq_lsw (c := (43 : Int32)) (tgt := 90) D_295_14 rfl (by decide) h (fun h => ?_) (fun n5 h => ?_)
    · exact mjG.fg (lo' := [none]) True.intro ((t_295_90 hR h1 h2) _ _ h)
    refine mjq_lsw (c := (45 : Int32)) (tgt := 90) D_295_14 rfl (by decide) h (fun h => ?_) (fun n6 h => ?_)
    · exact mjG.fg (lo' := [none]) True.intro ((t_295_90 hR h1 h2) _ _ h)
    refine mjq_lsw (c := (47 : Int32)) (tgt := 92) D_295_14 rfl (by decide) h (fun h => ?_) (fun n7 h => ?_)
    · exact mjG.fg (lo' := [none]) True.intro ((t_295_92 hR h1 h2) _ _ h)
    refine mjq_lsw (c := (60 : Int32)) (tgt := 88) D_295_14 rfl (by decide) h (fun h => ?_) (fun n8 h => ?_)
    · exact mjG.fg (lo' := [none]) True.intro ((t_295_88 hR h1 h2) _ _ h)
    refine mjq_lsw (c := (257 : Int32)) (tgt := 88) D_295_14 rfl (by decide) h (fun h => ?_) (fun n9 h => ?_)
    · exact mjG.fg (lo' := [none]) True.intro ((t_295_88 hR h1 h2) _ _ h)
    refine mjq_lsw (c := (258 : Int32)) (tgt := 88) D_295_14 rfl (by decide) h (fun h => ?_) (fun n10 h => ?_)
    · exact mjG.fg (lo' := [none]) True.intro ((t_295_88 hR h1 h2) _ _ h)
    refine mjq_lswD (tgt := 94) [(37 : Int32), (42 : Int32), (43 : Int32), (45 : Int32), (47 : Int32), (60 : Int32), (257 : Int32), (258 : Int32)] D_295_14 rfl (by decide) (mj_all1 n3 (mj_all1 n4 (mj_all1 n5 (mj_all1 n6 (mj_all1 n7 (mj_all1 n8 (mj_all1 n9 (mj_all1 n10 mj_all0)))))))) rfl ?_
    refine mjq_ic (v := (0 : Int32)) D_295_94 rfl ?_
    exact mjq_ret D_295_95 rfl h1 h2 h
  · refine mjq_ic (v := (0 : Int32)) D_295_8 rfl ?_
    exact mjq_ret D_295_9 rfl h1 h2 h
noncomputable def f_295 (R : mjR) (a0 : Nat) (hp : mjH) : mjU := b_295_0 R a0 hp
theorem c_295 {R : mjR} {d : Nat} (hR : mjC R d) {a0 : Nat} {hp : mjH} {q : Option Value × mjH} (h : f_295 R a0 hp = some q) : mjM (d + 1) 0 0 295 [.ref a0] hp (mjEq q) :=
  mjM_of Ja_295 (Nat.le_of_ble_eq_true rfl) (mjG.fg (lo' := [some (.ref a0)]) (And.intro rfl True.intro) ((t_295_0 hR (Nat.le_refl 0) (Nat.le_refl 0)) a0 hp q h))
def J_296 : mjI := (⟨"OwnerHeapModel", "levelOf", "(I)I"⟩, 12, prog_14_method_37_code, 1, (some .int), 1, true)
theorem Ja_296 : mjMt 296 = some J_296 := by rfl
theorem D_296_0 : decode J_296.2.2.1 0 = .ok (.iload_n 0, 1) := dzq_26 (by decide +kernel)
theorem D_296_1 : decode J_296.2.2.1 1 = .ok (.bipush 43, 2) := dzq_16 (by decide +kernel)
theorem D_296_3 : decode J_296.2.2.1 3 = .ok (.if_icmp .eq 9, 3) := dzq_159 (by decide +kernel)
theorem D_296_6 : decode J_296.2.2.1 6 = .ok (.iload_n 0, 1) := dzq_26 (by decide +kernel)
theorem D_296_7 : decode J_296.2.2.1 7 = .ok (.bipush 45, 2) := dzq_16 (by decide +kernel)
theorem D_296_9 : decode J_296.2.2.1 9 = .ok (.if_icmp .ne 7, 3) := dzq_160 (by decide +kernel)
theorem D_296_12 : decode J_296.2.2.1 12 = .ok (.iconst 2, 1) := dzq_5 (by decide +kernel)
theorem D_296_13 : decode J_296.2.2.1 13 = .ok (.goto 26, 3) := dzq_167 (by decide +kernel)
theorem D_296_16 : decode J_296.2.2.1 16 = .ok (.iload_n 0, 1) := dzq_26 (by decide +kernel)
theorem D_296_17 : decode J_296.2.2.1 17 = .ok (.bipush 42, 2) := dzq_16 (by decide +kernel)
theorem D_296_19 : decode J_296.2.2.1 19 = .ok (.if_icmp .eq 15, 3) := dzq_159 (by decide +kernel)
theorem D_296_22 : decode J_296.2.2.1 22 = .ok (.iload_n 0, 1) := dzq_26 (by decide +kernel)
theorem D_296_23 : decode J_296.2.2.1 23 = .ok (.bipush 47, 2) := dzq_16 (by decide +kernel)
theorem D_296_25 : decode J_296.2.2.1 25 = .ok (.if_icmp .eq 9, 3) := dzq_159 (by decide +kernel)
theorem D_296_28 : decode J_296.2.2.1 28 = .ok (.iload_n 0, 1) := dzq_26 (by decide +kernel)
theorem D_296_29 : decode J_296.2.2.1 29 = .ok (.bipush 37, 2) := dzq_16 (by decide +kernel)
theorem D_296_31 : decode J_296.2.2.1 31 = .ok (.if_icmp .ne 7, 3) := dzq_160 (by decide +kernel)
theorem D_296_34 : decode J_296.2.2.1 34 = .ok (.iconst 3, 1) := dzq_6 (by decide +kernel)
theorem D_296_35 : decode J_296.2.2.1 35 = .ok (.goto 4, 3) := dzq_167 (by decide +kernel)
theorem D_296_38 : decode J_296.2.2.1 38 = .ok (.iconst 1, 1) := dzq_4 (by decide +kernel)
theorem D_296_39 : decode J_296.2.2.1 39 = .ok (.ireturn, 1) := dzq_172 (by decide +kernel)
def P_296_12 (X : mjX) (d C S kc ks : Nat) (k : mjH → mjU) : Prop := ∀  (hp : mjH) (q : Option Value × mjH), k  hp = some q → mjG X d C S J_296 (mjEq q) 12 [none] [] hp kc ks
def P_296_34 (X : mjX) (d C S kc ks : Nat) (k : mjH → mjU) : Prop := ∀  (hp : mjH) (q : Option Value × mjH), k  hp = some q → mjG X d C S J_296 (mjEq q) 34 [none] [] hp kc ks
def P_296_0 (X : mjX) (d C S kc ks : Nat) (k : Int32 → mjH → mjU) : Prop := ∀ (l0 : Int32) (hp : mjH) (q : Option Value × mjH), k l0 hp = some q → mjG X d C S J_296 (mjEq q) 0 [some (.int l0)] [] hp kc ks
noncomputable def b_296_12 (R : mjR)  (hp : mjH) : mjU := some (some (.int (2 : Int32)), hp)
theorem t_296_12 {X : mjX} {d C S kc ks : Nat} {R : mjR} (hR : mjC R d) (h1 : kc ≤ C) (h2 : ks ≤ S) : P_296_12 X (d + 1) C S kc ks (b_296_12 R) := by
  intro  hp q h
  unfold b_296_12 at h
  refine mjq_ic (v := (2 : Int32)) D_296_12 rfl ?_
  refine mjr_goto (tgt := 39) D_296_13 rfl ?_
  exact mjq_ret D_296_39 rfl h1 h2 h
noncomputable def b_296_34 (R : mjR)  (hp : mjH) : mjU := some (some (.int (3 : Int32)), hp)
theorem t_296_34 {X : mjX} {d C S kc ks : Nat} {R : mjR} (hR : mjC R d) (h1 : kc ≤ C) (h2 : ks ≤ S) : P_296_34 X (d + 1) C S kc ks (b_296_34 R) := by
  intro  hp q h
  unfold b_296_34 at h
  refine mjq_ic (v := (3 : Int32)) D_296_34 rfl ?_
  refine mjr_goto (tgt := 39) D_296_35 rfl ?_
  exact mjq_ret D_296_39 rfl h1 h2 h
noncomputable def b_296_0 (R : mjR) (l0 : Int32) (hp : mjH) : mjU := (if l0 = (43 : Int32) then b_296_12 R hp else (if l0 = (45 : Int32) then b_296_12 R hp else (if l0 = (42 : Int32) then b_296_34 R hp else (if l0 = (47 : Int32) then b_296_34 R hp else (if l0 = (37 : Int32) then b_296_34 R hp else some (some (.int (1 : Int32)), hp))))))
theorem t_296_0 {X : mjX} {d C S kc ks : Nat} {R : mjR} (hR : mjC R d) (h1 : kc ≤ C) (h2 : ks ≤ S) : P_296_0 X (d + 1) C S kc ks (b_296_0 R) := by
  intro l0 hp q h
  unfold b_296_0 at h
  refine mjr_iload_n (x := l0) D_296_0 rfl ?_
  refine mjq_bi (v := (43 : Int32)) D_296_1 rfl ?_
  refine mjq_icmp_eq (tgt := 12) D_296_3 rfl h (fun h => ?_) (fun h => ?_)
  · exact mjG.fg (lo' := [none]) True.intro ((t_296_12 hR h1 h2) _ _ h)
  · refine mjr_iload_n (x := l0) D_296_6 rfl ?_
    refine mjq_bi (v := (45 : Int32)) D_296_7 rfl ?_
    refine mjq_icmp_ne (tgt := 16) D_296_9 rfl h (fun h => ?_) (fun h => ?_)
    · refine mjr_iload_n (x := l0) D_296_16 rfl ?_
      refine mjq_bi (v := (42 : Int32)) D_296_17 rfl ?_
      refine mjq_icmp_eq (tgt := 34) D_296_19 rfl h (fun h => ?_) (fun h => ?_)
      · exact mjG.fg (lo' := [none]) True.intro ((t_296_34 hR h1 h2) _ _ h)
      · refine mjr_iload_n (x := l0) D_296_22 rfl ?_
        refine mjq_bi (v := (47 : Int32)) D_296_23 rfl ?_
        refine mjq_icmp_eq (tgt := 34) D_296_25 rfl h (fun h => ?_) (fun h => ?_)
        · exact mjG.fg (lo' := [none]) True.intro ((t_296_34 hR h1 h2) _ _ h)
        · refine mjr_iload_n (x := l0) D_296_28 rfl ?_
          refine mjq_bi (v := (37 : Int32)) D_296_29 rfl ?_
          refine mjq_icmp_ne (tgt := 38) D_296_31 rfl h (fun h => ?_) (fun h => ?_)
          · refine mjq_ic (v := (1 : Int32)) D_296_38 rfl ?_
            exact mjq_ret D_296_39 rfl h1 h2 h
          · exact mjG.fg (lo' := [none]) True.intro ((t_296_34 hR h1 h2) _ _ h)
    · exact mjG.fg (lo' := [none]) True.intro ((t_296_12 hR h1 h2) _ _ h)
noncomputable def f_296 (R : mjR) (a0 : Int32) (hp : mjH) : mjU := b_296_0 R a0 hp
theorem c_296 {R : mjR} {d : Nat} (hR : mjC R d) {a0 : Int32} {hp : mjH} {q : Option Value × mjH} (h : f_296 R a0 hp = some q) : mjM (d + 1) 0 0 296 [.int a0] hp (mjEq q) :=
  mjM_of Ja_296 (Nat.le_of_ble_eq_true rfl) (mjG.fg (lo' := [some (.int a0)]) (And.intro rfl True.intro) ((t_296_0 hR (Nat.le_refl 0) (Nat.le_refl 0)) a0 hp q h))
def J_297 : mjI := (⟨"OwnerHeapModel", "readEnd", "()Z"⟩, 12, prog_14_method_39_code, 2, (some .boolean), 0, false)
theorem Ja_297 : mjMt 297 = some J_297 := by rfl
theorem D_297_0 : decode J_297.2.2.1 0 = .ok (.aload_n 0, 1) := dzq_42 (by decide +kernel)
theorem D_297_1 : decode J_297.2.2.1 1 = .ok (.getfield 443, 3) := dzq_180 (by decide +kernel)
theorem D_297_4 : decode J_297.2.2.1 4 = .ok (.iconst 1, 1) := dzq_4 (by decide +kernel)
theorem D_297_5 : decode J_297.2.2.1 5 = .ok (.isub, 1) := dzq_100 (by decide +kernel)
theorem D_297_6 : decode J_297.2.2.1 6 = .ok (.istore_n 1, 1) := dzq_60 (by decide +kernel)
theorem D_297_7 : decode J_297.2.2.1 7 = .ok (.aload_n 0, 1) := dzq_42 (by decide +kernel)
theorem D_297_8 : decode J_297.2.2.1 8 = .ok (.getfield 179, 3) := dzq_180 (by decide +kernel)
theorem D_297_11 : decode J_297.2.2.1 11 = .ok (.iload_n 1, 1) := dzq_27 (by decide +kernel)
theorem D_297_12 : decode J_297.2.2.1 12 = .ok (.iaload, 1) := dzq_46 (by decide +kernel)
theorem D_297_13 : decode J_297.2.2.1 13 = .ok (.ifCond .ne 15, 3) := dzq_154 (by decide +kernel)
theorem D_297_16 : decode J_297.2.2.1 16 = .ok (.aload_n 0, 1) := dzq_42 (by decide +kernel)
theorem D_297_17 : decode J_297.2.2.1 17 = .ok (.dup, 1) := dzq_89 (by decide +kernel)
theorem D_297_18 : decode J_297.2.2.1 18 = .ok (.getfield 443, 3) := dzq_180 (by decide +kernel)
theorem D_297_21 : decode J_297.2.2.1 21 = .ok (.iconst 1, 1) := dzq_4 (by decide +kernel)
theorem D_297_22 : decode J_297.2.2.1 22 = .ok (.isub, 1) := dzq_100 (by decide +kernel)
theorem D_297_23 : decode J_297.2.2.1 23 = .ok (.putfield 443, 3) := dzq_181 (by decide +kernel)
theorem D_297_26 : decode J_297.2.2.1 26 = .ok (.iconst 0, 1) := dzq_3 (by decide +kernel)
theorem D_297_27 : decode J_297.2.2.1 27 = .ok (.ireturn, 1) := dzq_172 (by decide +kernel)
theorem D_297_28 : decode J_297.2.2.1 28 = .ok (.aload_n 0, 1) := dzq_42 (by decide +kernel)
theorem D_297_29 : decode J_297.2.2.1 29 = .ok (.getfield 179, 3) := dzq_180 (by decide +kernel)
theorem D_297_32 : decode J_297.2.2.1 32 = .ok (.iload_n 1, 1) := dzq_27 (by decide +kernel)
theorem D_297_33 : decode J_297.2.2.1 33 = .ok (.iaload, 1) := dzq_46 (by decide +kernel)
theorem D_297_34 : decode J_297.2.2.1 34 = .ok (.iconst 1, 1) := dzq_4 (by decide +kernel)
theorem D_297_35 : decode J_297.2.2.1 35 = .ok (.if_icmp .ne 35, 3) := dzq_160 (by decide +kernel)
theorem D_297_38 : decode J_297.2.2.1 38 = .ok (.aload_n 0, 1) := dzq_42 (by decide +kernel)
theorem D_297_39 : decode J_297.2.2.1 39 = .ok (.bipush 41, 2) := dzq_16 (by decide +kernel)
theorem D_297_41 : decode J_297.2.2.1 41 = .ok (.invokevirtual 397, 3) := dzq_182 (by decide +kernel)
theorem D_297_44 : decode J_297.2.2.1 44 = .ok (.aload_n 0, 1) := dzq_42 (by decide +kernel)
theorem D_297_45 : decode J_297.2.2.1 45 = .ok (.dup, 1) := dzq_89 (by decide +kernel)
theorem D_297_46 : decode J_297.2.2.1 46 = .ok (.getfield 443, 3) := dzq_180 (by decide +kernel)
theorem D_297_49 : decode J_297.2.2.1 49 = .ok (.iconst 1, 1) := dzq_4 (by decide +kernel)
theorem D_297_50 : decode J_297.2.2.1 50 = .ok (.isub, 1) := dzq_100 (by decide +kernel)
theorem D_297_51 : decode J_297.2.2.1 51 = .ok (.putfield 443, 3) := dzq_181 (by decide +kernel)
theorem D_297_54 : decode J_297.2.2.1 54 = .ok (.aload_n 0, 1) := dzq_42 (by decide +kernel)
theorem D_297_55 : decode J_297.2.2.1 55 = .ok (.iconst 0, 1) := dzq_3 (by decide +kernel)
theorem D_297_56 : decode J_297.2.2.1 56 = .ok (.putfield 440, 3) := dzq_181 (by decide +kernel)
theorem D_297_59 : decode J_297.2.2.1 59 = .ok (.aload_n 0, 1) := dzq_42 (by decide +kernel)
theorem D_297_60 : decode J_297.2.2.1 60 = .ok (.bipush 30, 2) := dzq_16 (by decide +kernel)
theorem D_297_62 : decode J_297.2.2.1 62 = .ok (.iconst (-1), 1) := dzq_2 (by decide +kernel)
theorem D_297_63 : decode J_297.2.2.1 63 = .ok (.iconst 0, 1) := dzq_3 (by decide +kernel)
theorem D_297_64 : decode J_297.2.2.1 64 = .ok (.iconst 0, 1) := dzq_3 (by decide +kernel)
theorem D_297_65 : decode J_297.2.2.1 65 = .ok (.invokevirtual 359, 3) := dzq_182 (by decide +kernel)
theorem D_297_68 : decode J_297.2.2.1 68 = .ok (.iconst 0, 1) := dzq_3 (by decide +kernel)
theorem D_297_69 : decode J_297.2.2.1 69 = .ok (.ireturn, 1) := dzq_172 (by decide +kernel)
theorem D_297_70 : decode J_297.2.2.1 70 = .ok (.aload_n 0, 1) := dzq_42 (by decide +kernel)
theorem D_297_71 : decode J_297.2.2.1 71 = .ok (.bipush 12, 2) := dzq_16 (by decide +kernel)
theorem D_297_73 : decode J_297.2.2.1 73 = .ok (.aload_n 0, 1) := dzq_42 (by decide +kernel)
theorem D_297_74 : decode J_297.2.2.1 74 = .ok (.getfield 272, 3) := dzq_180 (by decide +kernel)
theorem D_297_77 : decode J_297.2.2.1 77 = .ok (.iload_n 1, 1) := dzq_27 (by decide +kernel)
theorem D_297_78 : decode J_297.2.2.1 78 = .ok (.iaload, 1) := dzq_46 (by decide +kernel)
theorem D_297_79 : decode J_297.2.2.1 79 = .ok (.aload_n 0, 1) := dzq_42 (by decide +kernel)
theorem D_297_80 : decode J_297.2.2.1 80 = .ok (.getfield 188, 3) := dzq_180 (by decide +kernel)
theorem D_297_83 : decode J_297.2.2.1 83 = .ok (.iload_n 1, 1) := dzq_27 (by decide +kernel)
theorem D_297_84 : decode J_297.2.2.1 84 = .ok (.iaload, 1) := dzq_46 (by decide +kernel)
theorem D_297_85 : decode J_297.2.2.1 85 = .ok (.iconst 1, 1) := dzq_4 (by decide +kernel)
theorem D_297_86 : decode J_297.2.2.1 86 = .ok (.isub, 1) := dzq_100 (by decide +kernel)
theorem D_297_87 : decode J_297.2.2.1 87 = .ok (.iconst 0, 1) := dzq_3 (by decide +kernel)
theorem D_297_88 : decode J_297.2.2.1 88 = .ok (.invokevirtual 359, 3) := dzq_182 (by decide +kernel)
theorem D_297_91 : decode J_297.2.2.1 91 = .ok (.aload_n 0, 1) := dzq_42 (by decide +kernel)
theorem D_297_92 : decode J_297.2.2.1 92 = .ok (.bipush 44, 2) := dzq_16 (by decide +kernel)
theorem D_297_94 : decode J_297.2.2.1 94 = .ok (.invokevirtual 343, 3) := dzq_182 (by decide +kernel)
theorem D_297_97 : decode J_297.2.2.1 97 = .ok (.ifCond .eq 13, 3) := dzq_153 (by decide +kernel)
theorem D_297_100 : decode J_297.2.2.1 100 = .ok (.aload_n 0, 1) := dzq_42 (by decide +kernel)
theorem D_297_101 : decode J_297.2.2.1 101 = .ok (.invokevirtual 350, 3) := dzq_182 (by decide +kernel)
theorem D_297_104 : decode J_297.2.2.1 104 = .ok (.aload_n 0, 1) := dzq_42 (by decide +kernel)
theorem D_297_105 : decode J_297.2.2.1 105 = .ok (.iload_n 1, 1) := dzq_27 (by decide +kernel)
theorem D_297_106 : decode J_297.2.2.1 106 = .ok (.invokevirtual 475, 3) := dzq_182 (by decide +kernel)
theorem D_297_109 : decode J_297.2.2.1 109 = .ok (.ireturn, 1) := dzq_172 (by decide +kernel)
theorem D_297_110 : decode J_297.2.2.1 110 = .ok (.aload_n 0, 1) := dzq_42 (by decide +kernel)
theorem D_297_111 : decode J_297.2.2.1 111 = .ok (.bipush 41, 2) := dzq_16 (by decide +kernel)
theorem D_297_113 : decode J_297.2.2.1 113 = .ok (.invokevirtual 397, 3) := dzq_182 (by decide +kernel)
theorem D_297_116 : decode J_297.2.2.1 116 = .ok (.aload_n 0, 1) := dzq_42 (by decide +kernel)
theorem D_297_117 : decode J_297.2.2.1 117 = .ok (.getfield 333, 3) := dzq_180 (by decide +kernel)
theorem D_297_120 : decode J_297.2.2.1 120 = .ok (.ifCond .le 5, 3) := dzq_158 (by decide +kernel)
theorem D_297_123 : decode J_297.2.2.1 123 = .ok (.iconst 0, 1) := dzq_3 (by decide +kernel)
theorem D_297_124 : decode J_297.2.2.1 124 = .ok (.ireturn, 1) := dzq_172 (by decide +kernel)
theorem D_297_125 : decode J_297.2.2.1 125 = .ok (.aload_n 0, 1) := dzq_42 (by decide +kernel)
theorem D_297_126 : decode J_297.2.2.1 126 = .ok (.iload_n 1, 1) := dzq_27 (by decide +kernel)
theorem D_297_127 : decode J_297.2.2.1 127 = .ok (.invokevirtual 478, 3) := dzq_182 (by decide +kernel)
theorem D_297_130 : decode J_297.2.2.1 130 = .ok (.iconst 0, 1) := dzq_3 (by decide +kernel)
theorem D_297_131 : decode J_297.2.2.1 131 = .ok (.ireturn, 1) := dzq_172 (by decide +kernel)
def P_297_0 (X : mjX) (d C S kc ks : Nat) (k : Nat → mjH → mjU) : Prop := ∀ (l0 : Nat) (hp : mjH) (q : Option Value × mjH), k l0 hp = some q → mjG X d C S J_297 (mjEq q) 0 [some (.ref l0), none] [] hp kc ks
noncomputable def b_297_0 (R : mjR) (l0 : Nat) (hp : mjH) : mjU := gI hp l0 12 76 (fun v1 => gR hp l0 12 72 (fun v2 => aI hp v2 (v1 - (1 : Int32)) (fun v3 => (if v3 = 0 then gI hp l0 12 76 (fun v24 => pI hp l0 12 76 (v24 - (1 : Int32)) (fun hp25 => some (some (.int (0 : Int32)), hp25))) else gR hp l0 12 72 (fun v4 => aI hp v4 (v1 - (1 : Int32)) (fun v5 => (if v5 = (1 : Int32) then rV hp l0 12 (bN (R 278 [.ref l0, .int (41 : Int32)] hp) (fun  hp19 => gI hp19 l0 12 76 (fun v20 => pI hp19 l0 12 76 (v20 - (1 : Int32)) (fun hp21 => pI hp21 l0 12 77 (0 : Int32) (fun hp22 => rV hp22 l0 12 (bN (R 281 [.ref l0, .int (30 : Int32), .int (-1 : Int32), .int (0 : Int32), .int (0 : Int32)] hp22) (fun  hp23 => some (some (.int (0 : Int32)), hp23)))))))) else gR hp l0 12 128 (fun v6 => aI hp v6 (v1 - (1 : Int32)) (fun v7 => gR hp l0 12 75 (fun v8 => aI hp v8 (v1 - (1 : Int32)) (fun v9 => rV hp l0 12 (bN (R 281 [.ref l0, .int (12 : Int32), .int v7, .int (v9 - (1 : Int32)), .int (0 : Int32)] hp) (fun  hp10 => rV hp10 l0 12 (bI (R 271 [.ref l0, .int (44 : Int32)] hp10) (fun v11 hp12 => (if v11 = 0 then rV hp12 l0 12 (bN (R 278 [.ref l0, .int (41 : Int32)] hp12) (fun  hp13 => gI hp13 l0 12 61 (fun v14 => (if v14 ≤ 0 then rV hp13 l0 12 (bN (R 293 [.ref l0, .int (v1 - (1 : Int32))] hp13) (fun  hp15 => some (some (.int (0 : Int32)), hp15))) else some (some (.int (0 : Int32)), hp13))))) else rV hp12 l0 12 (bN (R 262 [.ref l0] hp12) (fun  hp16 => rV hp16 l0 12 (bI (R 294 [.ref l0, .int (v1 - (1 : Int32))] hp16) (fun v17 hp18 => (if narrow .boolean (.int v17) = .int v17 then some (some (.int v17), hp18) else none)))))))))))))))))))))
theorem t_297_0 {X : mjX} {d C S kc ks : Nat} {R : mjR} (hR : mjC R d) (h1 : kc ≤ C) (h2 : ks ≤ S) : P_297_0 X (d + 1) C S kc ks (b_297_0 R) := by
  intro l0 hp q h
  unfold b_297_0 at h
  refine mjr_aload_n (x := l0) D_297_0 rfl ?_
  refine mjq_gI D_297_1 fr_12_443 h (fun v1 h => ?_)
  refine mjq_ic (v := (1 : Int32)) D_297_4 rfl ?_
  refine mjr_isub D_297_5 ?_
  refine mjq_istore_n (lo' := [some (.ref l0), some (.int (v1 - (1 : Int32)))]) D_297_6 (Nat.le_of_ble_eq_true rfl) rfl ?_
  refine mjr_aload_n (x := l0) D_297_7 rfl ?_
  refine mjq_gR D_297_8 fr_12_179 h (fun v2 h => ?_)
  refine mjr_iload_n (x := (v1 - (1 : Int32))) D_297_11 rfl ?_
  refine mjq_aI D_297_12 h (fun v3 h => ?_)
  refine mjq_if_ne (tgt := 28) D_297_13 rfl h (fun h => ?_) (fun h => ?_)
  · refine mjr_aload_n (x := l0) D_297_28 rfl ?_
    refine mjq_gR D_297_29 fr_12_179 h (fun v4 h => ?_)
    refine mjr_iload_n (x := (v1 - (1 : Int32))) D_297_32 rfl ?_
    refine mjq_aI D_297_33 h (fun v5 h => ?_)
    refine mjq_ic (v := (1 : Int32)) D_297_34 rfl ?_
    refine mjq_icmp_ne (tgt := 70) D_297_35 rfl h (fun h => ?_) (fun h => ?_)
    · refine mjr_aload_n (x := l0) D_297_70 rfl ?_
      refine mjq_bi (v := (12 : Int32)) D_297_71 rfl ?_
      refine mjr_aload_n (x := l0) D_297_73 rfl ?_
      refine mjq_gR D_297_74 fr_12_272 h (fun v6 h => ?_)
      refine mjr_iload_n (x := (v1 - (1 : Int32))) D_297_77 rfl ?_
      refine mjq_aI D_297_78 h (fun v7 h => ?_)
      refine mjr_aload_n (x := l0) D_297_79 rfl ?_
      refine mjq_gR D_297_80 fr_12_188 h (fun v8 h => ?_)
      refine mjr_iload_n (x := (v1 - (1 : Int32))) D_297_83 rfl ?_
      refine mjq_aI D_297_84 h (fun v9 h => ?_)
      refine mjq_ic (v := (1 : Int32)) D_297_85 rfl ?_
      refine mjr_isub D_297_86 ?_
      refine mjq_ic (v := (0 : Int32)) D_297_87 rfl ?_
      refine mjq_vN (As := [.int (12 : Int32), .int v7, .int (v9 - (1 : Int32)), .int (0 : Int32)]) (rest := []) D_297_88 mr_12_359 V_281 rfl rfl rfl hR (Nat.le_refl _) h1 h2 h (fun  hp10 h => ?_)
      refine mjr_aload_n (x := l0) D_297_91 rfl ?_
      refine mjq_bi (v := (44 : Int32)) D_297_92 rfl ?_
      refine mjq_vI (As := [.int (44 : Int32)]) (rest := []) D_297_94 mr_12_343 V_271 rfl rfl rfl hR (Nat.le_refl _) h1 h2 h (fun v11 hp12 h => ?_)
      refine mjq_if_eq (tgt := 110) D_297_97 rfl h (fun h => ?_) (fun h => ?_)
      · refine mjr_aload_n (x := l0) D_297_110 rfl ?_
        refine mjq_bi (v := (41 : Int32)) D_297_111 rfl ?_
        refine mjq_vN (As := [.int (41 : Int32)]) (rest := []) D_297_113 mr_12_397 V_278 rfl rfl rfl hR (Nat.le_refl _) h1 h2 h (fun  hp13 h => ?_)
        refine mjr_aload_n (x := l0) D_297_116 rfl ?_
        refine mjq_gI D_297_117 fr_12_333 h (fun v14 h => ?_)
        refine mjq_if_le (tgt := 125) D_297_120 rfl h (fun h => ?_) (fun h => ?_)
        · refine mjr_aload_n (x := l0) D_297_125 rfl ?_
          refine mjr_iload_n (x := (v1 - (1 : Int32))) D_297_126 rfl ?_
          refine mjq_vN (As := [.int (v1 - (1 : Int32))]) (rest := []) D_297_127 mr_12_478 V_293 rfl rfl rfl hR (Nat.le_refl _) h1 h2 h (fun  hp15 h => ?_)
          refine mjq_ic (v := (0 : Int32)) D_297_130 rfl ?_
          exact mjr_ireturn D_297_131 rfl rfl h1 h2 (Option.some.inj h)
        · refine mjq_ic (v := (0 : Int32)) D_297_123 rfl ?_
          exact mjr_ireturn D_297_124 rfl rfl h1 h2 (Option.some.inj h)
      · refine mjr_aload_n (x := l0) D_297_100 rfl ?_
        refine mjq_vN (As := []) (rest := []) D_297_101 mr_12_350 V_262 rfl rfl rfl hR (Nat.le_refl _) h1 h2 h (fun  hp16 h => ?_)
        refine mjr_aload_n (x := l0) D_297_104 rfl ?_
        refine mjr_iload_n (x := (v1 - (1 : Int32))) D_297_105 rfl ?_
        refine mjq_vI (As := [.int (v1 - (1 : Int32))]) (rest := []) D_297_106 mr_12_475 V_294 rfl rfl rfl hR (Nat.le_refl _) h1 h2 h (fun v17 hp18 h => ?_)
        exact mjq_retZ (ty := .boolean) D_297_109 rfl h1 h2 h
    · refine mjr_aload_n (x := l0) D_297_38 rfl ?_
      refine mjq_bi (v := (41 : Int32)) D_297_39 rfl ?_
      refine mjq_vN (As := [.int (41 : Int32)]) (rest := []) D_297_41 mr_12_397 V_278 rfl rfl rfl hR (Nat.le_refl _) h1 h2 h (fun  hp19 h => ?_)
      refine mjr_aload_n (x := l0) D_297_44 rfl ?_
      refine mjr_dup D_297_45 rfl ?_
      refine mjq_gI D_297_46 fr_12_443 h (fun v20 h => ?_)
      refine mjq_ic (v := (1 : Int32)) D_297_49 rfl ?_
      refine mjr_isub D_297_50 ?_
      refine mjq_pI D_297_51 fr_12_443 rfl rfl h (fun hp21 h => ?_)
      refine mjr_aload_n (x := l0) D_297_54 rfl ?_
      refine mjq_ic (v := (0 : Int32)) D_297_55 rfl ?_
      refine mjq_pI D_297_56 fr_12_440 rfl rfl h (fun hp22 h => ?_)
      refine mjr_aload_n (x := l0) D_297_59 rfl ?_
      refine mjq_bi (v := (30 : Int32)) D_297_60 rfl ?_
      refine mjq_ic (v := (-1 : Int32)) D_297_62 rfl ?_
      refine mjq_ic (v := (0 : Int32)) D_297_63 rfl ?_
      refine mjq_ic (v := (0 : Int32)) D_297_64 rfl ?_
      refine mjq_vN (As := [.int (30 : Int32), .int (-1 : Int32), .int (0 : Int32), .int (0 : Int32)]) (rest := []) D_297_65 mr_12_359 V_281 rfl rfl rfl hR (Nat.le_refl _) h1 h2 h (fun  hp23 h => ?_)
      refine mjq_ic (v := (0 : Int32)) D_297_68 rfl ?_
      exact mjr_ireturn D_297_69 rfl rfl h1 h2 (Option.some.inj h)
  · refine mjr_aload_n (x := l0) D_297_16 rfl ?_
    refine mjr_dup D_297_17 rfl ?_
    refine mjq_gI D_297_18 fr_12_443 h (fun v24 h => ?_)
    refine mjq_ic (v := (1 : Int32)) D_297_21 rfl ?_
    refine mjr_isub D_297_22 ?_
    refine mjq_pI D_297_23 fr_12_443 rfl rfl h (fun hp25 h => ?_)
    refine mjq_ic (v := (0 : Int32)) D_297_26 rfl ?_
    exact mjr_ireturn D_297_27 rfl rfl h1 h2 (Option.some.inj h)
noncomputable def f_297 (R : mjR) (a0 : Nat) (hp : mjH) : mjU := b_297_0 R a0 hp
theorem c_297 {R : mjR} {d : Nat} (hR : mjC R d) {a0 : Nat} {hp : mjH} {q : Option Value × mjH} (h : f_297 R a0 hp = some q) : mjM (d + 1) 0 0 297 [.ref a0] hp (mjEq q) :=
  mjM_of Ja_297 (Nat.le_of_ble_eq_true rfl) (mjG.fg (lo' := [some (.ref a0), none]) (And.intro rfl True.intro) ((t_297_0 hR (Nat.le_refl 0) (Nat.le_refl 0)) a0 hp q h))
def J_298 : mjI := (⟨"OwnerHeapModel", "readUse", "(I)V"⟩, 12, prog_14_method_31_code, 7, none, 1, false)
theorem Ja_298 : mjMt 298 = some J_298 := by rfl
theorem D_298_0 : decode J_298.2.2.1 0 = .ok (.aload_n 0, 1) := dzq_42 (by decide +kernel)
theorem D_298_1 : decode J_298.2.2.1 1 = .ok (.iconst 1, 1) := dzq_4 (by decide +kernel)
theorem D_298_2 : decode J_298.2.2.1 2 = .ok (.iload_n 1, 1) := dzq_27 (by decide +kernel)
theorem D_298_3 : decode J_298.2.2.1 3 = .ok (.iconst 0, 1) := dzq_3 (by decide +kernel)
theorem D_298_4 : decode J_298.2.2.1 4 = .ok (.iconst 0, 1) := dzq_3 (by decide +kernel)
theorem D_298_5 : decode J_298.2.2.1 5 = .ok (.invokevirtual 359, 3) := dzq_182 (by decide +kernel)
theorem D_298_8 : decode J_298.2.2.1 8 = .ok (.aload_n 0, 1) := dzq_42 (by decide +kernel)
theorem D_298_9 : decode J_298.2.2.1 9 = .ok (.invokevirtual 430, 3) := dzq_182 (by decide +kernel)
theorem D_298_12 : decode J_298.2.2.1 12 = .ok (.aload_n 0, 1) := dzq_42 (by decide +kernel)
theorem D_298_13 : decode J_298.2.2.1 13 = .ok (.getfield 333, 3) := dzq_180 (by decide +kernel)
theorem D_298_16 : decode J_298.2.2.1 16 = .ok (.ifCond .le 4, 3) := dzq_158 (by decide +kernel)
theorem D_298_19 : decode J_298.2.2.1 19 = .ok (.return_, 1) := dzq_177 (by decide +kernel)
theorem D_298_20 : decode J_298.2.2.1 20 = .ok (.aload_n 0, 1) := dzq_42 (by decide +kernel)
theorem D_298_21 : decode J_298.2.2.1 21 = .ok (.getfield 440, 3) := dzq_180 (by decide +kernel)
theorem D_298_24 : decode J_298.2.2.1 24 = .ok (.istore_n 2, 1) := dzq_61 (by decide +kernel)
theorem D_298_25 : decode J_298.2.2.1 25 = .ok (.sipush 5000, 3) := dzq_17 (by decide +kernel)
theorem D_298_28 : decode J_298.2.2.1 28 = .ok (.aload_n 0, 1) := dzq_42 (by decide +kernel)
theorem D_298_29 : decode J_298.2.2.1 29 = .ok (.getfield 356, 3) := dzq_180 (by decide +kernel)
theorem D_298_32 : decode J_298.2.2.1 32 = .ok (.imul, 1) := dzq_104 (by decide +kernel)
theorem D_298_33 : decode J_298.2.2.1 33 = .ok (.aload_n 0, 1) := dzq_42 (by decide +kernel)
theorem D_298_34 : decode J_298.2.2.1 34 = .ok (.getfield 85, 3) := dzq_180 (by decide +kernel)
theorem D_298_37 : decode J_298.2.2.1 37 = .ok (.aload_n 0, 1) := dzq_42 (by decide +kernel)
theorem D_298_38 : decode J_298.2.2.1 38 = .ok (.getfield 356, 3) := dzq_180 (by decide +kernel)
theorem D_298_41 : decode J_298.2.2.1 41 = .ok (.iaload, 1) := dzq_46 (by decide +kernel)
theorem D_298_42 : decode J_298.2.2.1 42 = .ok (.iadd, 1) := dzq_96 (by decide +kernel)
theorem D_298_43 : decode J_298.2.2.1 43 = .ok (.iconst 1, 1) := dzq_4 (by decide +kernel)
theorem D_298_44 : decode J_298.2.2.1 44 = .ok (.isub, 1) := dzq_100 (by decide +kernel)
theorem D_298_45 : decode J_298.2.2.1 45 = .ok (.istore_n 3, 1) := dzq_62 (by decide +kernel)
theorem D_298_46 : decode J_298.2.2.1 46 = .ok (.aload_n 0, 1) := dzq_42 (by decide +kernel)
theorem D_298_47 : decode J_298.2.2.1 47 = .ok (.bipush 61, 2) := dzq_16 (by decide +kernel)
theorem D_298_49 : decode J_298.2.2.1 49 = .ok (.invokevirtual 343, 3) := dzq_182 (by decide +kernel)
theorem D_298_52 : decode J_298.2.2.1 52 = .ok (.ifCond .eq 104, 3) := dzq_153 (by decide +kernel)
theorem D_298_55 : decode J_298.2.2.1 55 = .ok (.iload_n 2, 1) := dzq_28 (by decide +kernel)
theorem D_298_56 : decode J_298.2.2.1 56 = .ok (.iconst 1, 1) := dzq_4 (by decide +kernel)
theorem D_298_57 : decode J_298.2.2.1 57 = .ok (.if_icmp .eq 8, 3) := dzq_159 (by decide +kernel)
theorem D_298_60 : decode J_298.2.2.1 60 = .ok (.iload_n 2, 1) := dzq_28 (by decide +kernel)
theorem D_298_61 : decode J_298.2.2.1 61 = .ok (.iconst 2, 1) := dzq_5 (by decide +kernel)
theorem D_298_62 : decode J_298.2.2.1 62 = .ok (.if_icmp .ne 94, 3) := dzq_160 (by decide +kernel)
theorem D_298_65 : decode J_298.2.2.1 65 = .ok (.aload_n 0, 1) := dzq_42 (by decide +kernel)
theorem D_298_66 : decode J_298.2.2.1 66 = .ok (.getfield 310, 3) := dzq_180 (by decide +kernel)
theorem D_298_69 : decode J_298.2.2.1 69 = .ok (.istore 4, 2) := dzq_54 (by decide +kernel)
theorem D_298_71 : decode J_298.2.2.1 71 = .ok (.aload_n 0, 1) := dzq_42 (by decide +kernel)
theorem D_298_72 : decode J_298.2.2.1 72 = .ok (.getfield 148, 3) := dzq_180 (by decide +kernel)
theorem D_298_75 : decode J_298.2.2.1 75 = .ok (.iload_n 3, 1) := dzq_29 (by decide +kernel)
theorem D_298_76 : decode J_298.2.2.1 76 = .ok (.iload_n 2, 1) := dzq_28 (by decide +kernel)
theorem D_298_77 : decode J_298.2.2.1 77 = .ok (.iconst 1, 1) := dzq_4 (by decide +kernel)
theorem D_298_78 : decode J_298.2.2.1 78 = .ok (.if_icmp .ne 8, 3) := dzq_160 (by decide +kernel)
theorem D_298_81 : decode J_298.2.2.1 81 = .ok (.bipush 15, 2) := dzq_16 (by decide +kernel)
theorem D_298_83 : decode J_298.2.2.1 83 = .ok (.goto 5, 3) := dzq_167 (by decide +kernel)
theorem D_298_86 : decode J_298.2.2.1 86 = .ok (.bipush 16, 2) := dzq_16 (by decide +kernel)
theorem D_298_88 : decode J_298.2.2.1 88 = .ok (.iastore, 1) := dzq_79 (by decide +kernel)
theorem D_298_89 : decode J_298.2.2.1 89 = .ok (.aload_n 0, 1) := dzq_42 (by decide +kernel)
theorem D_298_90 : decode J_298.2.2.1 90 = .ok (.getfield 151, 3) := dzq_180 (by decide +kernel)
theorem D_298_93 : decode J_298.2.2.1 93 = .ok (.iload_n 3, 1) := dzq_29 (by decide +kernel)
theorem D_298_94 : decode J_298.2.2.1 94 = .ok (.iaload, 1) := dzq_46 (by decide +kernel)
theorem D_298_95 : decode J_298.2.2.1 95 = .ok (.istore 5, 2) := dzq_54 (by decide +kernel)
theorem D_298_97 : decode J_298.2.2.1 97 = .ok (.aload_n 0, 1) := dzq_42 (by decide +kernel)
theorem D_298_98 : decode J_298.2.2.1 98 = .ok (.getfield 85, 3) := dzq_180 (by decide +kernel)
theorem D_298_101 : decode J_298.2.2.1 101 = .ok (.aload_n 0, 1) := dzq_42 (by decide +kernel)
theorem D_298_102 : decode J_298.2.2.1 102 = .ok (.getfield 356, 3) := dzq_180 (by decide +kernel)
theorem D_298_105 : decode J_298.2.2.1 105 = .ok (.iaload, 1) := dzq_46 (by decide +kernel)
theorem D_298_106 : decode J_298.2.2.1 106 = .ok (.iconst 1, 1) := dzq_4 (by decide +kernel)
theorem D_298_107 : decode J_298.2.2.1 107 = .ok (.isub, 1) := dzq_100 (by decide +kernel)
theorem D_298_108 : decode J_298.2.2.1 108 = .ok (.istore 6, 2) := dzq_54 (by decide +kernel)
theorem D_298_110 : decode J_298.2.2.1 110 = .ok (.aload_n 0, 1) := dzq_42 (by decide +kernel)
theorem D_298_111 : decode J_298.2.2.1 111 = .ok (.invokevirtual 350, 3) := dzq_182 (by decide +kernel)
theorem D_298_114 : decode J_298.2.2.1 114 = .ok (.aload_n 0, 1) := dzq_42 (by decide +kernel)
theorem D_298_115 : decode J_298.2.2.1 115 = .ok (.invokevirtual 430, 3) := dzq_182 (by decide +kernel)
theorem D_298_118 : decode J_298.2.2.1 118 = .ok (.aload_n 0, 1) := dzq_42 (by decide +kernel)
theorem D_298_119 : decode J_298.2.2.1 119 = .ok (.getfield 333, 3) := dzq_180 (by decide +kernel)
theorem D_298_122 : decode J_298.2.2.1 122 = .ok (.ifCond .ne 9, 3) := dzq_154 (by decide +kernel)
theorem D_298_125 : decode J_298.2.2.1 125 = .ok (.aload_n 0, 1) := dzq_42 (by decide +kernel)
theorem D_298_126 : decode J_298.2.2.1 126 = .ok (.bipush 59, 2) := dzq_16 (by decide +kernel)
theorem D_298_128 : decode J_298.2.2.1 128 = .ok (.invokevirtual 381, 3) := dzq_182 (by decide +kernel)
theorem D_298_131 : decode J_298.2.2.1 131 = .ok (.aload_n 0, 1) := dzq_42 (by decide +kernel)
theorem D_298_132 : decode J_298.2.2.1 132 = .ok (.iload_n 2, 1) := dzq_28 (by decide +kernel)
theorem D_298_133 : decode J_298.2.2.1 133 = .ok (.iconst 1, 1) := dzq_4 (by decide +kernel)
theorem D_298_134 : decode J_298.2.2.1 134 = .ok (.if_icmp .ne 8, 3) := dzq_160 (by decide +kernel)
theorem D_298_137 : decode J_298.2.2.1 137 = .ok (.bipush 17, 2) := dzq_16 (by decide +kernel)
theorem D_298_139 : decode J_298.2.2.1 139 = .ok (.goto 5, 3) := dzq_167 (by decide +kernel)
theorem D_298_142 : decode J_298.2.2.1 142 = .ok (.bipush 18, 2) := dzq_16 (by decide +kernel)
theorem D_298_144 : decode J_298.2.2.1 144 = .ok (.iload 4, 2) := dzq_21 (by decide +kernel)
theorem D_298_146 : decode J_298.2.2.1 146 = .ok (.iload 6, 2) := dzq_21 (by decide +kernel)
theorem D_298_148 : decode J_298.2.2.1 148 = .ok (.iload 5, 2) := dzq_21 (by decide +kernel)
theorem D_298_150 : decode J_298.2.2.1 150 = .ok (.invokevirtual 359, 3) := dzq_182 (by decide +kernel)
theorem D_298_153 : decode J_298.2.2.1 153 = .ok (.goto 37, 3) := dzq_167 (by decide +kernel)
theorem D_298_156 : decode J_298.2.2.1 156 = .ok (.aload_n 0, 1) := dzq_42 (by decide +kernel)
theorem D_298_157 : decode J_298.2.2.1 157 = .ok (.bipush 59, 2) := dzq_16 (by decide +kernel)
theorem D_298_159 : decode J_298.2.2.1 159 = .ok (.invokevirtual 343, 3) := dzq_182 (by decide +kernel)
theorem D_298_162 : decode J_298.2.2.1 162 = .ok (.ifCond .eq 24, 3) := dzq_153 (by decide +kernel)
theorem D_298_165 : decode J_298.2.2.1 165 = .ok (.iload_n 2, 1) := dzq_28 (by decide +kernel)
theorem D_298_166 : decode J_298.2.2.1 166 = .ok (.iconst 3, 1) := dzq_6 (by decide +kernel)
theorem D_298_167 : decode J_298.2.2.1 167 = .ok (.if_icmp .ne 19, 3) := dzq_160 (by decide +kernel)
theorem D_298_170 : decode J_298.2.2.1 170 = .ok (.aload_n 0, 1) := dzq_42 (by decide +kernel)
theorem D_298_171 : decode J_298.2.2.1 171 = .ok (.invokevirtual 350, 3) := dzq_182 (by decide +kernel)
theorem D_298_174 : decode J_298.2.2.1 174 = .ok (.aload_n 0, 1) := dzq_42 (by decide +kernel)
theorem D_298_175 : decode J_298.2.2.1 175 = .ok (.bipush 25, 2) := dzq_16 (by decide +kernel)
theorem D_298_177 : decode J_298.2.2.1 177 = .ok (.iload_n 1, 1) := dzq_27 (by decide +kernel)
theorem D_298_178 : decode J_298.2.2.1 178 = .ok (.iconst 0, 1) := dzq_3 (by decide +kernel)
theorem D_298_179 : decode J_298.2.2.1 179 = .ok (.iconst 0, 1) := dzq_3 (by decide +kernel)
theorem D_298_180 : decode J_298.2.2.1 180 = .ok (.invokevirtual 359, 3) := dzq_182 (by decide +kernel)
theorem D_298_183 : decode J_298.2.2.1 183 = .ok (.goto 7, 3) := dzq_167 (by decide +kernel)
theorem D_298_186 : decode J_298.2.2.1 186 = .ok (.aload_n 0, 1) := dzq_42 (by decide +kernel)
theorem D_298_187 : decode J_298.2.2.1 187 = .ok (.invokevirtual 347, 3) := dzq_182 (by decide +kernel)
theorem D_298_190 : decode J_298.2.2.1 190 = .ok (.return_, 1) := dzq_177 (by decide +kernel)
def P_298_186 (X : mjX) (d C S kc ks : Nat) (k : Nat → mjH → mjU) : Prop := ∀ (l0 : Nat) (hp : mjH) (q : Option Value × mjH), k l0 hp = some q → mjG X d C S J_298 (mjEq q) 186 [some (.ref l0), none, none, none, none, none, none] [] hp kc ks
def P_298_156 (X : mjX) (d C S kc ks : Nat) (k : Nat → Int32 → Int32 → mjH → mjU) : Prop := ∀ (l0 : Nat) (l1 : Int32) (l2 : Int32) (hp : mjH) (q : Option Value × mjH), k l0 l1 l2 hp = some q → mjG X d C S J_298 (mjEq q) 156 [some (.ref l0), some (.int l1), some (.int l2), none, none, none, none] [] hp kc ks
def P_298_144 (X : mjX) (d C S kc ks : Nat) (k : Int32 → Int32 → Int32 → Nat → Int32 → mjH → mjU) : Prop := ∀ (l4 : Int32) (l5 : Int32) (l6 : Int32) (s0 : Nat) (s1 : Int32) (hp : mjH) (q : Option Value × mjH), k l4 l5 l6 s0 s1 hp = some q → mjG X d C S J_298 (mjEq q) 144 [none, none, none, none, some (.int l4), some (.int l5), some (.int l6)] [.int s1, .ref s0] hp kc ks
def P_298_131 (X : mjX) (d C S kc ks : Nat) (k : Nat → Int32 → Int32 → Int32 → Int32 → mjH → mjU) : Prop := ∀ (l0 : Nat) (l2 : Int32) (l4 : Int32) (l5 : Int32) (l6 : Int32) (hp : mjH) (q : Option Value × mjH), k l0 l2 l4 l5 l6 hp = some q → mjG X d C S J_298 (mjEq q) 131 [some (.ref l0), none, some (.int l2), none, some (.int l4), some (.int l5), some (.int l6)] [] hp kc ks
def P_298_88 (X : mjX) (d C S kc ks : Nat) (k : Nat → Int32 → Int32 → Int32 → Nat → Int32 → Int32 → mjH → mjU) : Prop := ∀ (l0 : Nat) (l2 : Int32) (l3 : Int32) (l4 : Int32) (s0 : Nat) (s1 : Int32) (s2 : Int32) (hp : mjH) (q : Option Value × mjH), k l0 l2 l3 l4 s0 s1 s2 hp = some q → mjG X d C S J_298 (mjEq q) 88 [some (.ref l0), none, some (.int l2), some (.int l3), some (.int l4), none, none] [.int s2, .int s1, .ref s0] hp kc ks
def P_298_65 (X : mjX) (d C S kc ks : Nat) (k : Nat → Int32 → Int32 → mjH → mjU) : Prop := ∀ (l0 : Nat) (l2 : Int32) (l3 : Int32) (hp : mjH) (q : Option Value × mjH), k l0 l2 l3 hp = some q → mjG X d C S J_298 (mjEq q) 65 [some (.ref l0), none, some (.int l2), some (.int l3), none, none, none] [] hp kc ks
def P_298_0 (X : mjX) (d C S kc ks : Nat) (k : Nat → Int32 → mjH → mjU) : Prop := ∀ (l0 : Nat) (l1 : Int32) (hp : mjH) (q : Option Value × mjH), k l0 l1 hp = some q → mjG X d C S J_298 (mjEq q) 0 [some (.ref l0), some (.int l1), none, none, none, none, none] [] hp kc ks
noncomputable def b_298_186 (R : mjR) (l0 : Nat) (hp : mjH) : mjU := rV hp l0 12 (bN (R 269 [.ref l0] hp) (fun  hp1 => some (none, hp1)))
theorem t_298_186 {X : mjX} {d C S kc ks : Nat} {R : mjR} (hR : mjC R d) (h1 : kc ≤ C) (h2 : ks ≤ S) : P_298_186 X (d + 1) C S kc ks (b_298_186 R) := by
  intro l0 hp q h
  unfold b_298_186 at h
  refine mjr_aload_n (x := l0) D_298_186 rfl ?_
  refine mjq_vN (As := []) (rest := []) D_298_187 mr_12_347 V_269 rfl rfl rfl hR (Nat.le_refl _) h1 h2 h (fun  hp1 h => ?_)
  exact mjq_nret D_298_190 rfl h1 h2 h
noncomputable def b_298_156 (R : mjR) (l0 : Nat) (l1 : Int32) (l2 : Int32) (hp : mjH) : mjU := rV hp l0 12 (bI (R 271 [.ref l0, .int (59 : Int32)] hp) (fun v1 hp2 => (if v1 = 0 then b_298_186 R l0 hp2 else (if l2 = (3 : Int32) then rV hp2 l0 12 (bN (R 262 [.ref l0] hp2) (fun  hp3 => rV hp3 l0 12 (bN (R 281 [.ref l0, .int (25 : Int32), .int l1, .int (0 : Int32), .int (0 : Int32)] hp3) (fun  hp4 => some (none, hp4))))) else b_298_186 R l0 hp2))))
theorem t_298_156 {X : mjX} {d C S kc ks : Nat} {R : mjR} (hR : mjC R d) (h1 : kc ≤ C) (h2 : ks ≤ S) : P_298_156 X (d + 1) C S kc ks (b_298_156 R) := by
  intro l0 l1 l2 hp q h
  unfold b_298_156 at h
  refine mjr_aload_n (x := l0) D_298_156 rfl ?_
  refine mjq_bi (v := (59 : Int32)) D_298_157 rfl ?_
  refine mjq_vI (As := [.int (59 : Int32)]) (rest := []) D_298_159 mr_12_343 V_271 rfl rfl rfl hR (Nat.le_refl _) h1 h2 h (fun v1 hp2 h => ?_)
  refine mjq_if_eq (tgt := 186) D_298_162 rfl h (fun h => ?_) (fun h => ?_)
  · exact mjG.fg (lo' := [some (.ref l0), none, none, none, none, none, none]) (And.intro rfl True.intro) ((t_298_186 hR h1 h2) _ _ _ h)
  · refine mjr_iload_n (x := l2) D_298_165 rfl ?_
    refine mjq_ic (v := (3 : Int32)) D_298_166 rfl ?_
    refine mjq_icmp_ne (tgt := 186) D_298_167 rfl h (fun h => ?_) (fun h => ?_)
    · exact mjG.fg (lo' := [some (.ref l0), none, none, none, none, none, none]) (And.intro rfl True.intro) ((t_298_186 hR h1 h2) _ _ _ h)
    · refine mjr_aload_n (x := l0) D_298_170 rfl ?_
      refine mjq_vN (As := []) (rest := []) D_298_171 mr_12_350 V_262 rfl rfl rfl hR (Nat.le_refl _) h1 h2 h (fun  hp3 h => ?_)
      refine mjr_aload_n (x := l0) D_298_174 rfl ?_
      refine mjq_bi (v := (25 : Int32)) D_298_175 rfl ?_
      refine mjr_iload_n (x := l1) D_298_177 rfl ?_
      refine mjq_ic (v := (0 : Int32)) D_298_178 rfl ?_
      refine mjq_ic (v := (0 : Int32)) D_298_179 rfl ?_
      refine mjq_vN (As := [.int (25 : Int32), .int l1, .int (0 : Int32), .int (0 : Int32)]) (rest := []) D_298_180 mr_12_359 V_281 rfl rfl rfl hR (Nat.le_refl _) h1 h2 h (fun  hp4 h => ?_)
      refine mjr_goto (tgt := 190) D_298_183 rfl ?_
      exact mjq_nret D_298_190 rfl h1 h2 h
noncomputable def b_298_144 (R : mjR) (l4 : Int32) (l5 : Int32) (l6 : Int32) (s0 : Nat) (s1 : Int32) (hp : mjH) : mjU := rV hp s0 12 (bN (R 281 [.ref s0, .int s1, .int l4, .int l6, .int l5] hp) (fun  hp1 => some (none, hp1)))
theorem t_298_144 {X : mjX} {d C S kc ks : Nat} {R : mjR} (hR : mjC R d) (h1 : kc ≤ C) (h2 : ks ≤ S) : P_298_144 X (d + 1) C S kc ks (b_298_144 R) := by
  intro l4 l5 l6 s0 s1 hp q h
  unfold b_298_144 at h
  refine mjr_iload (x := l4) D_298_144 rfl ?_
  refine mjr_iload (x := l6) D_298_146 rfl ?_
  refine mjr_iload (x := l5) D_298_148 rfl ?_
  refine mjq_vN (As := [.int s1, .int l4, .int l6, .int l5]) (rest := []) D_298_150 mr_12_359 V_281 rfl rfl rfl hR (Nat.le_refl _) h1 h2 h (fun  hp1 h => ?_)
  refine mjr_goto (tgt := 190) D_298_153 rfl ?_
  exact mjq_nret D_298_190 rfl h1 h2 h
noncomputable def b_298_131 (R : mjR) (l0 : Nat) (l2 : Int32) (l4 : Int32) (l5 : Int32) (l6 : Int32) (hp : mjH) : mjU := (if l2 = (1 : Int32) then b_298_144 R l4 l5 l6 l0 (17 : Int32) hp else b_298_144 R l4 l5 l6 l0 (18 : Int32) hp)
theorem t_298_131 {X : mjX} {d C S kc ks : Nat} {R : mjR} (hR : mjC R d) (h1 : kc ≤ C) (h2 : ks ≤ S) : P_298_131 X (d + 1) C S kc ks (b_298_131 R) := by
  intro l0 l2 l4 l5 l6 hp q h
  unfold b_298_131 at h
  refine mjr_aload_n (x := l0) D_298_131 rfl ?_
  refine mjr_iload_n (x := l2) D_298_132 rfl ?_
  refine mjq_ic (v := (1 : Int32)) D_298_133 rfl ?_
  refine mjq_icmp_ne (tgt := 142) D_298_134 rfl h (fun h => ?_) (fun h => ?_)
  · refine mjq_bi (v := (18 : Int32)) D_298_142 rfl ?_
    exact mjG.fg (lo' := [none, none, none, none, some (.int l4), some (.int l5), some (.int l6)]) (And.intro rfl (And.intro rfl (And.intro rfl True.intro))) ((t_298_144 hR h1 h2) _ _ _ _ _ _ _ h)
  · refine mjq_bi (v := (17 : Int32)) D_298_137 rfl ?_
    refine mjr_goto (tgt := 144) D_298_139 rfl ?_
    exact mjG.fg (lo' := [none, none, none, none, some (.int l4), some (.int l5), some (.int l6)]) (And.intro rfl (And.intro rfl (And.intro rfl True.intro))) ((t_298_144 hR h1 h2) _ _ _ _ _ _ _ h)
noncomputable def b_298_88 (R : mjR) (l0 : Nat) (l2 : Int32) (l3 : Int32) (l4 : Int32) (s0 : Nat) (s1 : Int32) (s2 : Int32) (hp : mjH) : mjU := sI hp s0 s1 s2 (fun hp1 => gR hp1 l0 12 55 (fun v2 => aI hp1 v2 l3 (fun v3 => gR hp1 l0 12 33 (fun v4 => gI hp1 l0 12 63 (fun v5 => aI hp1 v4 v5 (fun v6 => rV hp1 l0 12 (bN (R 262 [.ref l0] hp1) (fun  hp7 => rV hp7 l0 12 (bN (R 287 [.ref l0] hp7) (fun  hp8 => gI hp8 l0 12 61 (fun v9 => (if v9 = 0 then rV hp8 l0 12 (bN (R 270 [.ref l0, .int (59 : Int32)] hp8) (fun  hp10 => b_298_131 R l0 l2 l4 v3 (v6 - (1 : Int32)) hp10)) else b_298_131 R l0 l2 l4 v3 (v6 - (1 : Int32)) hp8))))))))))))
theorem t_298_88 {X : mjX} {d C S kc ks : Nat} {R : mjR} (hR : mjC R d) (h1 : kc ≤ C) (h2 : ks ≤ S) : P_298_88 X (d + 1) C S kc ks (b_298_88 R) := by
  intro l0 l2 l3 l4 s0 s1 s2 hp q h
  unfold b_298_88 at h
  refine mjq_sI D_298_88 h (fun hp1 h => ?_)
  refine mjr_aload_n (x := l0) D_298_89 rfl ?_
  refine mjq_gR D_298_90 fr_12_151 h (fun v2 h => ?_)
  refine mjr_iload_n (x := l3) D_298_93 rfl ?_
  refine mjq_aI D_298_94 h (fun v3 h => ?_)
  refine mjq_istore (lo' := [some (.ref l0), none, some (.int l2), some (.int l3), some (.int l4), some (.int v3), none]) D_298_95 (Nat.le_of_ble_eq_true rfl) rfl ?_
  refine mjr_aload_n (x := l0) D_298_97 rfl ?_
  refine mjq_gR D_298_98 fr_12_85 h (fun v4 h => ?_)
  refine mjr_aload_n (x := l0) D_298_101 rfl ?_
  refine mjq_gI D_298_102 fr_12_356 h (fun v5 h => ?_)
  refine mjq_aI D_298_105 h (fun v6 h => ?_)
  refine mjq_ic (v := (1 : Int32)) D_298_106 rfl ?_
  refine mjr_isub D_298_107 ?_
  refine mjq_istore (lo' := [some (.ref l0), none, some (.int l2), some (.int l3), some (.int l4), some (.int v3), some (.int (v6 - (1 : Int32)))]) D_298_108 (Nat.le_of_ble_eq_true rfl) rfl ?_
  refine mjr_aload_n (x := l0) D_298_110 rfl ?_
  refine mjq_vN (As := []) (rest := []) D_298_111 mr_12_350 V_262 rfl rfl rfl hR (Nat.le_refl _) h1 h2 h (fun  hp7 h => ?_)
  refine mjr_aload_n (x := l0) D_298_114 rfl ?_
  refine mjq_vN (As := []) (rest := []) D_298_115 mr_12_430 V_287 rfl rfl rfl hR (Nat.le_refl _) h1 h2 h (fun  hp8 h => ?_)
  refine mjr_aload_n (x := l0) D_298_118 rfl ?_
  refine mjq_gI D_298_119 fr_12_333 h (fun v9 h => ?_)
  refine mjq_if_ne (tgt := 131) D_298_122 rfl h (fun h => ?_) (fun h => ?_)
  · exact mjG.fg (lo' := [some (.ref l0), none, some (.int l2), none, some (.int l4), some (.int v3), some (.int (v6 - (1 : Int32)))]) (And.intro rfl (And.intro rfl (And.intro rfl (And.intro rfl (And.intro rfl True.intro))))) ((t_298_131 hR h1 h2) _ _ _ _ _ _ _ h)
  · refine mjr_aload_n (x := l0) D_298_125 rfl ?_
    refine mjq_bi (v := (59 : Int32)) D_298_126 rfl ?_
    refine mjq_vN (As := [.int (59 : Int32)]) (rest := []) D_298_128 mr_12_381 V_270 rfl rfl rfl hR (Nat.le_refl _) h1 h2 h (fun  hp10 h => ?_)
    exact mjG.fg (lo' := [some (.ref l0), none, some (.int l2), none, some (.int l4), some (.int v3), some (.int (v6 - (1 : Int32)))]) (And.intro rfl (And.intro rfl (And.intro rfl (And.intro rfl (And.intro rfl True.intro))))) ((t_298_131 hR h1 h2) _ _ _ _ _ _ _ h)
noncomputable def b_298_65 (R : mjR) (l0 : Nat) (l2 : Int32) (l3 : Int32) (hp : mjH) : mjU := gI hp l0 12 4 (fun v1 => gR hp l0 12 54 (fun v2 => (if l2 = (1 : Int32) then b_298_88 R l0 l2 l3 v1 v2 l3 (15 : Int32) hp else b_298_88 R l0 l2 l3 v1 v2 l3 (16 : Int32) hp)))
theorem t_298_65 {X : mjX} {d C S kc ks : Nat} {R : mjR} (hR : mjC R d) (h1 : kc ≤ C) (h2 : ks ≤ S) : P_298_65 X (d + 1) C S kc ks (b_298_65 R) := by
  intro l0 l2 l3 hp q h
  unfold b_298_65 at h
  refine mjr_aload_n (x := l0) D_298_65 rfl ?_
  refine mjq_gI D_298_66 fr_12_310 h (fun v1 h => ?_)
  refine mjq_istore (lo' := [some (.ref l0), none, some (.int l2), some (.int l3), some (.int v1), none, none]) D_298_69 (Nat.le_of_ble_eq_true rfl) rfl ?_
  refine mjr_aload_n (x := l0) D_298_71 rfl ?_
  refine mjq_gR D_298_72 fr_12_148 h (fun v2 h => ?_)
  refine mjr_iload_n (x := l3) D_298_75 rfl ?_
  refine mjr_iload_n (x := l2) D_298_76 rfl ?_
  refine mjq_ic (v := (1 : Int32)) D_298_77 rfl ?_
  refine mjq_icmp_ne (tgt := 86) D_298_78 rfl h (fun h => ?_) (fun h => ?_)
  · refine mjq_bi (v := (16 : Int32)) D_298_86 rfl ?_
    exact (t_298_88 hR h1 h2) _ _ _ _ _ _ _ _ _ h
  · refine mjq_bi (v := (15 : Int32)) D_298_81 rfl ?_
    refine mjr_goto (tgt := 88) D_298_83 rfl ?_
    exact (t_298_88 hR h1 h2) _ _ _ _ _ _ _ _ _ h
noncomputable def b_298_0 (R : mjR) (l0 : Nat) (l1 : Int32) (hp : mjH) : mjU := rV hp l0 12 (bN (R 281 [.ref l0, .int (1 : Int32), .int l1, .int (0 : Int32), .int (0 : Int32)] hp) (fun  hp1 => rV hp1 l0 12 (bN (R 287 [.ref l0] hp1) (fun  hp2 => gI hp2 l0 12 61 (fun v3 => (if v3 ≤ 0 then gI hp2 l0 12 77 (fun v4 => gI hp2 l0 12 63 (fun v5 => gR hp2 l0 12 33 (fun v6 => gI hp2 l0 12 63 (fun v7 => aI hp2 v6 v7 (fun v8 => rV hp2 l0 12 (bI (R 271 [.ref l0, .int (61 : Int32)] hp2) (fun v9 hp10 => (if v9 = 0 then b_298_156 R l0 l1 v4 hp10 else (if v4 = (1 : Int32) then b_298_65 R l0 v4 ((((5000 : Int32) * v5) + v8) - (1 : Int32)) hp10 else (if v4 = (2 : Int32) then b_298_65 R l0 v4 ((((5000 : Int32) * v5) + v8) - (1 : Int32)) hp10 else b_298_156 R l0 l1 v4 hp10)))))))))) else some (none, hp2)))))))
theorem t_298_0 {X : mjX} {d C S kc ks : Nat} {R : mjR} (hR : mjC R d) (h1 : kc ≤ C) (h2 : ks ≤ S) : P_298_0 X (d + 1) C S kc ks (b_298_0 R) := by
  intro l0 l1 hp q h
  unfold b_298_0 at h
  refine mjr_aload_n (x := l0) D_298_0 rfl ?_
  refine mjq_ic (v := (1 : Int32)) D_298_1 rfl ?_
  refine mjr_iload_n (x := l1) D_298_2 rfl ?_
  refine mjq_ic (v := (0 : Int32)) D_298_3 rfl ?_
  refine mjq_ic (v := (0 : Int32)) D_298_4 rfl ?_
  refine mjq_vN (As := [.int (1 : Int32), .int l1, .int (0 : Int32), .int (0 : Int32)]) (rest := []) D_298_5 mr_12_359 V_281 rfl rfl rfl hR (Nat.le_refl _) h1 h2 h (fun  hp1 h => ?_)
  refine mjr_aload_n (x := l0) D_298_8 rfl ?_
  refine mjq_vN (As := []) (rest := []) D_298_9 mr_12_430 V_287 rfl rfl rfl hR (Nat.le_refl _) h1 h2 h (fun  hp2 h => ?_)
  refine mjr_aload_n (x := l0) D_298_12 rfl ?_
  refine mjq_gI D_298_13 fr_12_333 h (fun v3 h => ?_)
  refine mjq_if_le (tgt := 20) D_298_16 rfl h (fun h => ?_) (fun h => ?_)
  · refine mjr_aload_n (x := l0) D_298_20 rfl ?_
    refine mjq_gI D_298_21 fr_12_440 h (fun v4 h => ?_)
    refine mjq_istore_n (lo' := [some (.ref l0), some (.int l1), some (.int v4), none, none, none, none]) D_298_24 (Nat.le_of_ble_eq_true rfl) rfl ?_
    refine mjq_si (v := (5000 : Int32)) D_298_25 rfl ?_
    refine mjr_aload_n (x := l0) D_298_28 rfl ?_
    refine mjq_gI D_298_29 fr_12_356 h (fun v5 h => ?_)
    refine mjr_imul D_298_32 ?_
    refine mjr_aload_n (x := l0) D_298_33 rfl ?_
    refine mjq_gR D_298_34 fr_12_85 h (fun v6 h => ?_)
    refine mjr_aload_n (x := l0) D_298_37 rfl ?_
    refine mjq_gI D_298_38 fr_12_356 h (fun v7 h => ?_)
    refine mjq_aI D_298_41 h (fun v8 h => ?_)
    refine mjr_iadd D_298_42 ?_
    refine mjq_ic (v := (1 : Int32)) D_298_43 rfl ?_
    refine mjr_isub D_298_44 ?_
    refine mjq_istore_n (lo' := [some (.ref l0), some (.int l1), some (.int v4), some (.int ((((5000 : Int32) * v5) + v8) - (1 : Int32))), none, none, none]) D_298_45 (Nat.le_of_ble_eq_true rfl) rfl ?_
    refine mjr_aload_n (x := l0) D_298_46 rfl ?_
    refine mjq_bi (v := (61 : Int32)) D_298_47 rfl ?_
    refine mjq_vI (As := [.int (61 : Int32)]) (rest := []) D_298_49 mr_12_343 V_271 rfl rfl rfl hR (Nat.le_refl _) h1 h2 h (fun v9 hp10 h => ?_)
    refine mjq_if_eq (tgt := 156) D_298_52 rfl h (fun h => ?_) (fun h => ?_)
    · exact mjG.fg (lo' := [some (.ref l0), some (.int l1), some (.int v4), none, none, none, none]) (And.intro rfl (And.intro rfl (And.intro rfl True.intro))) ((t_298_156 hR h1 h2) _ _ _ _ _ h)
    · refine mjr_iload_n (x := v4) D_298_55 rfl ?_
      refine mjq_ic (v := (1 : Int32)) D_298_56 rfl ?_
      refine mjq_icmp_eq (tgt := 65) D_298_57 rfl h (fun h => ?_) (fun h => ?_)
      · exact mjG.fg (lo' := [some (.ref l0), none, some (.int v4), some (.int ((((5000 : Int32) * v5) + v8) - (1 : Int32))), none, none, none]) (And.intro rfl (And.intro rfl (And.intro rfl True.intro))) ((t_298_65 hR h1 h2) _ _ _ _ _ h)
      · refine mjr_iload_n (x := v4) D_298_60 rfl ?_
        refine mjq_ic (v := (2 : Int32)) D_298_61 rfl ?_
        refine mjq_icmp_ne (tgt := 156) D_298_62 rfl h (fun h => ?_) (fun h => ?_)
        · exact mjG.fg (lo' := [some (.ref l0), some (.int l1), some (.int v4), none, none, none, none]) (And.intro rfl (And.intro rfl (And.intro rfl True.intro))) ((t_298_156 hR h1 h2) _ _ _ _ _ h)
        · exact mjG.fg (lo' := [some (.ref l0), none, some (.int v4), some (.int ((((5000 : Int32) * v5) + v8) - (1 : Int32))), none, none, none]) (And.intro rfl (And.intro rfl (And.intro rfl True.intro))) ((t_298_65 hR h1 h2) _ _ _ _ _ h)
  · exact mjq_nret D_298_19 rfl h1 h2 h
noncomputable def f_298 (R : mjR) (a0 : Nat) (a1 : Int32) (hp : mjH) : mjU := b_298_0 R a0 a1 hp
theorem c_298 {R : mjR} {d : Nat} (hR : mjC R d) {a0 : Nat} {a1 : Int32} {hp : mjH} {q : Option Value × mjH} (h : f_298 R a0 a1 hp = some q) : mjM (d + 1) 0 0 298 [.ref a0, .int a1] hp (mjEq q) :=
  mjM_of Ja_298 (Nat.le_of_ble_eq_true rfl) (mjG.fg (lo' := [some (.ref a0), some (.int a1), none, none, none, none, none]) (And.intro rfl (And.intro rfl True.intro)) ((t_298_0 hR (Nat.le_refl 0) (Nat.le_refl 0)) a0 a1 hp q h))
def J_299 : mjI := (⟨"OwnerHeapModel", "judgeAll", "()V"⟩, 12, prog_14_method_51_code, 4, none, 0, false)
theorem Ja_299 : mjMt 299 = some J_299 := by rfl
theorem D_299_0 : decode J_299.2.2.1 0 = .ok (.bipush 16, 2) := dzq_16 (by decide +kernel)
theorem D_299_2 : decode J_299.2.2.1 2 = .ok (.aload_n 0, 1) := dzq_42 (by decide +kernel)
theorem D_299_3 : decode J_299.2.2.1 3 = .ok (.getfield 356, 3) := dzq_180 (by decide +kernel)
theorem D_299_6 : decode J_299.2.2.1 6 = .ok (.imul, 1) := dzq_104 (by decide +kernel)
theorem D_299_7 : decode J_299.2.2.1 7 = .ok (.istore_n 1, 1) := dzq_60 (by decide +kernel)
theorem D_299_8 : decode J_299.2.2.1 8 = .ok (.aload_n 0, 1) := dzq_42 (by decide +kernel)
theorem D_299_9 : decode J_299.2.2.1 9 = .ok (.getfield 17, 3) := dzq_180 (by decide +kernel)
theorem D_299_12 : decode J_299.2.2.1 12 = .ok (.aload_n 0, 1) := dzq_42 (by decide +kernel)
theorem D_299_13 : decode J_299.2.2.1 13 = .ok (.getfield 356, 3) := dzq_180 (by decide +kernel)
theorem D_299_16 : decode J_299.2.2.1 16 = .ok (.iaload, 1) := dzq_46 (by decide +kernel)
theorem D_299_17 : decode J_299.2.2.1 17 = .ok (.istore_n 2, 1) := dzq_61 (by decide +kernel)
theorem D_299_18 : decode J_299.2.2.1 18 = .ok (.iload_n 1, 1) := dzq_27 (by decide +kernel)
theorem D_299_19 : decode J_299.2.2.1 19 = .ok (.istore_n 3, 1) := dzq_62 (by decide +kernel)
theorem D_299_20 : decode J_299.2.2.1 20 = .ok (.iload_n 3, 1) := dzq_29 (by decide +kernel)
theorem D_299_21 : decode J_299.2.2.1 21 = .ok (.iload_n 1, 1) := dzq_27 (by decide +kernel)
theorem D_299_22 : decode J_299.2.2.1 22 = .ok (.iload_n 2, 1) := dzq_28 (by decide +kernel)
theorem D_299_23 : decode J_299.2.2.1 23 = .ok (.iadd, 1) := dzq_96 (by decide +kernel)
theorem D_299_24 : decode J_299.2.2.1 24 = .ok (.if_icmp .ge 22, 3) := dzq_162 (by decide +kernel)
theorem D_299_27 : decode J_299.2.2.1 27 = .ok (.aload_n 0, 1) := dzq_42 (by decide +kernel)
theorem D_299_28 : decode J_299.2.2.1 28 = .ok (.getfield 333, 3) := dzq_180 (by decide +kernel)
theorem D_299_31 : decode J_299.2.2.1 31 = .ok (.ifCond .ne 15, 3) := dzq_154 (by decide +kernel)
theorem D_299_34 : decode J_299.2.2.1 34 = .ok (.aload_n 0, 1) := dzq_42 (by decide +kernel)
theorem D_299_35 : decode J_299.2.2.1 35 = .ok (.iload_n 3, 1) := dzq_29 (by decide +kernel)
theorem D_299_36 : decode J_299.2.2.1 36 = .ok (.iload_n 1, 1) := dzq_27 (by decide +kernel)
theorem D_299_37 : decode J_299.2.2.1 37 = .ok (.invokevirtual 511, 3) := dzq_182 (by decide +kernel)
theorem D_299_40 : decode J_299.2.2.1 40 = .ok (.iinc 3 1, 3) := dzq_132 (by decide +kernel)
theorem D_299_43 : decode J_299.2.2.1 43 = .ok (.goto (-23), 3) := dzq_167 (by decide +kernel)
theorem D_299_46 : decode J_299.2.2.1 46 = .ok (.iload_n 1, 1) := dzq_27 (by decide +kernel)
theorem D_299_47 : decode J_299.2.2.1 47 = .ok (.istore_n 3, 1) := dzq_62 (by decide +kernel)
theorem D_299_48 : decode J_299.2.2.1 48 = .ok (.iload_n 3, 1) := dzq_29 (by decide +kernel)
theorem D_299_49 : decode J_299.2.2.1 49 = .ok (.iload_n 1, 1) := dzq_27 (by decide +kernel)
theorem D_299_50 : decode J_299.2.2.1 50 = .ok (.iload_n 2, 1) := dzq_28 (by decide +kernel)
theorem D_299_51 : decode J_299.2.2.1 51 = .ok (.iadd, 1) := dzq_96 (by decide +kernel)
theorem D_299_52 : decode J_299.2.2.1 52 = .ok (.if_icmp .ge 21, 3) := dzq_162 (by decide +kernel)
theorem D_299_55 : decode J_299.2.2.1 55 = .ok (.aload_n 0, 1) := dzq_42 (by decide +kernel)
theorem D_299_56 : decode J_299.2.2.1 56 = .ok (.getfield 333, 3) := dzq_180 (by decide +kernel)
theorem D_299_59 : decode J_299.2.2.1 59 = .ok (.ifCond .ne 14, 3) := dzq_154 (by decide +kernel)
theorem D_299_62 : decode J_299.2.2.1 62 = .ok (.aload_n 0, 1) := dzq_42 (by decide +kernel)
theorem D_299_63 : decode J_299.2.2.1 63 = .ok (.iload_n 3, 1) := dzq_29 (by decide +kernel)
theorem D_299_64 : decode J_299.2.2.1 64 = .ok (.invokevirtual 514, 3) := dzq_182 (by decide +kernel)
theorem D_299_67 : decode J_299.2.2.1 67 = .ok (.iinc 3 1, 3) := dzq_132 (by decide +kernel)
theorem D_299_70 : decode J_299.2.2.1 70 = .ok (.goto (-22), 3) := dzq_167 (by decide +kernel)
theorem D_299_73 : decode J_299.2.2.1 73 = .ok (.iload_n 1, 1) := dzq_27 (by decide +kernel)
theorem D_299_74 : decode J_299.2.2.1 74 = .ok (.istore_n 3, 1) := dzq_62 (by decide +kernel)
theorem D_299_75 : decode J_299.2.2.1 75 = .ok (.iload_n 3, 1) := dzq_29 (by decide +kernel)
theorem D_299_76 : decode J_299.2.2.1 76 = .ok (.iload_n 1, 1) := dzq_27 (by decide +kernel)
theorem D_299_77 : decode J_299.2.2.1 77 = .ok (.iload_n 2, 1) := dzq_28 (by decide +kernel)
theorem D_299_78 : decode J_299.2.2.1 78 = .ok (.iadd, 1) := dzq_96 (by decide +kernel)
theorem D_299_79 : decode J_299.2.2.1 79 = .ok (.if_icmp .ge 21, 3) := dzq_162 (by decide +kernel)
theorem D_299_82 : decode J_299.2.2.1 82 = .ok (.aload_n 0, 1) := dzq_42 (by decide +kernel)
theorem D_299_83 : decode J_299.2.2.1 83 = .ok (.getfield 333, 3) := dzq_180 (by decide +kernel)
theorem D_299_86 : decode J_299.2.2.1 86 = .ok (.ifCond .ne 14, 3) := dzq_154 (by decide +kernel)
theorem D_299_89 : decode J_299.2.2.1 89 = .ok (.aload_n 0, 1) := dzq_42 (by decide +kernel)
theorem D_299_90 : decode J_299.2.2.1 90 = .ok (.iload_n 3, 1) := dzq_29 (by decide +kernel)
theorem D_299_91 : decode J_299.2.2.1 91 = .ok (.invokevirtual 517, 3) := dzq_182 (by decide +kernel)
theorem D_299_94 : decode J_299.2.2.1 94 = .ok (.iinc 3 1, 3) := dzq_132 (by decide +kernel)
theorem D_299_97 : decode J_299.2.2.1 97 = .ok (.goto (-22), 3) := dzq_167 (by decide +kernel)
theorem D_299_100 : decode J_299.2.2.1 100 = .ok (.iload_n 1, 1) := dzq_27 (by decide +kernel)
theorem D_299_101 : decode J_299.2.2.1 101 = .ok (.istore_n 3, 1) := dzq_62 (by decide +kernel)
theorem D_299_102 : decode J_299.2.2.1 102 = .ok (.iload_n 3, 1) := dzq_29 (by decide +kernel)
theorem D_299_103 : decode J_299.2.2.1 103 = .ok (.iload_n 1, 1) := dzq_27 (by decide +kernel)
theorem D_299_104 : decode J_299.2.2.1 104 = .ok (.iload_n 2, 1) := dzq_28 (by decide +kernel)
theorem D_299_105 : decode J_299.2.2.1 105 = .ok (.iadd, 1) := dzq_96 (by decide +kernel)
theorem D_299_106 : decode J_299.2.2.1 106 = .ok (.if_icmp .ge 21, 3) := dzq_162 (by decide +kernel)
theorem D_299_109 : decode J_299.2.2.1 109 = .ok (.aload_n 0, 1) := dzq_42 (by decide +kernel)
theorem D_299_110 : decode J_299.2.2.1 110 = .ok (.getfield 333, 3) := dzq_180 (by decide +kernel)
theorem D_299_113 : decode J_299.2.2.1 113 = .ok (.ifCond .ne 14, 3) := dzq_154 (by decide +kernel)
theorem D_299_116 : decode J_299.2.2.1 116 = .ok (.aload_n 0, 1) := dzq_42 (by decide +kernel)
theorem D_299_117 : decode J_299.2.2.1 117 = .ok (.iload_n 3, 1) := dzq_29 (by decide +kernel)
theorem D_299_118 : decode J_299.2.2.1 118 = .ok (.invokevirtual 520, 3) := dzq_182 (by decide +kernel)
theorem D_299_121 : decode J_299.2.2.1 121 = .ok (.iinc 3 1, 3) := dzq_132 (by decide +kernel)
theorem D_299_124 : decode J_299.2.2.1 124 = .ok (.goto (-22), 3) := dzq_167 (by decide +kernel)
theorem D_299_127 : decode J_299.2.2.1 127 = .ok (.iload_n 1, 1) := dzq_27 (by decide +kernel)
theorem D_299_128 : decode J_299.2.2.1 128 = .ok (.istore_n 3, 1) := dzq_62 (by decide +kernel)
theorem D_299_129 : decode J_299.2.2.1 129 = .ok (.iload_n 3, 1) := dzq_29 (by decide +kernel)
theorem D_299_130 : decode J_299.2.2.1 130 = .ok (.iload_n 1, 1) := dzq_27 (by decide +kernel)
theorem D_299_131 : decode J_299.2.2.1 131 = .ok (.iload_n 2, 1) := dzq_28 (by decide +kernel)
theorem D_299_132 : decode J_299.2.2.1 132 = .ok (.iadd, 1) := dzq_96 (by decide +kernel)
theorem D_299_133 : decode J_299.2.2.1 133 = .ok (.if_icmp .ge 21, 3) := dzq_162 (by decide +kernel)
theorem D_299_136 : decode J_299.2.2.1 136 = .ok (.aload_n 0, 1) := dzq_42 (by decide +kernel)
theorem D_299_137 : decode J_299.2.2.1 137 = .ok (.getfield 333, 3) := dzq_180 (by decide +kernel)
theorem D_299_140 : decode J_299.2.2.1 140 = .ok (.ifCond .ne 14, 3) := dzq_154 (by decide +kernel)
theorem D_299_143 : decode J_299.2.2.1 143 = .ok (.aload_n 0, 1) := dzq_42 (by decide +kernel)
theorem D_299_144 : decode J_299.2.2.1 144 = .ok (.iload_n 3, 1) := dzq_29 (by decide +kernel)
theorem D_299_145 : decode J_299.2.2.1 145 = .ok (.invokevirtual 523, 3) := dzq_182 (by decide +kernel)
theorem D_299_148 : decode J_299.2.2.1 148 = .ok (.iinc 3 1, 3) := dzq_132 (by decide +kernel)
theorem D_299_151 : decode J_299.2.2.1 151 = .ok (.goto (-22), 3) := dzq_167 (by decide +kernel)
theorem D_299_154 : decode J_299.2.2.1 154 = .ok (.iload_n 1, 1) := dzq_27 (by decide +kernel)
theorem D_299_155 : decode J_299.2.2.1 155 = .ok (.istore_n 3, 1) := dzq_62 (by decide +kernel)
theorem D_299_156 : decode J_299.2.2.1 156 = .ok (.iload_n 3, 1) := dzq_29 (by decide +kernel)
theorem D_299_157 : decode J_299.2.2.1 157 = .ok (.iload_n 1, 1) := dzq_27 (by decide +kernel)
theorem D_299_158 : decode J_299.2.2.1 158 = .ok (.iload_n 2, 1) := dzq_28 (by decide +kernel)
theorem D_299_159 : decode J_299.2.2.1 159 = .ok (.iadd, 1) := dzq_96 (by decide +kernel)
theorem D_299_160 : decode J_299.2.2.1 160 = .ok (.if_icmp .ge 21, 3) := dzq_162 (by decide +kernel)
theorem D_299_163 : decode J_299.2.2.1 163 = .ok (.aload_n 0, 1) := dzq_42 (by decide +kernel)
theorem D_299_164 : decode J_299.2.2.1 164 = .ok (.getfield 333, 3) := dzq_180 (by decide +kernel)
theorem D_299_167 : decode J_299.2.2.1 167 = .ok (.ifCond .ne 14, 3) := dzq_154 (by decide +kernel)
theorem D_299_170 : decode J_299.2.2.1 170 = .ok (.aload_n 0, 1) := dzq_42 (by decide +kernel)
theorem D_299_171 : decode J_299.2.2.1 171 = .ok (.iload_n 3, 1) := dzq_29 (by decide +kernel)
theorem D_299_172 : decode J_299.2.2.1 172 = .ok (.invokevirtual 526, 3) := dzq_182 (by decide +kernel)
theorem D_299_175 : decode J_299.2.2.1 175 = .ok (.iinc 3 1, 3) := dzq_132 (by decide +kernel)
theorem D_299_178 : decode J_299.2.2.1 178 = .ok (.goto (-22), 3) := dzq_167 (by decide +kernel)
theorem D_299_181 : decode J_299.2.2.1 181 = .ok (.iload_n 1, 1) := dzq_27 (by decide +kernel)
theorem D_299_182 : decode J_299.2.2.1 182 = .ok (.istore_n 3, 1) := dzq_62 (by decide +kernel)
theorem D_299_183 : decode J_299.2.2.1 183 = .ok (.iload_n 3, 1) := dzq_29 (by decide +kernel)
theorem D_299_184 : decode J_299.2.2.1 184 = .ok (.iload_n 1, 1) := dzq_27 (by decide +kernel)
theorem D_299_185 : decode J_299.2.2.1 185 = .ok (.iload_n 2, 1) := dzq_28 (by decide +kernel)
theorem D_299_186 : decode J_299.2.2.1 186 = .ok (.iadd, 1) := dzq_96 (by decide +kernel)
theorem D_299_187 : decode J_299.2.2.1 187 = .ok (.if_icmp .ge 21, 3) := dzq_162 (by decide +kernel)
theorem D_299_190 : decode J_299.2.2.1 190 = .ok (.aload_n 0, 1) := dzq_42 (by decide +kernel)
theorem D_299_191 : decode J_299.2.2.1 191 = .ok (.getfield 333, 3) := dzq_180 (by decide +kernel)
theorem D_299_194 : decode J_299.2.2.1 194 = .ok (.ifCond .ne 14, 3) := dzq_154 (by decide +kernel)
theorem D_299_197 : decode J_299.2.2.1 197 = .ok (.aload_n 0, 1) := dzq_42 (by decide +kernel)
theorem D_299_198 : decode J_299.2.2.1 198 = .ok (.iload_n 3, 1) := dzq_29 (by decide +kernel)
theorem D_299_199 : decode J_299.2.2.1 199 = .ok (.invokevirtual 529, 3) := dzq_182 (by decide +kernel)
theorem D_299_202 : decode J_299.2.2.1 202 = .ok (.iinc 3 1, 3) := dzq_132 (by decide +kernel)
theorem D_299_205 : decode J_299.2.2.1 205 = .ok (.goto (-22), 3) := dzq_167 (by decide +kernel)
theorem D_299_208 : decode J_299.2.2.1 208 = .ok (.aload_n 0, 1) := dzq_42 (by decide +kernel)
theorem D_299_209 : decode J_299.2.2.1 209 = .ok (.getfield 333, 3) := dzq_180 (by decide +kernel)
theorem D_299_212 : decode J_299.2.2.1 212 = .ok (.ifCond .le 4, 3) := dzq_158 (by decide +kernel)
theorem D_299_215 : decode J_299.2.2.1 215 = .ok (.return_, 1) := dzq_177 (by decide +kernel)
theorem D_299_216 : decode J_299.2.2.1 216 = .ok (.iload_n 1, 1) := dzq_27 (by decide +kernel)
theorem D_299_217 : decode J_299.2.2.1 217 = .ok (.istore_n 3, 1) := dzq_62 (by decide +kernel)
theorem D_299_218 : decode J_299.2.2.1 218 = .ok (.iload_n 3, 1) := dzq_29 (by decide +kernel)
theorem D_299_219 : decode J_299.2.2.1 219 = .ok (.iload_n 1, 1) := dzq_27 (by decide +kernel)
theorem D_299_220 : decode J_299.2.2.1 220 = .ok (.iload_n 2, 1) := dzq_28 (by decide +kernel)
theorem D_299_221 : decode J_299.2.2.1 221 = .ok (.iadd, 1) := dzq_96 (by decide +kernel)
theorem D_299_222 : decode J_299.2.2.1 222 = .ok (.if_icmp .ge 14, 3) := dzq_162 (by decide +kernel)
theorem D_299_225 : decode J_299.2.2.1 225 = .ok (.aload_n 0, 1) := dzq_42 (by decide +kernel)
theorem D_299_226 : decode J_299.2.2.1 226 = .ok (.iload_n 3, 1) := dzq_29 (by decide +kernel)
theorem D_299_227 : decode J_299.2.2.1 227 = .ok (.invokevirtual 532, 3) := dzq_182 (by decide +kernel)
theorem D_299_230 : decode J_299.2.2.1 230 = .ok (.iinc 3 1, 3) := dzq_132 (by decide +kernel)
theorem D_299_233 : decode J_299.2.2.1 233 = .ok (.goto (-15), 3) := dzq_167 (by decide +kernel)
theorem D_299_236 : decode J_299.2.2.1 236 = .ok (.sipush 400, 3) := dzq_17 (by decide +kernel)
theorem D_299_239 : decode J_299.2.2.1 239 = .ok (.aload_n 0, 1) := dzq_42 (by decide +kernel)
theorem D_299_240 : decode J_299.2.2.1 240 = .ok (.getfield 356, 3) := dzq_180 (by decide +kernel)
theorem D_299_243 : decode J_299.2.2.1 243 = .ok (.imul, 1) := dzq_104 (by decide +kernel)
theorem D_299_244 : decode J_299.2.2.1 244 = .ok (.istore_n 3, 1) := dzq_62 (by decide +kernel)
theorem D_299_245 : decode J_299.2.2.1 245 = .ok (.iload_n 3, 1) := dzq_29 (by decide +kernel)
theorem D_299_246 : decode J_299.2.2.1 246 = .ok (.sipush 400, 3) := dzq_17 (by decide +kernel)
theorem D_299_249 : decode J_299.2.2.1 249 = .ok (.aload_n 0, 1) := dzq_42 (by decide +kernel)
theorem D_299_250 : decode J_299.2.2.1 250 = .ok (.getfield 356, 3) := dzq_180 (by decide +kernel)
theorem D_299_253 : decode J_299.2.2.1 253 = .ok (.imul, 1) := dzq_104 (by decide +kernel)
theorem D_299_254 : decode J_299.2.2.1 254 = .ok (.aload_n 0, 1) := dzq_42 (by decide +kernel)
theorem D_299_255 : decode J_299.2.2.1 255 = .ok (.getfield 79, 3) := dzq_180 (by decide +kernel)
theorem D_299_258 : decode J_299.2.2.1 258 = .ok (.aload_n 0, 1) := dzq_42 (by decide +kernel)
theorem D_299_259 : decode J_299.2.2.1 259 = .ok (.getfield 356, 3) := dzq_180 (by decide +kernel)
theorem D_299_262 : decode J_299.2.2.1 262 = .ok (.iaload, 1) := dzq_46 (by decide +kernel)
theorem D_299_263 : decode J_299.2.2.1 263 = .ok (.iadd, 1) := dzq_96 (by decide +kernel)
theorem D_299_264 : decode J_299.2.2.1 264 = .ok (.if_icmp .ge 31, 3) := dzq_162 (by decide +kernel)
theorem D_299_267 : decode J_299.2.2.1 267 = .ok (.aload_n 0, 1) := dzq_42 (by decide +kernel)
theorem D_299_268 : decode J_299.2.2.1 268 = .ok (.getfield 333, 3) := dzq_180 (by decide +kernel)
theorem D_299_271 : decode J_299.2.2.1 271 = .ok (.ifCond .ne 24, 3) := dzq_154 (by decide +kernel)
theorem D_299_274 : decode J_299.2.2.1 274 = .ok (.aload_n 0, 1) := dzq_42 (by decide +kernel)
theorem D_299_275 : decode J_299.2.2.1 275 = .ok (.getfield 94, 3) := dzq_180 (by decide +kernel)
theorem D_299_278 : decode J_299.2.2.1 278 = .ok (.iload_n 3, 1) := dzq_29 (by decide +kernel)
theorem D_299_279 : decode J_299.2.2.1 279 = .ok (.iaload, 1) := dzq_46 (by decide +kernel)
theorem D_299_280 : decode J_299.2.2.1 280 = .ok (.iconst 1, 1) := dzq_4 (by decide +kernel)
theorem D_299_281 : decode J_299.2.2.1 281 = .ok (.if_icmp .ne 8, 3) := dzq_160 (by decide +kernel)
theorem D_299_284 : decode J_299.2.2.1 284 = .ok (.aload_n 0, 1) := dzq_42 (by decide +kernel)
theorem D_299_285 : decode J_299.2.2.1 285 = .ok (.iload_n 3, 1) := dzq_29 (by decide +kernel)
theorem D_299_286 : decode J_299.2.2.1 286 = .ok (.invokevirtual 535, 3) := dzq_182 (by decide +kernel)
theorem D_299_289 : decode J_299.2.2.1 289 = .ok (.iinc 3 1, 3) := dzq_132 (by decide +kernel)
theorem D_299_292 : decode J_299.2.2.1 292 = .ok (.goto (-47), 3) := dzq_167 (by decide +kernel)
theorem D_299_295 : decode J_299.2.2.1 295 = .ok (.aload_n 0, 1) := dzq_42 (by decide +kernel)
theorem D_299_296 : decode J_299.2.2.1 296 = .ok (.getfield 333, 3) := dzq_180 (by decide +kernel)
theorem D_299_299 : decode J_299.2.2.1 299 = .ok (.ifCond .ne 8, 3) := dzq_154 (by decide +kernel)
theorem D_299_302 : decode J_299.2.2.1 302 = .ok (.aload_n 0, 1) := dzq_42 (by decide +kernel)
theorem D_299_303 : decode J_299.2.2.1 303 = .ok (.iconst (-1), 1) := dzq_2 (by decide +kernel)
theorem D_299_304 : decode J_299.2.2.1 304 = .ok (.invokevirtual 535, 3) := dzq_182 (by decide +kernel)
theorem D_299_307 : decode J_299.2.2.1 307 = .ok (.return_, 1) := dzq_177 (by decide +kernel)
def P_299_295 (X : mjX) (d C S kc ks : Nat) (k : Nat → mjH → mjU) : Prop := ∀ (l0 : Nat) (hp : mjH) (q : Option Value × mjH), k l0 hp = some q → mjG X d C S J_299 (mjEq q) 295 [some (.ref l0), none, none, none] [] hp kc ks
def P_299_289 (X : mjX) (d C S kc ks : Nat) (k : Nat → Int32 → mjH → mjU) : Prop := ∀ (l0 : Nat) (l3 : Int32) (hp : mjH) (q : Option Value × mjH), k l0 l3 hp = some q → mjG X d C S J_299 (mjEq q) 289 [some (.ref l0), none, none, some (.int l3)] [] hp kc ks
def P_299_245 (X : mjX) (d C S kc ks : Nat) (k : Nat → Int32 → mjH → mjU) : Prop := ∀ (l0 : Nat) (l3 : Int32) (hp : mjH) (q : Option Value × mjH), k l0 l3 hp = some q → mjG X d C S J_299 (mjEq q) 245 [some (.ref l0), none, none, some (.int l3)] [] hp kc ks
def P_299_218 (X : mjX) (d C S kc ks : Nat) (k : Nat → Int32 → Int32 → Int32 → mjH → mjU) : Prop := ∀ (l0 : Nat) (l1 : Int32) (l2 : Int32) (l3 : Int32) (hp : mjH) (q : Option Value × mjH), k l0 l1 l2 l3 hp = some q → mjG X d C S J_299 (mjEq q) 218 [some (.ref l0), some (.int l1), some (.int l2), some (.int l3)] [] hp kc ks
def P_299_208 (X : mjX) (d C S kc ks : Nat) (k : Nat → Int32 → Int32 → mjH → mjU) : Prop := ∀ (l0 : Nat) (l1 : Int32) (l2 : Int32) (hp : mjH) (q : Option Value × mjH), k l0 l1 l2 hp = some q → mjG X d C S J_299 (mjEq q) 208 [some (.ref l0), some (.int l1), some (.int l2), none] [] hp kc ks
def P_299_183 (X : mjX) (d C S kc ks : Nat) (k : Nat → Int32 → Int32 → Int32 → mjH → mjU) : Prop := ∀ (l0 : Nat) (l1 : Int32) (l2 : Int32) (l3 : Int32) (hp : mjH) (q : Option Value × mjH), k l0 l1 l2 l3 hp = some q → mjG X d C S J_299 (mjEq q) 183 [some (.ref l0), some (.int l1), some (.int l2), some (.int l3)] [] hp kc ks
def P_299_181 (X : mjX) (d C S kc ks : Nat) (k : Nat → Int32 → Int32 → mjH → mjU) : Prop := ∀ (l0 : Nat) (l1 : Int32) (l2 : Int32) (hp : mjH) (q : Option Value × mjH), k l0 l1 l2 hp = some q → mjG X d C S J_299 (mjEq q) 181 [some (.ref l0), some (.int l1), some (.int l2), none] [] hp kc ks
def P_299_156 (X : mjX) (d C S kc ks : Nat) (k : Nat → Int32 → Int32 → Int32 → mjH → mjU) : Prop := ∀ (l0 : Nat) (l1 : Int32) (l2 : Int32) (l3 : Int32) (hp : mjH) (q : Option Value × mjH), k l0 l1 l2 l3 hp = some q → mjG X d C S J_299 (mjEq q) 156 [some (.ref l0), some (.int l1), some (.int l2), some (.int l3)] [] hp kc ks
def P_299_154 (X : mjX) (d C S kc ks : Nat) (k : Nat → Int32 → Int32 → mjH → mjU) : Prop := ∀ (l0 : Nat) (l1 : Int32) (l2 : Int32) (hp : mjH) (q : Option Value × mjH), k l0 l1 l2 hp = some q → mjG X d C S J_299 (mjEq q) 154 [some (.ref l0), some (.int l1), some (.int l2), none] [] hp kc ks
def P_299_129 (X : mjX) (d C S kc ks : Nat) (k : Nat → Int32 → Int32 → Int32 → mjH → mjU) : Prop := ∀ (l0 : Nat) (l1 : Int32) (l2 : Int32) (l3 : Int32) (hp : mjH) (q : Option Value × mjH), k l0 l1 l2 l3 hp = some q → mjG X d C S J_299 (mjEq q) 129 [some (.ref l0), some (.int l1), some (.int l2), some (.int l3)] [] hp kc ks
def P_299_127 (X : mjX) (d C S kc ks : Nat) (k : Nat → Int32 → Int32 → mjH → mjU) : Prop := ∀ (l0 : Nat) (l1 : Int32) (l2 : Int32) (hp : mjH) (q : Option Value × mjH), k l0 l1 l2 hp = some q → mjG X d C S J_299 (mjEq q) 127 [some (.ref l0), some (.int l1), some (.int l2), none] [] hp kc ks
def P_299_102 (X : mjX) (d C S kc ks : Nat) (k : Nat → Int32 → Int32 → Int32 → mjH → mjU) : Prop := ∀ (l0 : Nat) (l1 : Int32) (l2 : Int32) (l3 : Int32) (hp : mjH) (q : Option Value × mjH), k l0 l1 l2 l3 hp = some q → mjG X d C S J_299 (mjEq q) 102 [some (.ref l0), some (.int l1), some (.int l2), some (.int l3)] [] hp kc ks
def P_299_100 (X : mjX) (d C S kc ks : Nat) (k : Nat → Int32 → Int32 → mjH → mjU) : Prop := ∀ (l0 : Nat) (l1 : Int32) (l2 : Int32) (hp : mjH) (q : Option Value × mjH), k l0 l1 l2 hp = some q → mjG X d C S J_299 (mjEq q) 100 [some (.ref l0), some (.int l1), some (.int l2), none] [] hp kc ks
def P_299_75 (X : mjX) (d C S kc ks : Nat) (k : Nat → Int32 → Int32 → Int32 → mjH → mjU) : Prop := ∀ (l0 : Nat) (l1 : Int32) (l2 : Int32) (l3 : Int32) (hp : mjH) (q : Option Value × mjH), k l0 l1 l2 l3 hp = some q → mjG X d C S J_299 (mjEq q) 75 [some (.ref l0), some (.int l1), some (.int l2), some (.int l3)] [] hp kc ks
def P_299_73 (X : mjX) (d C S kc ks : Nat) (k : Nat → Int32 → Int32 → mjH → mjU) : Prop := ∀ (l0 : Nat) (l1 : Int32) (l2 : Int32) (hp : mjH) (q : Option Value × mjH), k l0 l1 l2 hp = some q → mjG X d C S J_299 (mjEq q) 73 [some (.ref l0), some (.int l1), some (.int l2), none] [] hp kc ks
def P_299_48 (X : mjX) (d C S kc ks : Nat) (k : Nat → Int32 → Int32 → Int32 → mjH → mjU) : Prop := ∀ (l0 : Nat) (l1 : Int32) (l2 : Int32) (l3 : Int32) (hp : mjH) (q : Option Value × mjH), k l0 l1 l2 l3 hp = some q → mjG X d C S J_299 (mjEq q) 48 [some (.ref l0), some (.int l1), some (.int l2), some (.int l3)] [] hp kc ks
def P_299_46 (X : mjX) (d C S kc ks : Nat) (k : Nat → Int32 → Int32 → mjH → mjU) : Prop := ∀ (l0 : Nat) (l1 : Int32) (l2 : Int32) (hp : mjH) (q : Option Value × mjH), k l0 l1 l2 hp = some q → mjG X d C S J_299 (mjEq q) 46 [some (.ref l0), some (.int l1), some (.int l2), none] [] hp kc ks
def P_299_20 (X : mjX) (d C S kc ks : Nat) (k : Nat → Int32 → Int32 → Int32 → mjH → mjU) : Prop := ∀ (l0 : Nat) (l1 : Int32) (l2 : Int32) (l3 : Int32) (hp : mjH) (q : Option Value × mjH), k l0 l1 l2 l3 hp = some q → mjG X d C S J_299 (mjEq q) 20 [some (.ref l0), some (.int l1), some (.int l2), some (.int l3)] [] hp kc ks
def P_299_0 (X : mjX) (d C S kc ks : Nat) (k : Nat → mjH → mjU) : Prop := ∀ (l0 : Nat) (hp : mjH) (q : Option Value × mjH), k l0 hp = some q → mjG X d C S J_299 (mjEq q) 0 [some (.ref l0), none, none, none] [] hp kc ks
noncomputable def b_299_295 (R : mjR) (l0 : Nat) (hp : mjH) : mjU := gI hp l0 12 61 (fun v1 => (if v1 = 0 then rV hp l0 12 (bN (R 322 [.ref l0, .int (-1 : Int32)] hp) (fun  hp2 => some (none, hp2))) else some (none, hp)))
theorem t_299_295 {X : mjX} {d C S kc ks : Nat} {R : mjR} (hR : mjC R d) (h1 : kc ≤ C) (h2 : ks ≤ S) : P_299_295 X (d + 1) C S kc ks (b_299_295 R) := by
  intro l0 hp q h
  unfold b_299_295 at h
  refine mjr_aload_n (x := l0) D_299_295 rfl ?_
  refine mjq_gI D_299_296 fr_12_333 h (fun v1 h => ?_)
  refine mjq_if_ne (tgt := 307) D_299_299 rfl h (fun h => ?_) (fun h => ?_)
  · exact mjq_nret D_299_307 rfl h1 h2 h
  · refine mjr_aload_n (x := l0) D_299_302 rfl ?_
    refine mjq_ic (v := (-1 : Int32)) D_299_303 rfl ?_
    refine mjq_vN (As := [.int (-1 : Int32)]) (rest := []) D_299_304 mr_12_535 V_322 rfl rfl rfl hR (Nat.le_refl _) h1 h2 h (fun  hp2 h => ?_)
    exact mjq_nret D_299_307 rfl h1 h2 h
noncomputable def b_299_289 (R : mjR) (k245 : Nat → Int32 → mjH → mjU) (l0 : Nat) (l3 : Int32) (hp : mjH) : mjU := k245 l0 (l3 + (1 : Int32)) hp
theorem t_299_289 {X : mjX} {d C S kc ks : Nat} {R : mjR} (hR : mjC R d) (h1 : kc ≤ C) (h2 : ks ≤ S) {k245 : Nat → Int32 → mjH → mjU} (hk245 : P_299_245 X (d + 1) C S kc ks k245) : P_299_289 X (d + 1) C S kc ks (b_299_289 R k245) := by
  intro l0 l3 hp q h
  unfold b_299_289 at h
  refine mjq_iinc (x := l3) (c := (1 : Int32)) (lo' := [some (.ref l0), none, none, some (.int (l3 + (1 : Int32)))]) D_299_289 rfl (Nat.le_of_ble_eq_true rfl) rfl rfl ?_
  refine mjr_goto (tgt := 245) D_299_292 rfl ?_
  exact hk245 _ _ _ _ h
noncomputable def b_299_245 (R : mjR) (k245 : Nat → Int32 → mjH → mjU) (l0 : Nat) (l3 : Int32) (hp : mjH) : mjU := gI hp l0 12 63 (fun v1 => gR hp l0 12 31 (fun v2 => gI hp l0 12 63 (fun v3 => aI hp v2 v3 (fun v4 => (if (((400 : Int32) * v1) + v4) ≤ l3 then b_299_295 R l0 hp else gI hp l0 12 61 (fun v5 => (if v5 = 0 then gR hp l0 12 36 (fun v6 => aI hp v6 l3 (fun v7 => (if v7 = (1 : Int32) then rV hp l0 12 (bN (R 322 [.ref l0, .int l3] hp) (fun  hp8 => b_299_289 R k245 l0 l3 hp8)) else b_299_289 R k245 l0 l3 hp))) else b_299_295 R l0 hp)))))))
theorem t_299_245 {X : mjX} {d C S kc ks : Nat} {R : mjR} (hR : mjC R d) (h1 : kc ≤ C) (h2 : ks ≤ S) {k245 : Nat → Int32 → mjH → mjU} (hk245 : P_299_245 X (d + 1) C S kc ks k245) : P_299_245 X (d + 1) C S kc ks (b_299_245 R k245) := by
  intro l0 l3 hp q h
  unfold b_299_245 at h
  refine mjr_iload_n (x := l3) D_299_245 rfl ?_
  refine mjq_si (v := (400 : Int32)) D_299_246 rfl ?_
  refine mjr_aload_n (x := l0) D_299_249 rfl ?_
  refine mjq_gI D_299_250 fr_12_356 h (fun v1 h => ?_)
  refine mjr_imul D_299_253 ?_
  refine mjr_aload_n (x := l0) D_299_254 rfl ?_
  refine mjq_gR D_299_255 fr_12_79 h (fun v2 h => ?_)
  refine mjr_aload_n (x := l0) D_299_258 rfl ?_
  refine mjq_gI D_299_259 fr_12_356 h (fun v3 h => ?_)
  refine mjq_aI D_299_262 h (fun v4 h => ?_)
  refine mjr_iadd D_299_263 ?_
  refine mjq_icmp_ge (tgt := 295) D_299_264 rfl h (fun h => ?_) (fun h => ?_)
  · exact mjG.fg (lo' := [some (.ref l0), none, none, none]) (And.intro rfl True.intro) ((t_299_295 hR h1 h2) _ _ _ h)
  · refine mjr_aload_n (x := l0) D_299_267 rfl ?_
    refine mjq_gI D_299_268 fr_12_333 h (fun v5 h => ?_)
    refine mjq_if_ne (tgt := 295) D_299_271 rfl h (fun h => ?_) (fun h => ?_)
    · exact mjG.fg (lo' := [some (.ref l0), none, none, none]) (And.intro rfl True.intro) ((t_299_295 hR h1 h2) _ _ _ h)
    · refine mjr_aload_n (x := l0) D_299_274 rfl ?_
      refine mjq_gR D_299_275 fr_12_94 h (fun v6 h => ?_)
      refine mjr_iload_n (x := l3) D_299_278 rfl ?_
      refine mjq_aI D_299_279 h (fun v7 h => ?_)
      refine mjq_ic (v := (1 : Int32)) D_299_280 rfl ?_
      refine mjq_icmp_ne (tgt := 289) D_299_281 rfl h (fun h => ?_) (fun h => ?_)
      · exact (t_299_289 hR h1 h2 hk245) _ _ _ _ h
      · refine mjr_aload_n (x := l0) D_299_284 rfl ?_
        refine mjr_iload_n (x := l3) D_299_285 rfl ?_
        refine mjq_vN (As := [.int l3]) (rest := []) D_299_286 mr_12_535 V_322 rfl rfl rfl hR (Nat.le_refl _) h1 h2 h (fun  hp8 h => ?_)
        exact (t_299_289 hR h1 h2 hk245) _ _ _ _ h
noncomputable def L_299_245 (R : mjR) (n : Nat) : Nat → Int32 → mjH → mjU := Nat.rec (motive := fun _ => Nat → Int32 → mjH → mjU) (fun _ _ _ => none) (fun _ self => b_299_245 R self) n
theorem T_299_245 {X : mjX} {d C S kc ks : Nat} {R : mjR} (hR : mjC R d) (h1 : kc ≤ C) (h2 : ks ≤ S) (n : Nat) : P_299_245 X (d + 1) C S kc ks (L_299_245 R n) := by
  induction n with
  | zero => intro _ _ _ _ h; exact mj_no h
  | succ n ih => exact t_299_245 hR h1 h2 ih
noncomputable def b_299_218 (R : mjR) (k218 : Nat → Int32 → Int32 → Int32 → mjH → mjU) (l0 : Nat) (l1 : Int32) (l2 : Int32) (l3 : Int32) (hp : mjH) : mjU := (if (l1 + l2) ≤ l3 then gI hp l0 12 63 (fun v1 => L_299_245 R mjN l0 ((400 : Int32) * v1) hp) else rV hp l0 12 (bN (R 321 [.ref l0, .int l3] hp) (fun  hp2 => k218 l0 l1 l2 (l3 + (1 : Int32)) hp2)))
theorem t_299_218 {X : mjX} {d C S kc ks : Nat} {R : mjR} (hR : mjC R d) (h1 : kc ≤ C) (h2 : ks ≤ S) {k218 : Nat → Int32 → Int32 → Int32 → mjH → mjU} (hk218 : P_299_218 X (d + 1) C S kc ks k218) : P_299_218 X (d + 1) C S kc ks (b_299_218 R k218) := by
  intro l0 l1 l2 l3 hp q h
  unfold b_299_218 at h
  refine mjr_iload_n (x := l3) D_299_218 rfl ?_
  refine mjr_iload_n (x := l1) D_299_219 rfl ?_
  refine mjr_iload_n (x := l2) D_299_220 rfl ?_
  refine mjr_iadd D_299_221 ?_
  refine mjq_icmp_ge (tgt := 236) D_299_222 rfl h (fun h => ?_) (fun h => ?_)
  · refine mjq_si (v := (400 : Int32)) D_299_236 rfl ?_
    refine mjr_aload_n (x := l0) D_299_239 rfl ?_
    refine mjq_gI D_299_240 fr_12_356 h (fun v1 h => ?_)
    refine mjr_imul D_299_243 ?_
    refine mjq_istore_n (lo' := [some (.ref l0), some (.int l1), some (.int l2), some (.int ((400 : Int32) * v1))]) D_299_244 (Nat.le_of_ble_eq_true rfl) rfl ?_
    exact mjG.fg (lo' := [some (.ref l0), none, none, some (.int ((400 : Int32) * v1))]) (And.intro rfl (And.intro rfl True.intro)) ((T_299_245 hR h1 h2 mjN) _ _ _ _ h)
  · refine mjr_aload_n (x := l0) D_299_225 rfl ?_
    refine mjr_iload_n (x := l3) D_299_226 rfl ?_
    refine mjq_vN (As := [.int l3]) (rest := []) D_299_227 mr_12_532 V_321 rfl rfl rfl hR (Nat.le_refl _) h1 h2 h (fun  hp2 h => ?_)
    refine mjq_iinc (x := l3) (c := (1 : Int32)) (lo' := [some (.ref l0), some (.int l1), some (.int l2), some (.int (l3 + (1 : Int32)))]) D_299_230 rfl (Nat.le_of_ble_eq_true rfl) rfl rfl ?_
    refine mjr_goto (tgt := 218) D_299_233 rfl ?_
    exact hk218 _ _ _ _ _ _ h
noncomputable def L_299_218 (R : mjR) (n : Nat) : Nat → Int32 → Int32 → Int32 → mjH → mjU := Nat.rec (motive := fun _ => Nat → Int32 → Int32 → Int32 → mjH → mjU) (fun _ _ _ _ _ => none) (fun _ self => b_299_218 R self) n
theorem T_299_218 {X : mjX} {d C S kc ks : Nat} {R : mjR} (hR : mjC R d) (h1 : kc ≤ C) (h2 : ks ≤ S) (n : Nat) : P_299_218 X (d + 1) C S kc ks (L_299_218 R n) := by
  induction n with
  | zero => intro _ _ _ _ _ _ h; exact mj_no h
  | succ n ih => exact t_299_218 hR h1 h2 ih
noncomputable def b_299_208 (R : mjR) (l0 : Nat) (l1 : Int32) (l2 : Int32) (hp : mjH) : mjU := gI hp l0 12 61 (fun v1 => (if v1 ≤ 0 then L_299_218 R mjN l0 l1 l2 l1 hp else some (none, hp)))
theorem t_299_208 {X : mjX} {d C S kc ks : Nat} {R : mjR} (hR : mjC R d) (h1 : kc ≤ C) (h2 : ks ≤ S) : P_299_208 X (d + 1) C S kc ks (b_299_208 R) := by
  intro l0 l1 l2 hp q h
  unfold b_299_208 at h
  refine mjr_aload_n (x := l0) D_299_208 rfl ?_
  refine mjq_gI D_299_209 fr_12_333 h (fun v1 h => ?_)
  refine mjq_if_le (tgt := 216) D_299_212 rfl h (fun h => ?_) (fun h => ?_)
  · refine mjr_iload_n (x := l1) D_299_216 rfl ?_
    refine mjq_istore_n (lo' := [some (.ref l0), some (.int l1), some (.int l2), some (.int l1)]) D_299_217 (Nat.le_of_ble_eq_true rfl) rfl ?_
    exact (T_299_218 hR h1 h2 mjN) _ _ _ _ _ _ h
  · exact mjq_nret D_299_215 rfl h1 h2 h
noncomputable def b_299_183 (R : mjR) (k183 : Nat → Int32 → Int32 → Int32 → mjH → mjU) (l0 : Nat) (l1 : Int32) (l2 : Int32) (l3 : Int32) (hp : mjH) : mjU := (if (l1 + l2) ≤ l3 then b_299_208 R l0 l1 l2 hp else gI hp l0 12 61 (fun v1 => (if v1 = 0 then rV hp l0 12 (bN (R 314 [.ref l0, .int l3] hp) (fun  hp2 => k183 l0 l1 l2 (l3 + (1 : Int32)) hp2)) else b_299_208 R l0 l1 l2 hp)))
theorem t_299_183 {X : mjX} {d C S kc ks : Nat} {R : mjR} (hR : mjC R d) (h1 : kc ≤ C) (h2 : ks ≤ S) {k183 : Nat → Int32 → Int32 → Int32 → mjH → mjU} (hk183 : P_299_183 X (d + 1) C S kc ks k183) : P_299_183 X (d + 1) C S kc ks (b_299_183 R k183) := by
  intro l0 l1 l2 l3 hp q h
  unfold b_299_183 at h
  refine mjr_iload_n (x := l3) D_299_183 rfl ?_
  refine mjr_iload_n (x := l1) D_299_184 rfl ?_
  refine mjr_iload_n (x := l2) D_299_185 rfl ?_
  refine mjr_iadd D_299_186 ?_
  refine mjq_icmp_ge (tgt := 208) D_299_187 rfl h (fun h => ?_) (fun h => ?_)
  · exact mjG.fg (lo' := [some (.ref l0), some (.int l1), some (.int l2), none]) (And.intro rfl (And.intro rfl (And.intro rfl True.intro))) ((t_299_208 hR h1 h2) _ _ _ _ _ h)
  · refine mjr_aload_n (x := l0) D_299_190 rfl ?_
    refine mjq_gI D_299_191 fr_12_333 h (fun v1 h => ?_)
    refine mjq_if_ne (tgt := 208) D_299_194 rfl h (fun h => ?_) (fun h => ?_)
    · exact mjG.fg (lo' := [some (.ref l0), some (.int l1), some (.int l2), none]) (And.intro rfl (And.intro rfl (And.intro rfl True.intro))) ((t_299_208 hR h1 h2) _ _ _ _ _ h)
    · refine mjr_aload_n (x := l0) D_299_197 rfl ?_
      refine mjr_iload_n (x := l3) D_299_198 rfl ?_
      refine mjq_vN (As := [.int l3]) (rest := []) D_299_199 mr_12_529 V_314 rfl rfl rfl hR (Nat.le_refl _) h1 h2 h (fun  hp2 h => ?_)
      refine mjq_iinc (x := l3) (c := (1 : Int32)) (lo' := [some (.ref l0), some (.int l1), some (.int l2), some (.int (l3 + (1 : Int32)))]) D_299_202 rfl (Nat.le_of_ble_eq_true rfl) rfl rfl ?_
      refine mjr_goto (tgt := 183) D_299_205 rfl ?_
      exact hk183 _ _ _ _ _ _ h
noncomputable def L_299_183 (R : mjR) (n : Nat) : Nat → Int32 → Int32 → Int32 → mjH → mjU := Nat.rec (motive := fun _ => Nat → Int32 → Int32 → Int32 → mjH → mjU) (fun _ _ _ _ _ => none) (fun _ self => b_299_183 R self) n
theorem T_299_183 {X : mjX} {d C S kc ks : Nat} {R : mjR} (hR : mjC R d) (h1 : kc ≤ C) (h2 : ks ≤ S) (n : Nat) : P_299_183 X (d + 1) C S kc ks (L_299_183 R n) := by
  induction n with
  | zero => intro _ _ _ _ _ _ h; exact mj_no h
  | succ n ih => exact t_299_183 hR h1 h2 ih
noncomputable def b_299_181 (R : mjR) (l0 : Nat) (l1 : Int32) (l2 : Int32) (hp : mjH) : mjU := L_299_183 R mjN l0 l1 l2 l1 hp
theorem t_299_181 {X : mjX} {d C S kc ks : Nat} {R : mjR} (hR : mjC R d) (h1 : kc ≤ C) (h2 : ks ≤ S) : P_299_181 X (d + 1) C S kc ks (b_299_181 R) := by
  intro l0 l1 l2 hp q h
  unfold b_299_181 at h
  refine mjr_iload_n (x := l1) D_299_181 rfl ?_
  refine mjq_istore_n (lo' := [some (.ref l0), some (.int l1), some (.int l2), some (.int l1)]) D_299_182 (Nat.le_of_ble_eq_true rfl) rfl ?_
  exact (T_299_183 hR h1 h2 mjN) _ _ _ _ _ _ h
noncomputable def b_299_156 (R : mjR) (k156 : Nat → Int32 → Int32 → Int32 → mjH → mjU) (l0 : Nat) (l1 : Int32) (l2 : Int32) (l3 : Int32) (hp : mjH) : mjU := (if (l1 + l2) ≤ l3 then b_299_181 R l0 l1 l2 hp else gI hp l0 12 61 (fun v1 => (if v1 = 0 then rV hp l0 12 (bN (R 309 [.ref l0, .int l3] hp) (fun  hp2 => k156 l0 l1 l2 (l3 + (1 : Int32)) hp2)) else b_299_181 R l0 l1 l2 hp)))
theorem t_299_156 {X : mjX} {d C S kc ks : Nat} {R : mjR} (hR : mjC R d) (h1 : kc ≤ C) (h2 : ks ≤ S) {k156 : Nat → Int32 → Int32 → Int32 → mjH → mjU} (hk156 : P_299_156 X (d + 1) C S kc ks k156) : P_299_156 X (d + 1) C S kc ks (b_299_156 R k156) := by
  intro l0 l1 l2 l3 hp q h
  unfold b_299_156 at h
  refine mjr_iload_n (x := l3) D_299_156 rfl ?_
  refine mjr_iload_n (x := l1) D_299_157 rfl ?_
  refine mjr_iload_n (x := l2) D_299_158 rfl ?_
  refine mjr_iadd D_299_159 ?_
  refine mjq_icmp_ge (tgt := 181) D_299_160 rfl h (fun h => ?_) (fun h => ?_)
  · exact mjG.fg (lo' := [some (.ref l0), some (.int l1), some (.int l2), none]) (And.intro rfl (And.intro rfl (And.intro rfl True.intro))) ((t_299_181 hR h1 h2) _ _ _ _ _ h)
  · refine mjr_aload_n (x := l0) D_299_163 rfl ?_
    refine mjq_gI D_299_164 fr_12_333 h (fun v1 h => ?_)
    refine mjq_if_ne (tgt := 181) D_299_167 rfl h (fun h => ?_) (fun h => ?_)
    · exact mjG.fg (lo' := [some (.ref l0), some (.int l1), some (.int l2), none]) (And.intro rfl (And.intro rfl (And.intro rfl True.intro))) ((t_299_181 hR h1 h2) _ _ _ _ _ h)
    · refine mjr_aload_n (x := l0) D_299_170 rfl ?_
      refine mjr_iload_n (x := l3) D_299_171 rfl ?_
      refine mjq_vN (As := [.int l3]) (rest := []) D_299_172 mr_12_526 V_309 rfl rfl rfl hR (Nat.le_refl _) h1 h2 h (fun  hp2 h => ?_)
      refine mjq_iinc (x := l3) (c := (1 : Int32)) (lo' := [some (.ref l0), some (.int l1), some (.int l2), some (.int (l3 + (1 : Int32)))]) D_299_175 rfl (Nat.le_of_ble_eq_true rfl) rfl rfl ?_
      refine mjr_goto (tgt := 156) D_299_178 rfl ?_
      exact hk156 _ _ _ _ _ _ h
noncomputable def L_299_156 (R : mjR) (n : Nat) : Nat → Int32 → Int32 → Int32 → mjH → mjU := Nat.rec (motive := fun _ => Nat → Int32 → Int32 → Int32 → mjH → mjU) (fun _ _ _ _ _ => none) (fun _ self => b_299_156 R self) n
theorem T_299_156 {X : mjX} {d C S kc ks : Nat} {R : mjR} (hR : mjC R d) (h1 : kc ≤ C) (h2 : ks ≤ S) (n : Nat) : P_299_156 X (d + 1) C S kc ks (L_299_156 R n) := by
  induction n with
  | zero => intro _ _ _ _ _ _ h; exact mj_no h
  | succ n ih => exact t_299_156 hR h1 h2 ih
noncomputable def b_299_154 (R : mjR) (l0 : Nat) (l1 : Int32) (l2 : Int32) (hp : mjH) : mjU := L_299_156 R mjN l0 l1 l2 l1 hp
theorem t_299_154 {X : mjX} {d C S kc ks : Nat} {R : mjR} (hR : mjC R d) (h1 : kc ≤ C) (h2 : ks ≤ S) : P_299_154 X (d + 1) C S kc ks (b_299_154 R) := by
  intro l0 l1 l2 hp q h
  unfold b_299_154 at h
  refine mjr_iload_n (x := l1) D_299_154 rfl ?_
  refine mjq_istore_n (lo' := [some (.ref l0), some (.int l1), some (.int l2), some (.int l1)]) D_299_155 (Nat.le_of_ble_eq_true rfl) rfl ?_
  exact (T_299_156 hR h1 h2 mjN) _ _ _ _ _ _ h
noncomputable def b_299_129 (R : mjR) (k129 : Nat → Int32 → Int32 → Int32 → mjH → mjU) (l0 : Nat) (l1 : Int32) (l2 : Int32) (l3 : Int32) (hp : mjH) : mjU := (if (l1 + l2) ≤ l3 then b_299_154 R l0 l1 l2 hp else gI hp l0 12 61 (fun v1 => (if v1 = 0 then rV hp l0 12 (bN (R 308 [.ref l0, .int l3] hp) (fun  hp2 => k129 l0 l1 l2 (l3 + (1 : Int32)) hp2)) else b_299_154 R l0 l1 l2 hp)))
theorem t_299_129 {X : mjX} {d C S kc ks : Nat} {R : mjR} (hR : mjC R d) (h1 : kc ≤ C) (h2 : ks ≤ S) {k129 : Nat → Int32 → Int32 → Int32 → mjH → mjU} (hk129 : P_299_129 X (d + 1) C S kc ks k129) : P_299_129 X (d + 1) C S kc ks (b_299_129 R k129) := by
  intro l0 l1 l2 l3 hp q h
  unfold b_299_129 at h
  refine mjr_iload_n (x := l3) D_299_129 rfl ?_
  refine mjr_iload_n (x := l1) D_299_130 rfl ?_
  refine mjr_iload_n (x := l2) D_299_131 rfl ?_
  refine mjr_iadd D_299_132 ?_
  refine mjq_icmp_ge (tgt := 154) D_299_133 rfl h (fun h => ?_) (fun h => ?_)
  · exact mjG.fg (lo' := [some (.ref l0), some (.int l1), some (.int l2), none]) (And.intro rfl (And.intro rfl (And.intro rfl True.intro))) ((t_299_154 hR h1 h2) _ _ _ _ _ h)
  · refine mjr_aload_n (x := l0) D_299_136 rfl ?_
    refine mjq_gI D_299_137 fr_12_333 h (fun v1 h => ?_)
    refine mjq_if_ne (tgt := 154) D_299_140 rfl h (fun h => ?_) (fun h => ?_)
    · exact mjG.fg (lo' := [some (.ref l0), some (.int l1), some (.int l2), none]) (And.intro rfl (And.intro rfl (And.intro rfl True.intro))) ((t_299_154 hR h1 h2) _ _ _ _ _ h)
    · refine mjr_aload_n (x := l0) D_299_143 rfl ?_
      refine mjr_iload_n (x := l3) D_299_144 rfl ?_
      refine mjq_vN (As := [.int l3]) (rest := []) D_299_145 mr_12_523 V_308 rfl rfl rfl hR (Nat.le_refl _) h1 h2 h (fun  hp2 h => ?_)
      refine mjq_iinc (x := l3) (c := (1 : Int32)) (lo' := [some (.ref l0), some (.int l1), some (.int l2), some (.int (l3 + (1 : Int32)))]) D_299_148 rfl (Nat.le_of_ble_eq_true rfl) rfl rfl ?_
      refine mjr_goto (tgt := 129) D_299_151 rfl ?_
      exact hk129 _ _ _ _ _ _ h
noncomputable def L_299_129 (R : mjR) (n : Nat) : Nat → Int32 → Int32 → Int32 → mjH → mjU := Nat.rec (motive := fun _ => Nat → Int32 → Int32 → Int32 → mjH → mjU) (fun _ _ _ _ _ => none) (fun _ self => b_299_129 R self) n
theorem T_299_129 {X : mjX} {d C S kc ks : Nat} {R : mjR} (hR : mjC R d) (h1 : kc ≤ C) (h2 : ks ≤ S) (n : Nat) : P_299_129 X (d + 1) C S kc ks (L_299_129 R n) := by
  induction n with
  | zero => intro _ _ _ _ _ _ h; exact mj_no h
  | succ n ih => exact t_299_129 hR h1 h2 ih
noncomputable def b_299_127 (R : mjR) (l0 : Nat) (l1 : Int32) (l2 : Int32) (hp : mjH) : mjU := L_299_129 R mjN l0 l1 l2 l1 hp
theorem t_299_127 {X : mjX} {d C S kc ks : Nat} {R : mjR} (hR : mjC R d) (h1 : kc ≤ C) (h2 : ks ≤ S) : P_299_127 X (d + 1) C S kc ks (b_299_127 R) := by
  intro l0 l1 l2 hp q h
  unfold b_299_127 at h
  refine mjr_iload_n (x := l1) D_299_127 rfl ?_
  refine mjq_istore_n (lo' := [some (.ref l0), some (.int l1), some (.int l2), some (.int l1)]) D_299_128 (Nat.le_of_ble_eq_true rfl) rfl ?_
  exact (T_299_129 hR h1 h2 mjN) _ _ _ _ _ _ h
noncomputable def b_299_102 (R : mjR) (k102 : Nat → Int32 → Int32 → Int32 → mjH → mjU) (l0 : Nat) (l1 : Int32) (l2 : Int32) (l3 : Int32) (hp : mjH) : mjU := (if (l1 + l2) ≤ l3 then b_299_127 R l0 l1 l2 hp else gI hp l0 12 61 (fun v1 => (if v1 = 0 then rV hp l0 12 (bN (R 307 [.ref l0, .int l3] hp) (fun  hp2 => k102 l0 l1 l2 (l3 + (1 : Int32)) hp2)) else b_299_127 R l0 l1 l2 hp)))
theorem t_299_102 {X : mjX} {d C S kc ks : Nat} {R : mjR} (hR : mjC R d) (h1 : kc ≤ C) (h2 : ks ≤ S) {k102 : Nat → Int32 → Int32 → Int32 → mjH → mjU} (hk102 : P_299_102 X (d + 1) C S kc ks k102) : P_299_102 X (d + 1) C S kc ks (b_299_102 R k102) := by
  intro l0 l1 l2 l3 hp q h
  unfold b_299_102 at h
  refine mjr_iload_n (x := l3) D_299_102 rfl ?_
  refine mjr_iload_n (x := l1) D_299_103 rfl ?_
  refine mjr_iload_n (x := l2) D_299_104 rfl ?_
  refine mjr_iadd D_299_105 ?_
  refine mjq_icmp_ge (tgt := 127) D_299_106 rfl h (fun h => ?_) (fun h => ?_)
  · exact mjG.fg (lo' := [some (.ref l0), some (.int l1), some (.int l2), none]) (And.intro rfl (And.intro rfl (And.intro rfl True.intro))) ((t_299_127 hR h1 h2) _ _ _ _ _ h)
  · refine mjr_aload_n (x := l0) D_299_109 rfl ?_
    refine mjq_gI D_299_110 fr_12_333 h (fun v1 h => ?_)
    refine mjq_if_ne (tgt := 127) D_299_113 rfl h (fun h => ?_) (fun h => ?_)
    · exact mjG.fg (lo' := [some (.ref l0), some (.int l1), some (.int l2), none]) (And.intro rfl (And.intro rfl (And.intro rfl True.intro))) ((t_299_127 hR h1 h2) _ _ _ _ _ h)
    · refine mjr_aload_n (x := l0) D_299_116 rfl ?_
      refine mjr_iload_n (x := l3) D_299_117 rfl ?_
      refine mjq_vN (As := [.int l3]) (rest := []) D_299_118 mr_12_520 V_307 rfl rfl rfl hR (Nat.le_refl _) h1 h2 h (fun  hp2 h => ?_)
      refine mjq_iinc (x := l3) (c := (1 : Int32)) (lo' := [some (.ref l0), some (.int l1), some (.int l2), some (.int (l3 + (1 : Int32)))]) D_299_121 rfl (Nat.le_of_ble_eq_true rfl) rfl rfl ?_
      refine mjr_goto (tgt := 102) D_299_124 rfl ?_
      exact hk102 _ _ _ _ _ _ h
noncomputable def L_299_102 (R : mjR) (n : Nat) : Nat → Int32 → Int32 → Int32 → mjH → mjU := Nat.rec (motive := fun _ => Nat → Int32 → Int32 → Int32 → mjH → mjU) (fun _ _ _ _ _ => none) (fun _ self => b_299_102 R self) n
theorem T_299_102 {X : mjX} {d C S kc ks : Nat} {R : mjR} (hR : mjC R d) (h1 : kc ≤ C) (h2 : ks ≤ S) (n : Nat) : P_299_102 X (d + 1) C S kc ks (L_299_102 R n) := by
  induction n with
  | zero => intro _ _ _ _ _ _ h; exact mj_no h
  | succ n ih => exact t_299_102 hR h1 h2 ih
noncomputable def b_299_100 (R : mjR) (l0 : Nat) (l1 : Int32) (l2 : Int32) (hp : mjH) : mjU := L_299_102 R mjN l0 l1 l2 l1 hp
theorem t_299_100 {X : mjX} {d C S kc ks : Nat} {R : mjR} (hR : mjC R d) (h1 : kc ≤ C) (h2 : ks ≤ S) : P_299_100 X (d + 1) C S kc ks (b_299_100 R) := by
  intro l0 l1 l2 hp q h
  unfold b_299_100 at h
  refine mjr_iload_n (x := l1) D_299_100 rfl ?_
  refine mjq_istore_n (lo' := [some (.ref l0), some (.int l1), some (.int l2), some (.int l1)]) D_299_101 (Nat.le_of_ble_eq_true rfl) rfl ?_
  exact (T_299_102 hR h1 h2 mjN) _ _ _ _ _ _ h
noncomputable def b_299_75 (R : mjR) (k75 : Nat → Int32 → Int32 → Int32 → mjH → mjU) (l0 : Nat) (l1 : Int32) (l2 : Int32) (l3 : Int32) (hp : mjH) : mjU := (if (l1 + l2) ≤ l3 then b_299_100 R l0 l1 l2 hp else gI hp l0 12 61 (fun v1 => (if v1 = 0 then rV hp l0 12 (bN (R 306 [.ref l0, .int l3] hp) (fun  hp2 => k75 l0 l1 l2 (l3 + (1 : Int32)) hp2)) else b_299_100 R l0 l1 l2 hp)))
theorem t_299_75 {X : mjX} {d C S kc ks : Nat} {R : mjR} (hR : mjC R d) (h1 : kc ≤ C) (h2 : ks ≤ S) {k75 : Nat → Int32 → Int32 → Int32 → mjH → mjU} (hk75 : P_299_75 X (d + 1) C S kc ks k75) : P_299_75 X (d + 1) C S kc ks (b_299_75 R k75) := by
  intro l0 l1 l2 l3 hp q h
  unfold b_299_75 at h
  refine mjr_iload_n (x := l3) D_299_75 rfl ?_
  refine mjr_iload_n (x := l1) D_299_76 rfl ?_
  refine mjr_iload_n (x := l2) D_299_77 rfl ?_
  refine mjr_iadd D_299_78 ?_
  refine mjq_icmp_ge (tgt := 100) D_299_79 rfl h (fun h => ?_) (fun h => ?_)
  · exact mjG.fg (lo' := [some (.ref l0), some (.int l1), some (.int l2), none]) (And.intro rfl (And.intro rfl (And.intro rfl True.intro))) ((t_299_100 hR h1 h2) _ _ _ _ _ h)
  · refine mjr_aload_n (x := l0) D_299_82 rfl ?_
    refine mjq_gI D_299_83 fr_12_333 h (fun v1 h => ?_)
    refine mjq_if_ne (tgt := 100) D_299_86 rfl h (fun h => ?_) (fun h => ?_)
    · exact mjG.fg (lo' := [some (.ref l0), some (.int l1), some (.int l2), none]) (And.intro rfl (And.intro rfl (And.intro rfl True.intro))) ((t_299_100 hR h1 h2) _ _ _ _ _ h)
    · refine mjr_aload_n (x := l0) D_299_89 rfl ?_
      refine mjr_iload_n (x := l3) D_299_90 rfl ?_
      refine mjq_vN (As := [.int l3]) (rest := []) D_299_91 mr_12_517 V_306 rfl rfl rfl hR (Nat.le_refl _) h1 h2 h (fun  hp2 h => ?_)
      refine mjq_iinc (x := l3) (c := (1 : Int32)) (lo' := [some (.ref l0), some (.int l1), some (.int l2), some (.int (l3 + (1 : Int32)))]) D_299_94 rfl (Nat.le_of_ble_eq_true rfl) rfl rfl ?_
      refine mjr_goto (tgt := 75) D_299_97 rfl ?_
      exact hk75 _ _ _ _ _ _ h
noncomputable def L_299_75 (R : mjR) (n : Nat) : Nat → Int32 → Int32 → Int32 → mjH → mjU := Nat.rec (motive := fun _ => Nat → Int32 → Int32 → Int32 → mjH → mjU) (fun _ _ _ _ _ => none) (fun _ self => b_299_75 R self) n
theorem T_299_75 {X : mjX} {d C S kc ks : Nat} {R : mjR} (hR : mjC R d) (h1 : kc ≤ C) (h2 : ks ≤ S) (n : Nat) : P_299_75 X (d + 1) C S kc ks (L_299_75 R n) := by
  induction n with
  | zero => intro _ _ _ _ _ _ h; exact mj_no h
  | succ n ih => exact t_299_75 hR h1 h2 ih
noncomputable def b_299_73 (R : mjR) (l0 : Nat) (l1 : Int32) (l2 : Int32) (hp : mjH) : mjU := L_299_75 R mjN l0 l1 l2 l1 hp
theorem t_299_73 {X : mjX} {d C S kc ks : Nat} {R : mjR} (hR : mjC R d) (h1 : kc ≤ C) (h2 : ks ≤ S) : P_299_73 X (d + 1) C S kc ks (b_299_73 R) := by
  intro l0 l1 l2 hp q h
  unfold b_299_73 at h
  refine mjr_iload_n (x := l1) D_299_73 rfl ?_
  refine mjq_istore_n (lo' := [some (.ref l0), some (.int l1), some (.int l2), some (.int l1)]) D_299_74 (Nat.le_of_ble_eq_true rfl) rfl ?_
  exact (T_299_75 hR h1 h2 mjN) _ _ _ _ _ _ h
noncomputable def b_299_48 (R : mjR) (k48 : Nat → Int32 → Int32 → Int32 → mjH → mjU) (l0 : Nat) (l1 : Int32) (l2 : Int32) (l3 : Int32) (hp : mjH) : mjU := (if (l1 + l2) ≤ l3 then b_299_73 R l0 l1 l2 hp else gI hp l0 12 61 (fun v1 => (if v1 = 0 then rV hp l0 12 (bN (R 301 [.ref l0, .int l3] hp) (fun  hp2 => k48 l0 l1 l2 (l3 + (1 : Int32)) hp2)) else b_299_73 R l0 l1 l2 hp)))
theorem t_299_48 {X : mjX} {d C S kc ks : Nat} {R : mjR} (hR : mjC R d) (h1 : kc ≤ C) (h2 : ks ≤ S) {k48 : Nat → Int32 → Int32 → Int32 → mjH → mjU} (hk48 : P_299_48 X (d + 1) C S kc ks k48) : P_299_48 X (d + 1) C S kc ks (b_299_48 R k48) := by
  intro l0 l1 l2 l3 hp q h
  unfold b_299_48 at h
  refine mjr_iload_n (x := l3) D_299_48 rfl ?_
  refine mjr_iload_n (x := l1) D_299_49 rfl ?_
  refine mjr_iload_n (x := l2) D_299_50 rfl ?_
  refine mjr_iadd D_299_51 ?_
  refine mjq_icmp_ge (tgt := 73) D_299_52 rfl h (fun h => ?_) (fun h => ?_)
  · exact mjG.fg (lo' := [some (.ref l0), some (.int l1), some (.int l2), none]) (And.intro rfl (And.intro rfl (And.intro rfl True.intro))) ((t_299_73 hR h1 h2) _ _ _ _ _ h)
  · refine mjr_aload_n (x := l0) D_299_55 rfl ?_
    refine mjq_gI D_299_56 fr_12_333 h (fun v1 h => ?_)
    refine mjq_if_ne (tgt := 73) D_299_59 rfl h (fun h => ?_) (fun h => ?_)
    · exact mjG.fg (lo' := [some (.ref l0), some (.int l1), some (.int l2), none]) (And.intro rfl (And.intro rfl (And.intro rfl True.intro))) ((t_299_73 hR h1 h2) _ _ _ _ _ h)
    · refine mjr_aload_n (x := l0) D_299_62 rfl ?_
      refine mjr_iload_n (x := l3) D_299_63 rfl ?_
      refine mjq_vN (As := [.int l3]) (rest := []) D_299_64 mr_12_514 V_301 rfl rfl rfl hR (Nat.le_refl _) h1 h2 h (fun  hp2 h => ?_)
      refine mjq_iinc (x := l3) (c := (1 : Int32)) (lo' := [some (.ref l0), some (.int l1), some (.int l2), some (.int (l3 + (1 : Int32)))]) D_299_67 rfl (Nat.le_of_ble_eq_true rfl) rfl rfl ?_
      refine mjr_goto (tgt := 48) D_299_70 rfl ?_
      exact hk48 _ _ _ _ _ _ h
noncomputable def L_299_48 (R : mjR) (n : Nat) : Nat → Int32 → Int32 → Int32 → mjH → mjU := Nat.rec (motive := fun _ => Nat → Int32 → Int32 → Int32 → mjH → mjU) (fun _ _ _ _ _ => none) (fun _ self => b_299_48 R self) n
theorem T_299_48 {X : mjX} {d C S kc ks : Nat} {R : mjR} (hR : mjC R d) (h1 : kc ≤ C) (h2 : ks ≤ S) (n : Nat) : P_299_48 X (d + 1) C S kc ks (L_299_48 R n) := by
  induction n with
  | zero => intro _ _ _ _ _ _ h; exact mj_no h
  | succ n ih => exact t_299_48 hR h1 h2 ih
noncomputable def b_299_46 (R : mjR) (l0 : Nat) (l1 : Int32) (l2 : Int32) (hp : mjH) : mjU := L_299_48 R mjN l0 l1 l2 l1 hp
theorem t_299_46 {X : mjX} {d C S kc ks : Nat} {R : mjR} (hR : mjC R d) (h1 : kc ≤ C) (h2 : ks ≤ S) : P_299_46 X (d + 1) C S kc ks (b_299_46 R) := by
  intro l0 l1 l2 hp q h
  unfold b_299_46 at h
  refine mjr_iload_n (x := l1) D_299_46 rfl ?_
  refine mjq_istore_n (lo' := [some (.ref l0), some (.int l1), some (.int l2), some (.int l1)]) D_299_47 (Nat.le_of_ble_eq_true rfl) rfl ?_
  exact (T_299_48 hR h1 h2 mjN) _ _ _ _ _ _ h
noncomputable def b_299_20 (R : mjR) (k20 : Nat → Int32 → Int32 → Int32 → mjH → mjU) (l0 : Nat) (l1 : Int32) (l2 : Int32) (l3 : Int32) (hp : mjH) : mjU := (if (l1 + l2) ≤ l3 then b_299_46 R l0 l1 l2 hp else gI hp l0 12 61 (fun v1 => (if v1 = 0 then rV hp l0 12 (bN (R 300 [.ref l0, .int l3, .int l1] hp) (fun  hp2 => k20 l0 l1 l2 (l3 + (1 : Int32)) hp2)) else b_299_46 R l0 l1 l2 hp)))
theorem t_299_20 {X : mjX} {d C S kc ks : Nat} {R : mjR} (hR : mjC R d) (h1 : kc ≤ C) (h2 : ks ≤ S) {k20 : Nat → Int32 → Int32 → Int32 → mjH → mjU} (hk20 : P_299_20 X (d + 1) C S kc ks k20) : P_299_20 X (d + 1) C S kc ks (b_299_20 R k20) := by
  intro l0 l1 l2 l3 hp q h
  unfold b_299_20 at h
  refine mjr_iload_n (x := l3) D_299_20 rfl ?_
  refine mjr_iload_n (x := l1) D_299_21 rfl ?_
  refine mjr_iload_n (x := l2) D_299_22 rfl ?_
  refine mjr_iadd D_299_23 ?_
  refine mjq_icmp_ge (tgt := 46) D_299_24 rfl h (fun h => ?_) (fun h => ?_)
  · exact mjG.fg (lo' := [some (.ref l0), some (.int l1), some (.int l2), none]) (And.intro rfl (And.intro rfl (And.intro rfl True.intro))) ((t_299_46 hR h1 h2) _ _ _ _ _ h)
  · refine mjr_aload_n (x := l0) D_299_27 rfl ?_
    refine mjq_gI D_299_28 fr_12_333 h (fun v1 h => ?_)
    refine mjq_if_ne (tgt := 46) D_299_31 rfl h (fun h => ?_) (fun h => ?_)
    · exact mjG.fg (lo' := [some (.ref l0), some (.int l1), some (.int l2), none]) (And.intro rfl (And.intro rfl (And.intro rfl True.intro))) ((t_299_46 hR h1 h2) _ _ _ _ _ h)
    · refine mjr_aload_n (x := l0) D_299_34 rfl ?_
      refine mjr_iload_n (x := l3) D_299_35 rfl ?_
      refine mjr_iload_n (x := l1) D_299_36 rfl ?_
      refine mjq_vN (As := [.int l3, .int l1]) (rest := []) D_299_37 mr_12_511 V_300 rfl rfl rfl hR (Nat.le_refl _) h1 h2 h (fun  hp2 h => ?_)
      refine mjq_iinc (x := l3) (c := (1 : Int32)) (lo' := [some (.ref l0), some (.int l1), some (.int l2), some (.int (l3 + (1 : Int32)))]) D_299_40 rfl (Nat.le_of_ble_eq_true rfl) rfl rfl ?_
      refine mjr_goto (tgt := 20) D_299_43 rfl ?_
      exact hk20 _ _ _ _ _ _ h
noncomputable def L_299_20 (R : mjR) (n : Nat) : Nat → Int32 → Int32 → Int32 → mjH → mjU := Nat.rec (motive := fun _ => Nat → Int32 → Int32 → Int32 → mjH → mjU) (fun _ _ _ _ _ => none) (fun _ self => b_299_20 R self) n
theorem T_299_20 {X : mjX} {d C S kc ks : Nat} {R : mjR} (hR : mjC R d) (h1 : kc ≤ C) (h2 : ks ≤ S) (n : Nat) : P_299_20 X (d + 1) C S kc ks (L_299_20 R n) := by
  induction n with
  | zero => intro _ _ _ _ _ _ h; exact mj_no h
  | succ n ih => exact t_299_20 hR h1 h2 ih
noncomputable def b_299_0 (R : mjR) (l0 : Nat) (hp : mjH) : mjU := gI hp l0 12 63 (fun v1 => gR hp l0 12 11 (fun v2 => gI hp l0 12 63 (fun v3 => aI hp v2 v3 (fun v4 => L_299_20 R mjN l0 ((16 : Int32) * v1) v4 ((16 : Int32) * v1) hp))))
theorem t_299_0 {X : mjX} {d C S kc ks : Nat} {R : mjR} (hR : mjC R d) (h1 : kc ≤ C) (h2 : ks ≤ S) : P_299_0 X (d + 1) C S kc ks (b_299_0 R) := by
  intro l0 hp q h
  unfold b_299_0 at h
  refine mjq_bi (v := (16 : Int32)) D_299_0 rfl ?_
  refine mjr_aload_n (x := l0) D_299_2 rfl ?_
  refine mjq_gI D_299_3 fr_12_356 h (fun v1 h => ?_)
  refine mjr_imul D_299_6 ?_
  refine mjq_istore_n (lo' := [some (.ref l0), some (.int ((16 : Int32) * v1)), none, none]) D_299_7 (Nat.le_of_ble_eq_true rfl) rfl ?_
  refine mjr_aload_n (x := l0) D_299_8 rfl ?_
  refine mjq_gR D_299_9 fr_12_17 h (fun v2 h => ?_)
  refine mjr_aload_n (x := l0) D_299_12 rfl ?_
  refine mjq_gI D_299_13 fr_12_356 h (fun v3 h => ?_)
  refine mjq_aI D_299_16 h (fun v4 h => ?_)
  refine mjq_istore_n (lo' := [some (.ref l0), some (.int ((16 : Int32) * v1)), some (.int v4), none]) D_299_17 (Nat.le_of_ble_eq_true rfl) rfl ?_
  refine mjr_iload_n (x := ((16 : Int32) * v1)) D_299_18 rfl ?_
  refine mjq_istore_n (lo' := [some (.ref l0), some (.int ((16 : Int32) * v1)), some (.int v4), some (.int ((16 : Int32) * v1))]) D_299_19 (Nat.le_of_ble_eq_true rfl) rfl ?_
  exact (T_299_20 hR h1 h2 mjN) _ _ _ _ _ _ h
noncomputable def f_299 (R : mjR) (a0 : Nat) (hp : mjH) : mjU := b_299_0 R a0 hp
theorem c_299 {R : mjR} {d : Nat} (hR : mjC R d) {a0 : Nat} {hp : mjH} {q : Option Value × mjH} (h : f_299 R a0 hp = some q) : mjM (d + 1) 0 0 299 [.ref a0] hp (mjEq q) :=
  mjM_of Ja_299 (Nat.le_of_ble_eq_true rfl) (mjG.fg (lo' := [some (.ref a0), none, none, none]) (And.intro rfl True.intro) ((t_299_0 hR (Nat.le_refl 0) (Nat.le_refl 0)) a0 hp q h))
