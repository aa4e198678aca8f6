def J_337 : mjI := (⟨"OwnerHeapModel", "type", "(II)I"⟩, 12, prog_14_method_114_code, 4, (some .int), 2, false)
theorem Ja_337 : mjMt 337 = some J_337 := by rfl
theorem D_337_0 : decode J_337.2.2.1 0 = .ok (.aload_n 0, 1) := dzq_42 (by decide +kernel)
theorem D_337_1 : decode J_337.2.2.1 1 = .ok (.iload_n 1, 1) := dzq_27 (by decide +kernel)
theorem D_337_2 : decode J_337.2.2.1 2 = .ok (.invokevirtual 759, 3) := dzq_182 (by decide +kernel)
theorem D_337_5 : decode J_337.2.2.1 5 = .ok (.ifCond .ne 5, 3) := dzq_154 (by decide +kernel)
theorem D_337_8 : decode J_337.2.2.1 8 = .ok (.iconst (-1), 1) := dzq_2 (by decide +kernel)
theorem D_337_9 : decode J_337.2.2.1 9 = .ok (.ireturn, 1) := dzq_172 (by decide +kernel)
theorem D_337_10 : decode J_337.2.2.1 10 = .ok (.bipush 16, 2) := dzq_16 (by decide +kernel)
theorem D_337_12 : decode J_337.2.2.1 12 = .ok (.aload_n 0, 1) := dzq_42 (by decide +kernel)
theorem D_337_13 : decode J_337.2.2.1 13 = .ok (.getfield 648, 3) := dzq_180 (by decide +kernel)
theorem D_337_16 : decode J_337.2.2.1 16 = .ok (.imul, 1) := dzq_104 (by decide +kernel)
theorem D_337_17 : decode J_337.2.2.1 17 = .ok (.iload_n 1, 1) := dzq_27 (by decide +kernel)
theorem D_337_18 : decode J_337.2.2.1 18 = .ok (.iadd, 1) := dzq_96 (by decide +kernel)
theorem D_337_19 : decode J_337.2.2.1 19 = .ok (.istore_n 3, 1) := dzq_62 (by decide +kernel)
theorem D_337_20 : decode J_337.2.2.1 20 = .ok (.iload_n 2, 1) := dzq_28 (by decide +kernel)
theorem D_337_21 : decode J_337.2.2.1 21 = .ok (.tableswitch 101 0 5 #[39, 46, 73, 80, 87, 94], 39) := by decide +kernel
theorem D_337_60 : decode J_337.2.2.1 60 = .ok (.aload_n 0, 1) := dzq_42 (by decide +kernel)
theorem D_337_61 : decode J_337.2.2.1 61 = .ok (.getfield 30, 3) := dzq_180 (by decide +kernel)
theorem D_337_64 : decode J_337.2.2.1 64 = .ok (.iload_n 3, 1) := dzq_29 (by decide +kernel)
theorem D_337_65 : decode J_337.2.2.1 65 = .ok (.iaload, 1) := dzq_46 (by decide +kernel)
theorem D_337_66 : decode J_337.2.2.1 66 = .ok (.ireturn, 1) := dzq_172 (by decide +kernel)
theorem D_337_67 : decode J_337.2.2.1 67 = .ok (.aload_n 0, 1) := dzq_42 (by decide +kernel)
theorem D_337_68 : decode J_337.2.2.1 68 = .ok (.iload_n 3, 1) := dzq_29 (by decide +kernel)
theorem D_337_69 : decode J_337.2.2.1 69 = .ok (.invokevirtual 538, 3) := dzq_182 (by decide +kernel)
theorem D_337_72 : decode J_337.2.2.1 72 = .ok (.iconst (-1), 1) := dzq_2 (by decide +kernel)
theorem D_337_73 : decode J_337.2.2.1 73 = .ok (.if_icmp .ne 7, 3) := dzq_160 (by decide +kernel)
theorem D_337_76 : decode J_337.2.2.1 76 = .ok (.iconst (-1), 1) := dzq_2 (by decide +kernel)
theorem D_337_77 : decode J_337.2.2.1 77 = .ok (.goto 16, 3) := dzq_167 (by decide +kernel)
theorem D_337_80 : decode J_337.2.2.1 80 = .ok (.aload_n 0, 1) := dzq_42 (by decide +kernel)
theorem D_337_81 : decode J_337.2.2.1 81 = .ok (.iload_n 3, 1) := dzq_29 (by decide +kernel)
theorem D_337_82 : decode J_337.2.2.1 82 = .ok (.invokevirtual 538, 3) := dzq_182 (by decide +kernel)
theorem D_337_85 : decode J_337.2.2.1 85 = .ok (.bipush 16, 2) := dzq_16 (by decide +kernel)
theorem D_337_87 : decode J_337.2.2.1 87 = .ok (.aload_n 0, 1) := dzq_42 (by decide +kernel)
theorem D_337_88 : decode J_337.2.2.1 88 = .ok (.getfield 648, 3) := dzq_180 (by decide +kernel)
theorem D_337_91 : decode J_337.2.2.1 91 = .ok (.imul, 1) := dzq_104 (by decide +kernel)
theorem D_337_92 : decode J_337.2.2.1 92 = .ok (.isub, 1) := dzq_100 (by decide +kernel)
theorem D_337_93 : decode J_337.2.2.1 93 = .ok (.ireturn, 1) := dzq_172 (by decide +kernel)
theorem D_337_94 : decode J_337.2.2.1 94 = .ok (.aload_n 0, 1) := dzq_42 (by decide +kernel)
theorem D_337_95 : decode J_337.2.2.1 95 = .ok (.getfield 45, 3) := dzq_180 (by decide +kernel)
theorem D_337_98 : decode J_337.2.2.1 98 = .ok (.iload_n 3, 1) := dzq_29 (by decide +kernel)
theorem D_337_99 : decode J_337.2.2.1 99 = .ok (.iaload, 1) := dzq_46 (by decide +kernel)
theorem D_337_100 : decode J_337.2.2.1 100 = .ok (.ireturn, 1) := dzq_172 (by decide +kernel)
theorem D_337_101 : decode J_337.2.2.1 101 = .ok (.aload_n 0, 1) := dzq_42 (by decide +kernel)
theorem D_337_102 : decode J_337.2.2.1 102 = .ok (.getfield 48, 3) := dzq_180 (by decide +kernel)
theorem D_337_105 : decode J_337.2.2.1 105 = .ok (.iload_n 3, 1) := dzq_29 (by decide +kernel)
theorem D_337_106 : decode J_337.2.2.1 106 = .ok (.iaload, 1) := dzq_46 (by decide +kernel)
theorem D_337_107 : decode J_337.2.2.1 107 = .ok (.ireturn, 1) := dzq_172 (by decide +kernel)
theorem D_337_108 : decode J_337.2.2.1 108 = .ok (.aload_n 0, 1) := dzq_42 (by decide +kernel)
theorem D_337_109 : decode J_337.2.2.1 109 = .ok (.getfield 36, 3) := dzq_180 (by decide +kernel)
theorem D_337_112 : decode J_337.2.2.1 112 = .ok (.iload_n 3, 1) := dzq_29 (by decide +kernel)
theorem D_337_113 : decode J_337.2.2.1 113 = .ok (.iaload, 1) := dzq_46 (by decide +kernel)
theorem D_337_114 : decode J_337.2.2.1 114 = .ok (.ireturn, 1) := dzq_172 (by decide +kernel)
theorem D_337_115 : decode J_337.2.2.1 115 = .ok (.aload_n 0, 1) := dzq_42 (by decide +kernel)
theorem D_337_116 : decode J_337.2.2.1 116 = .ok (.getfield 24, 3) := dzq_180 (by decide +kernel)
theorem D_337_119 : decode J_337.2.2.1 119 = .ok (.iload_n 3, 1) := dzq_29 (by decide +kernel)
theorem D_337_120 : decode J_337.2.2.1 120 = .ok (.iaload, 1) := dzq_46 (by decide +kernel)
theorem D_337_121 : decode J_337.2.2.1 121 = .ok (.ireturn, 1) := dzq_172 (by decide +kernel)
theorem D_337_122 : decode J_337.2.2.1 122 = .ok (.iconst (-1), 1) := dzq_2 (by decide +kernel)
theorem D_337_123 : decode J_337.2.2.1 123 = .ok (.ireturn, 1) := dzq_172 (by decide +kernel)
def P_337_0 (X : mjX) (d C S kc ks : Nat) (k : Nat → Int32 → Int32 → mjH → mjU) : Prop := ∀ (l0 : Nat) (l1 : Int32) (l2 : Int32) (hp : mjH) (q : Option Value × mjH), k l0 l1 l2 hp = some q → mjG X d C S J_337 (mjEq q) 0 [some (.ref l0), some (.int l1), some (.int l2), none] [] hp kc ks
noncomputable def b_337_0 (R : mjR) (l0 : Nat) (l1 : Int32) (l2 : Int32) (hp : mjH) : mjU := rV hp l0 12 (bI (R 338 [.ref l0, .int l1] hp) (fun v1 hp2 => (if v1 = 0 then some (some (.int (-1 : Int32)), hp2) else gI hp2 l0 12 9 (fun v3 => (if l2 = (0 : Int32) then gR hp2 l0 12 15 (fun v5 => aI hp2 v5 (((16 : Int32) * v3) + l1) (fun v6 => some (some (.int v6), hp2))) else if l2 = (1 : Int32) then rV hp2 l0 12 (bI (R 242 [.ref l0, .int (((16 : Int32) * v3) + l1)] hp2) (fun v8 hp9 => (if v8 = (-1 : Int32) then some (some (.int (-1 : Int32)), hp9) else rV hp9 l0 12 (bI (R 242 [.ref l0, .int (((16 : Int32) * v3) + l1)] hp9) (fun v10 hp11 => gI hp11 l0 12 9 (fun v12 => some (some (.int (v10 - ((16 : Int32) * v12))), hp11))))))) else if l2 = (2 : Int32) then gR hp2 l0 12 20 (fun v14 => aI hp2 v14 (((16 : Int32) * v3) + l1) (fun v15 => some (some (.int v15), hp2))) else if l2 = (3 : Int32) then gR hp2 l0 12 21 (fun v17 => aI hp2 v17 (((16 : Int32) * v3) + l1) (fun v18 => some (some (.int v18), hp2))) else if l2 = (4 : Int32) then gR hp2 l0 12 17 (fun v20 => aI hp2 v20 (((16 : Int32) * v3) + l1) (fun v21 => some (some (.int v21), hp2))) else if l2 = (5 : Int32) then gR hp2 l0 12 13 (fun v23 => aI hp2 v23 (((16 : Int32) * v3) + l1) (fun v24 => some (some (.int v24), hp2))) else some (some (.int (-1 : Int32)), hp2))))))
theorem t_337_0 {X : mjX} {d C S kc ks : Nat} {R : mjR} (hR : mjC R d) (h1 : kc ≤ C) (h2 : ks ≤ S) : P_337_0 X (d + 1) C S kc ks (b_337_0 R) := by
  intro l0 l1 l2 hp q h
  unfold b_337_0 at h
  refine mjr_aload_n (x := l0) D_337_0 rfl ?_
  refine mjr_iload_n (x := l1) D_337_1 rfl ?_
  refine mjq_vI (As := [.int l1]) (rest := []) D_337_2 mr_12_759 V_338 rfl rfl rfl hR (Nat.le_refl _) h1 h2 h (fun v1 hp2 h => ?_)
  refine mjq_if_ne (tgt := 10) D_337_5 rfl h (fun h => ?_) (fun h => ?_)
  · refine mjq_bi (v := (16 : Int32)) D_337_10 rfl ?_
    refine mjr_aload_n (x := l0) D_337_12 rfl ?_
    refine mjq_gI D_337_13 fr_12_648 h (fun v3 h => ?_)
    refine mjr_imul D_337_16 ?_
    refine mjr_iload_n (x := l1) D_337_17 rfl ?_
    refine mjr_iadd D_337_18 ?_
    refine mjq_istore_n (lo' := [some (.ref l0), some (.int l1), some (.int l2), some (.int (((16 : Int32) * v3) + l1))]) D_337_19 (Nat.le_of_ble_eq_true rfl) rfl ?_
    refine mjr_iload_n (x := l2) D_337_20 rfl ?_
    refine mjq_tsw (c := (0 : Int32)) (tgt := 60) D_337_21 (by decide) (by decide) rfl rfl h (fun h => ?_) (fun n4 h => ?_)
    · refine mjr_aload_n (x := l0) D_337_60 rfl ?_
      refine mjq_gR D_337_61 fr_12_30 h (fun v5 h => ?_)
      refine mjr_iload_n (x := (((16 : Int32) * v3) + l1)) D_337_64 rfl ?_
      refine mjq_aI D_337_65 h (fun v6 h => ?_)
      exact mjq_ret D_337_66 rfl h1 h2 h
    refine mjq_tsw (c := (1 : Int32)) (tgt := 67) D_337_21 (by decide) (by decide) rfl rfl h (fun h => ?_) (fun n7 h => ?_)
    · refine mjr_aload_n (x := l0) D_337_67 rfl ?_
      refine mjr_iload_n (x := (((16 : Int32) * v3) + l1)) D_337_68 rfl ?_
      refine mjq_vI (As := [.int (((16 : Int32) * v3) + l1)]) (rest := []) D_337_69 mr_12_538 V_242 rfl rfl rfl hR (Nat.le_refl _) h1 h2 h (fun v8 hp9 h => ?_)
      refine mjq_ic (v := (-1 : Int32)) D_337_72 rfl ?_
      refine mjq_icmp_ne (tgt := 80) D_337_73 rfl h (fun h => ?_) (fun h => ?_)
      · refine mjr_aload_n (x := l0) D_337_80 rfl ?_
        refine mjr_iload_n (x := (((16 : Int32) * v3) + l1)) D_337_81 rfl ?_
        refine mjq_vI (As := [.int (((16 : Int32) * v3) + l1)]) (rest := []) D_337_82 mr_12_538 V_242 rfl rfl rfl hR (Nat.le_refl _) h1 h2 h (fun v10 hp11 h => ?_)
        refine mjq_bi (v := (16 : Int32)) D_337_85 rfl ?_
        refine mjr_aload_n (x := l0) D_337_87 rfl ?_
        refine mjq_gI D_337_88 fr_12_648 h (fun v12 h => ?_)
        refine mjr_imul D_337_91 ?_
        refine mjr_isub D_337_92 ?_
        exact mjq_ret D_337_93 rfl h1 h2 h
      · refine mjq_ic (v := (-1 : Int32)) D_337_76 rfl ?_
        refine mjr_goto (tgt := 93) D_337_77 rfl ?_
        exact mjq_ret D_337_93 rfl h1 h2 h
    refine mjq_tsw (c := (2 : Int32)) (tgt := 94) D_337_21 (by decide) (by decide) rfl rfl h (fun h => ?_) (fun n13 h => ?_)
    · refine mjr_aload_n (x := l0) D_337_94 rfl ?_
      refine mjq_gR D_337_95 fr_12_45 h (fun v14 h => ?_)
      refine mjr_iload_n (x := (((16 : Int32) * v3) + l1)) D_337_98 rfl ?_
      refine mjq_aI D_337_99 h (fun v15 h => ?_)
      exact mjq_ret D_337_100 rfl h1 h2 h
    refine mjq_tsw (c := (3 : Int32)) (tgt := 101) D_337_21 (by decide) (by decide) rfl rfl h (fun h => ?_) (fun n16 h => ?_)
    · refine mjr_aload_n (x := l0) D_337_101 rfl ?_
      refine mjq_gR D_337_102 fr_12_48 h (fun v17 h => ?_)
      refine mjr_iload_n (x := (((16 : Int32) * v3) + l1)) D_337_105 rfl ?_
      refine mjq_aI D_337_106 h (fun v18 h => ?_)
      exact mjq_ret D_337_107 rfl h1 h2 h
    refine mjq_tsw (c := (4 : Int32)) (tgt := 108) D_337_21 (by decide) (by decide) rfl rfl h (fun h => ?_) (fun n19 h => ?_)
    · refine mjr_aload_n (x := l0) D_337_108 rfl ?_
      refine mjq_gR D_337_109 fr_12_36 h (fun v20 h => ?_)
      refine mjr_iload_n (x := (((16 : Int32) * v3) + l1)) D_337_112 rfl ?_
      refine mjq_aI D_337_113 h (fun v21 h => ?_)
      exact mjq_ret D_337_114 rfl h1 h2 h
    refine mjq_tsw (c := (5 : Int32)) (tgt := 115) D_337_21 (by decide) (by decide) rfl rfl h (fun h => ?_) (fun n22 h => ?_)
    · refine mjr_aload_n (x := l0) D_337_115 rfl ?_
      refine mjq_gR D_337_116 fr_12_24 h (fun v23 h => ?_)
      refine mjr_iload_n (x := (((16 : Int32) * v3) + l1)) D_337_119 rfl ?_
      refine mjq_aI D_337_120 h (fun v24 h => ?_)
      exact mjq_ret D_337_121 rfl h1 h2 h
    refine mjr_tableOut (tgt := 122) D_337_21 (mj_swout [(0 : Int32), (1 : Int32), (2 : Int32), (3 : Int32), (4 : Int32), (5 : Int32)] (by decide) (mj_all1 n4 (mj_all1 n7 (mj_all1 n13 (mj_all1 n16 (mj_all1 n19 (mj_all1 n22 mj_all0))))))) rfl ?_
    refine mjq_ic (v := (-1 : Int32)) D_337_122 rfl ?_
    exact mjq_ret D_337_123 rfl h1 h2 h
  · refine mjq_ic (v := (-1 : Int32)) D_337_8 rfl ?_
    exact mjq_ret D_337_9 rfl h1 h2 h
noncomputable def f_337 (R : mjR) (a0 : Nat) (a1 : Int32) (a2 : Int32) (hp : mjH) : mjU := b_337_0 R a0 a1 a2 hp
theorem c_337 {R : mjR} {d : Nat} (hR : mjC R d) {a0 : Nat} {a1 : Int32} {a2 : Int32} {hp : mjH} {q : Option Value × mjH} (h : f_337 R a0 a1 a2 hp = some q) : mjM (d + 1) 0 0 337 [.ref a0, .int a1, .int a2] hp (mjEq q) :=
  mjM_of Ja_337 (Nat.le_of_ble_eq_true rfl) (mjG.fg (lo' := [some (.ref a0), some (.int a1), some (.int a2), none]) (And.intro rfl (And.intro rfl (And.intro rfl True.intro))) ((t_337_0 hR (Nat.le_refl 0) (Nat.le_refl 0)) a0 a1 a2 hp q h))
def J_338 : mjI := (⟨"OwnerHeapModel", "isClass", "(I)Z"⟩, 12, prog_14_method_113_code, 2, (some .boolean), 1, false)
theorem Ja_338 : mjMt 338 = some J_338 := by rfl
theorem D_338_0 : decode J_338.2.2.1 0 = .ok (.aload_n 0, 1) := dzq_42 (by decide +kernel)
theorem D_338_1 : decode J_338.2.2.1 1 = .ok (.getfield 756, 3) := dzq_180 (by decide +kernel)
theorem D_338_4 : decode J_338.2.2.1 4 = .ok (.ifCond .eq 24, 3) := dzq_153 (by decide +kernel)
theorem D_338_7 : decode J_338.2.2.1 7 = .ok (.iload_n 1, 1) := dzq_27 (by decide +kernel)
theorem D_338_8 : decode J_338.2.2.1 8 = .ok (.ifCond .lt 20, 3) := dzq_155 (by decide +kernel)
theorem D_338_11 : decode J_338.2.2.1 11 = .ok (.iload_n 1, 1) := dzq_27 (by decide +kernel)
theorem D_338_12 : decode J_338.2.2.1 12 = .ok (.aload_n 0, 1) := dzq_42 (by decide +kernel)
theorem D_338_13 : decode J_338.2.2.1 13 = .ok (.getfield 17, 3) := dzq_180 (by decide +kernel)
theorem D_338_16 : decode J_338.2.2.1 16 = .ok (.aload_n 0, 1) := dzq_42 (by decide +kernel)
theorem D_338_17 : decode J_338.2.2.1 17 = .ok (.getfield 648, 3) := dzq_180 (by decide +kernel)
theorem D_338_20 : decode J_338.2.2.1 20 = .ok (.iaload, 1) := dzq_46 (by decide +kernel)
theorem D_338_21 : decode J_338.2.2.1 21 = .ok (.if_icmp .ge 7, 3) := dzq_162 (by decide +kernel)
theorem D_338_24 : decode J_338.2.2.1 24 = .ok (.iconst 1, 1) := dzq_4 (by decide +kernel)
theorem D_338_25 : decode J_338.2.2.1 25 = .ok (.goto 4, 3) := dzq_167 (by decide +kernel)
theorem D_338_28 : decode J_338.2.2.1 28 = .ok (.iconst 0, 1) := dzq_3 (by decide +kernel)
theorem D_338_29 : decode J_338.2.2.1 29 = .ok (.ireturn, 1) := dzq_172 (by decide +kernel)
def P_338_28 (X : mjX) (d C S kc ks : Nat) (k : mjH → mjU) : Prop := ∀  (hp : mjH) (q : Option Value × mjH), k  hp = some q → mjG X d C S J_338 (mjEq q) 28 [none, none] [] hp kc ks
def P_338_0 (X : mjX) (d C S kc ks : Nat) (k : Nat → Int32 → mjH → mjU) : Prop := ∀ (l0 : Nat) (l1 : Int32) (hp : mjH) (q : Option Value × mjH), k l0 l1 hp = some q → mjG X d C S J_338 (mjEq q) 0 [some (.ref l0), some (.int l1)] [] hp kc ks
noncomputable def b_338_28 (R : mjR)  (hp : mjH) : mjU := some (some (.int (0 : Int32)), hp)
theorem t_338_28 {X : mjX} {d C S kc ks : Nat} {R : mjR} (hR : mjC R d) (h1 : kc ≤ C) (h2 : ks ≤ S) : P_338_28 X (d + 1) C S kc ks (b_338_28 R) := by
  intro  hp q h
  unfold b_338_28 at h
  refine mjq_ic (v := (0 : Int32)) D_338_28 rfl ?_
  exact mjr_ireturn D_338_29 rfl rfl h1 h2 (Option.some.inj h)
noncomputable def b_338_0 (R : mjR) (l0 : Nat) (l1 : Int32) (hp : mjH) : mjU := gI hp l0 12 10 (fun v1 => (if v1 = 0 then b_338_28 R hp else (if l1 < 0 then b_338_28 R hp else gR hp l0 12 11 (fun v2 => gI hp l0 12 9 (fun v3 => aI hp v2 v3 (fun v4 => (if v4 ≤ l1 then b_338_28 R hp else some (some (.int (1 : Int32)), hp))))))))
theorem t_338_0 {X : mjX} {d C S kc ks : Nat} {R : mjR} (hR : mjC R d) (h1 : kc ≤ C) (h2 : ks ≤ S) : P_338_0 X (d + 1) C S kc ks (b_338_0 R) := by
  intro l0 l1 hp q h
  unfold b_338_0 at h
  refine mjr_aload_n (x := l0) D_338_0 rfl ?_
  refine mjq_gI D_338_1 fr_12_756 h (fun v1 h => ?_)
  refine mjq_if_eq (tgt := 28) D_338_4 rfl h (fun h => ?_) (fun h => ?_)
  · exact mjG.fg (lo' := [none, none]) True.intro ((t_338_28 hR h1 h2) _ _ h)
  · refine mjr_iload_n (x := l1) D_338_7 rfl ?_
    refine mjq_if_lt (tgt := 28) D_338_8 rfl h (fun h => ?_) (fun h => ?_)
    · exact mjG.fg (lo' := [none, none]) True.intro ((t_338_28 hR h1 h2) _ _ h)
    · refine mjr_iload_n (x := l1) D_338_11 rfl ?_
      refine mjr_aload_n (x := l0) D_338_12 rfl ?_
      refine mjq_gR D_338_13 fr_12_17 h (fun v2 h => ?_)
      refine mjr_aload_n (x := l0) D_338_16 rfl ?_
      refine mjq_gI D_338_17 fr_12_648 h (fun v3 h => ?_)
      refine mjq_aI D_338_20 h (fun v4 h => ?_)
      refine mjq_icmp_ge (tgt := 28) D_338_21 rfl h (fun h => ?_) (fun h => ?_)
      · exact mjG.fg (lo' := [none, none]) True.intro ((t_338_28 hR h1 h2) _ _ h)
      · refine mjq_ic (v := (1 : Int32)) D_338_24 rfl ?_
        refine mjr_goto (tgt := 29) D_338_25 rfl ?_
        exact mjr_ireturn D_338_29 rfl rfl h1 h2 (Option.some.inj h)
noncomputable def f_338 (R : mjR) (a0 : Nat) (a1 : Int32) (hp : mjH) : mjU := b_338_0 R a0 a1 hp
theorem c_338 {R : mjR} {d : Nat} (hR : mjC R d) {a0 : Nat} {a1 : Int32} {hp : mjH} {q : Option Value × mjH} (h : f_338 R a0 a1 hp = some q) : mjM (d + 1) 0 0 338 [.ref a0, .int a1] hp (mjEq q) :=
  mjM_of Ja_338 (Nat.le_of_ble_eq_true rfl) (mjG.fg (lo' := [some (.ref a0), some (.int a1)]) (And.intro rfl (And.intro rfl True.intro)) ((t_338_0 hR (Nat.le_refl 0) (Nat.le_refl 0)) a0 a1 hp q h))
def J_339 : mjI := (⟨"OwnerHeapModel", "isIn", "(III)Z"⟩, 12, prog_14_method_115_code, 5, (some .boolean), 3, false)
theorem Ja_339 : mjMt 339 = some J_339 := by rfl
theorem D_339_0 : decode J_339.2.2.1 0 = .ok (.aload_n 0, 1) := dzq_42 (by decide +kernel)
theorem D_339_1 : decode J_339.2.2.1 1 = .ok (.iload_n 1, 1) := dzq_27 (by decide +kernel)
theorem D_339_2 : decode J_339.2.2.1 2 = .ok (.invokevirtual 759, 3) := dzq_182 (by decide +kernel)
theorem D_339_5 : decode J_339.2.2.1 5 = .ok (.ifCond .ne 5, 3) := dzq_154 (by decide +kernel)
theorem D_339_8 : decode J_339.2.2.1 8 = .ok (.iconst 0, 1) := dzq_3 (by decide +kernel)
theorem D_339_9 : decode J_339.2.2.1 9 = .ok (.ireturn, 1) := dzq_172 (by decide +kernel)
theorem D_339_10 : decode J_339.2.2.1 10 = .ok (.bipush 16, 2) := dzq_16 (by decide +kernel)
theorem D_339_12 : decode J_339.2.2.1 12 = .ok (.aload_n 0, 1) := dzq_42 (by decide +kernel)
theorem D_339_13 : decode J_339.2.2.1 13 = .ok (.getfield 648, 3) := dzq_180 (by decide +kernel)
theorem D_339_16 : decode J_339.2.2.1 16 = .ok (.imul, 1) := dzq_104 (by decide +kernel)
theorem D_339_17 : decode J_339.2.2.1 17 = .ok (.iload_n 1, 1) := dzq_27 (by decide +kernel)
theorem D_339_18 : decode J_339.2.2.1 18 = .ok (.iadd, 1) := dzq_96 (by decide +kernel)
theorem D_339_19 : decode J_339.2.2.1 19 = .ok (.istore 4, 2) := dzq_54 (by decide +kernel)
theorem D_339_21 : decode J_339.2.2.1 21 = .ok (.iload_n 2, 1) := dzq_28 (by decide +kernel)
theorem D_339_22 : decode J_339.2.2.1 22 = .ok (.bipush (-2), 2) := dzq_16 (by decide +kernel)
theorem D_339_24 : decode J_339.2.2.1 24 = .ok (.if_icmp .lt 31, 3) := dzq_161 (by decide +kernel)
theorem D_339_27 : decode J_339.2.2.1 27 = .ok (.iload_n 3, 1) := dzq_29 (by decide +kernel)
theorem D_339_28 : decode J_339.2.2.1 28 = .ok (.bipush (-2), 2) := dzq_16 (by decide +kernel)
theorem D_339_30 : decode J_339.2.2.1 30 = .ok (.if_icmp .lt 25, 3) := dzq_161 (by decide +kernel)
theorem D_339_33 : decode J_339.2.2.1 33 = .ok (.iload_n 2, 1) := dzq_28 (by decide +kernel)
theorem D_339_34 : decode J_339.2.2.1 34 = .ok (.aload_n 0, 1) := dzq_42 (by decide +kernel)
theorem D_339_35 : decode J_339.2.2.1 35 = .ok (.getfield 30, 3) := dzq_180 (by decide +kernel)
theorem D_339_38 : decode J_339.2.2.1 38 = .ok (.iload 4, 2) := dzq_21 (by decide +kernel)
theorem D_339_40 : decode J_339.2.2.1 40 = .ok (.iaload, 1) := dzq_46 (by decide +kernel)
theorem D_339_41 : decode J_339.2.2.1 41 = .ok (.if_icmp .ge 14, 3) := dzq_162 (by decide +kernel)
theorem D_339_44 : decode J_339.2.2.1 44 = .ok (.iload_n 3, 1) := dzq_29 (by decide +kernel)
theorem D_339_45 : decode J_339.2.2.1 45 = .ok (.aload_n 0, 1) := dzq_42 (by decide +kernel)
theorem D_339_46 : decode J_339.2.2.1 46 = .ok (.getfield 30, 3) := dzq_180 (by decide +kernel)
theorem D_339_49 : decode J_339.2.2.1 49 = .ok (.iload 4, 2) := dzq_21 (by decide +kernel)
theorem D_339_51 : decode J_339.2.2.1 51 = .ok (.iaload, 1) := dzq_46 (by decide +kernel)
theorem D_339_52 : decode J_339.2.2.1 52 = .ok (.if_icmp .lt 5, 3) := dzq_161 (by decide +kernel)
theorem D_339_55 : decode J_339.2.2.1 55 = .ok (.iconst 0, 1) := dzq_3 (by decide +kernel)
theorem D_339_56 : decode J_339.2.2.1 56 = .ok (.ireturn, 1) := dzq_172 (by decide +kernel)
theorem D_339_57 : decode J_339.2.2.1 57 = .ok (.aload_n 0, 1) := dzq_42 (by decide +kernel)
theorem D_339_58 : decode J_339.2.2.1 58 = .ok (.getfield 75, 3) := dzq_180 (by decide +kernel)
theorem D_339_61 : decode J_339.2.2.1 61 = .ok (.bipush 49, 2) := dzq_16 (by decide +kernel)
theorem D_339_63 : decode J_339.2.2.1 63 = .ok (.iload 4, 2) := dzq_21 (by decide +kernel)
theorem D_339_65 : decode J_339.2.2.1 65 = .ok (.imul, 1) := dzq_104 (by decide +kernel)
theorem D_339_66 : decode J_339.2.2.1 66 = .ok (.bipush 7, 2) := dzq_16 (by decide +kernel)
theorem D_339_68 : decode J_339.2.2.1 68 = .ok (.iload_n 2, 1) := dzq_28 (by decide +kernel)
theorem D_339_69 : decode J_339.2.2.1 69 = .ok (.invokestatic 485, 3) := dzq_184 (by decide +kernel)
theorem D_339_72 : decode J_339.2.2.1 72 = .ok (.imul, 1) := dzq_104 (by decide +kernel)
theorem D_339_73 : decode J_339.2.2.1 73 = .ok (.iadd, 1) := dzq_96 (by decide +kernel)
theorem D_339_74 : decode J_339.2.2.1 74 = .ok (.iload_n 3, 1) := dzq_29 (by decide +kernel)
theorem D_339_75 : decode J_339.2.2.1 75 = .ok (.invokestatic 485, 3) := dzq_184 (by decide +kernel)
theorem D_339_78 : decode J_339.2.2.1 78 = .ok (.iadd, 1) := dzq_96 (by decide +kernel)
theorem D_339_79 : decode J_339.2.2.1 79 = .ok (.baload, 1) := dzq_51 (by decide +kernel)
theorem D_339_80 : decode J_339.2.2.1 80 = .ok (.ireturn, 1) := dzq_172 (by decide +kernel)
def P_339_55 (X : mjX) (d C S kc ks : Nat) (k : mjH → mjU) : Prop := ∀  (hp : mjH) (q : Option Value × mjH), k  hp = some q → mjG X d C S J_339 (mjEq q) 55 [none, none, none, none, none] [] hp kc ks
def P_339_0 (X : mjX) (d C S kc ks : Nat) (k : Nat → Int32 → Int32 → Int32 → mjH → mjU) : Prop := ∀ (l0 : Nat) (l1 : Int32) (l2 : Int32) (l3 : Int32) (hp : mjH) (q : Option Value × mjH), k l0 l1 l2 l3 hp = some q → mjG X d C S J_339 (mjEq q) 0 [some (.ref l0), some (.int l1), some (.int l2), some (.int l3), none] [] hp kc ks
noncomputable def b_339_55 (R : mjR)  (hp : mjH) : mjU := some (some (.int (0 : Int32)), hp)
theorem t_339_55 {X : mjX} {d C S kc ks : Nat} {R : mjR} (hR : mjC R d) (h1 : kc ≤ C) (h2 : ks ≤ S) : P_339_55 X (d + 1) C S kc ks (b_339_55 R) := by
  intro  hp q h
  unfold b_339_55 at h
  refine mjq_ic (v := (0 : Int32)) D_339_55 rfl ?_
  exact mjr_ireturn D_339_56 rfl rfl h1 h2 (Option.some.inj h)
noncomputable def b_339_0 (R : mjR) (l0 : Nat) (l1 : Int32) (l2 : Int32) (l3 : Int32) (hp : mjH) : mjU := rV hp l0 12 (bI (R 338 [.ref l0, .int l1] hp) (fun v1 hp2 => (if v1 = 0 then some (some (.int (0 : Int32)), hp2) else gI hp2 l0 12 9 (fun v3 => (if l2 < (-2 : Int32) then b_339_55 R hp2 else (if l3 < (-2 : Int32) then b_339_55 R hp2 else gR hp2 l0 12 15 (fun v4 => aI hp2 v4 (((16 : Int32) * v3) + l1) (fun v5 => (if v5 ≤ l2 then b_339_55 R hp2 else gR hp2 l0 12 15 (fun v6 => aI hp2 v6 (((16 : Int32) * v3) + l1) (fun v7 => (if l3 < v7 then gR hp2 l0 12 30 (fun v8 => bI (R 312 [.int l2] hp2) (fun v9 hp10 => bI (R 312 [.int l3] hp10) (fun v11 hp12 => aB hp12 v8 ((((49 : Int32) * (((16 : Int32) * v3) + l1)) + ((7 : Int32) * v9)) + v11) (fun v13 => (if narrow .boolean (.int v13) = .int v13 then some (some (.int v13), hp12) else none))))) else b_339_55 R hp2))))))))))))
theorem t_339_0 {X : mjX} {d C S kc ks : Nat} {R : mjR} (hR : mjC R d) (h1 : kc ≤ C) (h2 : ks ≤ S) : P_339_0 X (d + 1) C S kc ks (b_339_0 R) := by
  intro l0 l1 l2 l3 hp q h
  unfold b_339_0 at h
  refine mjr_aload_n (x := l0) D_339_0 rfl ?_
  refine mjr_iload_n (x := l1) D_339_1 rfl ?_
  refine mjq_vI (As := [.int l1]) (rest := []) D_339_2 mr_12_759 V_338 rfl rfl rfl hR (Nat.le_refl _) h1 h2 h (fun v1 hp2 h => ?_)
  refine mjq_if_ne (tgt := 10) D_339_5 rfl h (fun h => ?_) (fun h => ?_)
  · refine mjq_bi (v := (16 : Int32)) D_339_10 rfl ?_
    refine mjr_aload_n (x := l0) D_339_12 rfl ?_
    refine mjq_gI D_339_13 fr_12_648 h (fun v3 h => ?_)
    refine mjr_imul D_339_16 ?_
    refine mjr_iload_n (x := l1) D_339_17 rfl ?_
    refine mjr_iadd D_339_18 ?_
    refine mjq_istore (lo' := [some (.ref l0), some (.int l1), some (.int l2), some (.int l3), some (.int (((16 : Int32) * v3) + l1))]) D_339_19 (Nat.le_of_ble_eq_true rfl) rfl ?_
    refine mjr_iload_n (x := l2) D_339_21 rfl ?_
    refine mjq_bi (v := (-2 : Int32)) D_339_22 rfl ?_
    refine mjq_icmp_lt (tgt := 55) D_339_24 rfl h (fun h => ?_) (fun h => ?_)
    · exact mjG.fg (lo' := [none, none, none, none, none]) True.intro ((t_339_55 hR h1 h2) _ _ h)
    · refine mjr_iload_n (x := l3) D_339_27 rfl ?_
      refine mjq_bi (v := (-2 : Int32)) D_339_28 rfl ?_
      refine mjq_icmp_lt (tgt := 55) D_339_30 rfl h (fun h => ?_) (fun h => ?_)
      · exact mjG.fg (lo' := [none, none, none, none, none]) True.intro ((t_339_55 hR h1 h2) _ _ h)
      · refine mjr_iload_n (x := l2) D_339_33 rfl ?_
        refine mjr_aload_n (x := l0) D_339_34 rfl ?_
        refine mjq_gR D_339_35 fr_12_30 h (fun v4 h => ?_)
        refine mjr_iload (x := (((16 : Int32) * v3) + l1)) D_339_38 rfl ?_
        refine mjq_aI D_339_40 h (fun v5 h => ?_)
        refine mjq_icmp_ge (tgt := 55) D_339_41 rfl h (fun h => ?_) (fun h => ?_)
        · exact mjG.fg (lo' := [none, none, none, none, none]) True.intro ((t_339_55 hR h1 h2) _ _ h)
        · refine mjr_iload_n (x := l3) D_339_44 rfl ?_
          refine mjr_aload_n (x := l0) D_339_45 rfl ?_
          refine mjq_gR D_339_46 fr_12_30 h (fun v6 h => ?_)
          refine mjr_iload (x := (((16 : Int32) * v3) + l1)) D_339_49 rfl ?_
          refine mjq_aI D_339_51 h (fun v7 h => ?_)
          refine mjq_icmp_lt (tgt := 57) D_339_52 rfl h (fun h => ?_) (fun h => ?_)
          · refine mjr_aload_n (x := l0) D_339_57 rfl ?_
            refine mjq_gR D_339_58 fr_12_75 h (fun v8 h => ?_)
            refine mjq_bi (v := (49 : Int32)) D_339_61 rfl ?_
            refine mjr_iload (x := (((16 : Int32) * v3) + l1)) D_339_63 rfl ?_
            refine mjr_imul D_339_65 ?_
            refine mjq_bi (v := (7 : Int32)) D_339_66 rfl ?_
            refine mjr_iload_n (x := l2) D_339_68 rfl ?_
            refine mjq_scI (As := [.int l2]) (rest := [.int (7 : Int32), .int ((49 : Int32) * (((16 : Int32) * v3) + l1)), .ref v8]) D_339_69 mr_12_485 V_312 rfl rfl rfl hR (Nat.le_refl _) h1 h2 h (fun v9 hp10 h => ?_)
            refine mjr_imul D_339_72 ?_
            refine mjr_iadd D_339_73 ?_
            refine mjr_iload_n (x := l3) D_339_74 rfl ?_
            refine mjq_scI (As := [.int l3]) (rest := [.int (((49 : Int32) * (((16 : Int32) * v3) + l1)) + ((7 : Int32) * v9)), .ref v8]) D_339_75 mr_12_485 V_312 rfl rfl rfl hR (Nat.le_refl _) h1 h2 h (fun v11 hp12 h => ?_)
            refine mjr_iadd D_339_78 ?_
            refine mjq_aB D_339_79 h (fun v13 h => ?_)
            exact mjq_retZ (ty := .boolean) D_339_80 rfl h1 h2 h
          · exact mjG.fg (lo' := [none, none, none, none, none]) True.intro ((t_339_55 hR h1 h2) _ _ h)
  · refine mjq_ic (v := (0 : Int32)) D_339_8 rfl ?_
    exact mjr_ireturn D_339_9 rfl rfl h1 h2 (Option.some.inj h)
noncomputable def f_339 (R : mjR) (a0 : Nat) (a1 : Int32) (a2 : Int32) (a3 : Int32) (hp : mjH) : mjU := b_339_0 R a0 a1 a2 a3 hp
theorem c_339 {R : mjR} {d : Nat} (hR : mjC R d) {a0 : Nat} {a1 : Int32} {a2 : Int32} {a3 : Int32} {hp : mjH} {q : Option Value × mjH} (h : f_339 R a0 a1 a2 a3 hp = some q) : mjM (d + 1) 0 0 339 [.ref a0, .int a1, .int a2, .int a3] hp (mjEq q) :=
  mjM_of Ja_339 (Nat.le_of_ble_eq_true rfl) (mjG.fg (lo' := [some (.ref a0), some (.int a1), some (.int a2), some (.int a3), none]) (And.intro rfl (And.intro rfl (And.intro rfl (And.intro rfl True.intro)))) ((t_339_0 hR (Nat.le_refl 0) (Nat.le_refl 0)) a0 a1 a2 a3 hp q h))
def J_340 : mjI := (⟨"OwnerHeapModel", "start", "(II)Z"⟩, 12, prog_14_method_116_code, 4, (some .boolean), 2, false)
theorem Ja_340 : mjMt 340 = some J_340 := by rfl
theorem D_340_0 : decode J_340.2.2.1 0 = .ok (.aload_n 0, 1) := dzq_42 (by decide +kernel)
theorem D_340_1 : decode J_340.2.2.1 1 = .ok (.getfield 756, 3) := dzq_180 (by decide +kernel)
theorem D_340_4 : decode J_340.2.2.1 4 = .ok (.ifCond .eq 27, 3) := dzq_153 (by decide +kernel)
theorem D_340_7 : decode J_340.2.2.1 7 = .ok (.iload_n 1, 1) := dzq_27 (by decide +kernel)
theorem D_340_8 : decode J_340.2.2.1 8 = .ok (.bipush 8, 2) := dzq_16 (by decide +kernel)
theorem D_340_10 : decode J_340.2.2.1 10 = .ok (.if_icmp .lt 21, 3) := dzq_161 (by decide +kernel)
theorem D_340_13 : decode J_340.2.2.1 13 = .ok (.iload_n 1, 1) := dzq_27 (by decide +kernel)
theorem D_340_14 : decode J_340.2.2.1 14 = .ok (.sipush 4000, 3) := dzq_17 (by decide +kernel)
theorem D_340_17 : decode J_340.2.2.1 17 = .ok (.if_icmp .gt 14, 3) := dzq_163 (by decide +kernel)
theorem D_340_20 : decode J_340.2.2.1 20 = .ok (.iload_n 2, 1) := dzq_28 (by decide +kernel)
theorem D_340_21 : decode J_340.2.2.1 21 = .ok (.iconst 1, 1) := dzq_4 (by decide +kernel)
theorem D_340_22 : decode J_340.2.2.1 22 = .ok (.if_icmp .lt 9, 3) := dzq_161 (by decide +kernel)
theorem D_340_25 : decode J_340.2.2.1 25 = .ok (.iload_n 2, 1) := dzq_28 (by decide +kernel)
theorem D_340_26 : decode J_340.2.2.1 26 = .ok (.bipush 40, 2) := dzq_16 (by decide +kernel)
theorem D_340_28 : decode J_340.2.2.1 28 = .ok (.if_icmp .le 5, 3) := dzq_164 (by decide +kernel)
theorem D_340_31 : decode J_340.2.2.1 31 = .ok (.iconst 0, 1) := dzq_3 (by decide +kernel)
theorem D_340_32 : decode J_340.2.2.1 32 = .ok (.ireturn, 1) := dzq_172 (by decide +kernel)
theorem D_340_33 : decode J_340.2.2.1 33 = .ok (.aload_n 0, 1) := dzq_42 (by decide +kernel)
theorem D_340_34 : decode J_340.2.2.1 34 = .ok (.iconst 1, 1) := dzq_4 (by decide +kernel)
theorem D_340_35 : decode J_340.2.2.1 35 = .ok (.putfield 636, 3) := dzq_181 (by decide +kernel)
theorem D_340_38 : decode J_340.2.2.1 38 = .ok (.aload_n 0, 1) := dzq_42 (by decide +kernel)
theorem D_340_39 : decode J_340.2.2.1 39 = .ok (.iconst 0, 1) := dzq_3 (by decide +kernel)
theorem D_340_40 : decode J_340.2.2.1 40 = .ok (.putfield 711, 3) := dzq_181 (by decide +kernel)
theorem D_340_43 : decode J_340.2.2.1 43 = .ok (.aload_n 0, 1) := dzq_42 (by decide +kernel)
theorem D_340_44 : decode J_340.2.2.1 44 = .ok (.iconst 0, 1) := dzq_3 (by decide +kernel)
theorem D_340_45 : decode J_340.2.2.1 45 = .ok (.putfield 639, 3) := dzq_181 (by decide +kernel)
theorem D_340_48 : decode J_340.2.2.1 48 = .ok (.aload_n 0, 1) := dzq_42 (by decide +kernel)
theorem D_340_49 : decode J_340.2.2.1 49 = .ok (.iconst (-1), 1) := dzq_2 (by decide +kernel)
theorem D_340_50 : decode J_340.2.2.1 50 = .ok (.putfield 642, 3) := dzq_181 (by decide +kernel)
theorem D_340_53 : decode J_340.2.2.1 53 = .ok (.aload_n 0, 1) := dzq_42 (by decide +kernel)
theorem D_340_54 : decode J_340.2.2.1 54 = .ok (.iconst 0, 1) := dzq_3 (by decide +kernel)
theorem D_340_55 : decode J_340.2.2.1 55 = .ok (.putfield 657, 3) := dzq_181 (by decide +kernel)
theorem D_340_58 : decode J_340.2.2.1 58 = .ok (.aload_n 0, 1) := dzq_42 (by decide +kernel)
theorem D_340_59 : decode J_340.2.2.1 59 = .ok (.iload_n 1, 1) := dzq_27 (by decide +kernel)
theorem D_340_60 : decode J_340.2.2.1 60 = .ok (.putfield 693, 3) := dzq_181 (by decide +kernel)
theorem D_340_63 : decode J_340.2.2.1 63 = .ok (.aload_n 0, 1) := dzq_42 (by decide +kernel)
theorem D_340_64 : decode J_340.2.2.1 64 = .ok (.iconst 0, 1) := dzq_3 (by decide +kernel)
theorem D_340_65 : decode J_340.2.2.1 65 = .ok (.putfield 690, 3) := dzq_181 (by decide +kernel)
theorem D_340_68 : decode J_340.2.2.1 68 = .ok (.aload_n 0, 1) := dzq_42 (by decide +kernel)
theorem D_340_69 : decode J_340.2.2.1 69 = .ok (.iconst 0, 1) := dzq_3 (by decide +kernel)
theorem D_340_70 : decode J_340.2.2.1 70 = .ok (.putfield 699, 3) := dzq_181 (by decide +kernel)
theorem D_340_73 : decode J_340.2.2.1 73 = .ok (.aload_n 0, 1) := dzq_42 (by decide +kernel)
theorem D_340_74 : decode J_340.2.2.1 74 = .ok (.iload_n 2, 1) := dzq_28 (by decide +kernel)
theorem D_340_75 : decode J_340.2.2.1 75 = .ok (.putfield 702, 3) := dzq_181 (by decide +kernel)
theorem D_340_78 : decode J_340.2.2.1 78 = .ok (.aload_n 0, 1) := dzq_42 (by decide +kernel)
theorem D_340_79 : decode J_340.2.2.1 79 = .ok (.iconst 1, 1) := dzq_4 (by decide +kernel)
theorem D_340_80 : decode J_340.2.2.1 80 = .ok (.putfield 708, 3) := dzq_181 (by decide +kernel)
theorem D_340_83 : decode J_340.2.2.1 83 = .ok (.aload_n 0, 1) := dzq_42 (by decide +kernel)
theorem D_340_84 : decode J_340.2.2.1 84 = .ok (.iconst 0, 1) := dzq_3 (by decide +kernel)
theorem D_340_85 : decode J_340.2.2.1 85 = .ok (.putfield 684, 3) := dzq_181 (by decide +kernel)
theorem D_340_88 : decode J_340.2.2.1 88 = .ok (.aload_n 0, 1) := dzq_42 (by decide +kernel)
theorem D_340_89 : decode J_340.2.2.1 89 = .ok (.iconst 1, 1) := dzq_4 (by decide +kernel)
theorem D_340_90 : decode J_340.2.2.1 90 = .ok (.putfield 627, 3) := dzq_181 (by decide +kernel)
theorem D_340_93 : decode J_340.2.2.1 93 = .ok (.aload_n 0, 1) := dzq_42 (by decide +kernel)
theorem D_340_94 : decode J_340.2.2.1 94 = .ok (.iconst 0, 1) := dzq_3 (by decide +kernel)
theorem D_340_95 : decode J_340.2.2.1 95 = .ok (.putfield 633, 3) := dzq_181 (by decide +kernel)
theorem D_340_98 : decode J_340.2.2.1 98 = .ok (.aload_n 0, 1) := dzq_42 (by decide +kernel)
theorem D_340_99 : decode J_340.2.2.1 99 = .ok (.getfield 239, 3) := dzq_180 (by decide +kernel)
theorem D_340_102 : decode J_340.2.2.1 102 = .ok (.iconst 0, 1) := dzq_3 (by decide +kernel)
theorem D_340_103 : decode J_340.2.2.1 103 = .ok (.iconst (-1), 1) := dzq_2 (by decide +kernel)
theorem D_340_104 : decode J_340.2.2.1 104 = .ok (.iastore, 1) := dzq_79 (by decide +kernel)
theorem D_340_105 : decode J_340.2.2.1 105 = .ok (.aload_n 0, 1) := dzq_42 (by decide +kernel)
theorem D_340_106 : decode J_340.2.2.1 106 = .ok (.getfield 242, 3) := dzq_180 (by decide +kernel)
theorem D_340_109 : decode J_340.2.2.1 109 = .ok (.iconst 0, 1) := dzq_3 (by decide +kernel)
theorem D_340_110 : decode J_340.2.2.1 110 = .ok (.iconst 0, 1) := dzq_3 (by decide +kernel)
theorem D_340_111 : decode J_340.2.2.1 111 = .ok (.iastore, 1) := dzq_79 (by decide +kernel)
theorem D_340_112 : decode J_340.2.2.1 112 = .ok (.aload_n 0, 1) := dzq_42 (by decide +kernel)
theorem D_340_113 : decode J_340.2.2.1 113 = .ok (.getfield 245, 3) := dzq_180 (by decide +kernel)
theorem D_340_116 : decode J_340.2.2.1 116 = .ok (.iconst 0, 1) := dzq_3 (by decide +kernel)
theorem D_340_117 : decode J_340.2.2.1 117 = .ok (.iconst (-1), 1) := dzq_2 (by decide +kernel)
theorem D_340_118 : decode J_340.2.2.1 118 = .ok (.iastore, 1) := dzq_79 (by decide +kernel)
theorem D_340_119 : decode J_340.2.2.1 119 = .ok (.iconst 0, 1) := dzq_3 (by decide +kernel)
theorem D_340_120 : decode J_340.2.2.1 120 = .ok (.istore_n 3, 1) := dzq_62 (by decide +kernel)
theorem D_340_121 : decode J_340.2.2.1 121 = .ok (.iload_n 3, 1) := dzq_29 (by decide +kernel)
theorem D_340_122 : decode J_340.2.2.1 122 = .ok (.bipush 16, 2) := dzq_16 (by decide +kernel)
theorem D_340_124 : decode J_340.2.2.1 124 = .ok (.if_icmp .ge 16, 3) := dzq_162 (by decide +kernel)
theorem D_340_127 : decode J_340.2.2.1 127 = .ok (.aload_n 0, 1) := dzq_42 (by decide +kernel)
theorem D_340_128 : decode J_340.2.2.1 128 = .ok (.getfield 251, 3) := dzq_180 (by decide +kernel)
theorem D_340_131 : decode J_340.2.2.1 131 = .ok (.iload_n 3, 1) := dzq_29 (by decide +kernel)
theorem D_340_132 : decode J_340.2.2.1 132 = .ok (.iconst 0, 1) := dzq_3 (by decide +kernel)
theorem D_340_133 : decode J_340.2.2.1 133 = .ok (.iastore, 1) := dzq_79 (by decide +kernel)
theorem D_340_134 : decode J_340.2.2.1 134 = .ok (.iinc 3 1, 3) := dzq_132 (by decide +kernel)
theorem D_340_137 : decode J_340.2.2.1 137 = .ok (.goto (-16), 3) := dzq_167 (by decide +kernel)
theorem D_340_140 : decode J_340.2.2.1 140 = .ok (.aload_n 0, 1) := dzq_42 (by decide +kernel)
theorem D_340_141 : decode J_340.2.2.1 141 = .ok (.aload_n 0, 1) := dzq_42 (by decide +kernel)
theorem D_340_142 : decode J_340.2.2.1 142 = .ok (.getfield 88, 3) := dzq_180 (by decide +kernel)
theorem D_340_145 : decode J_340.2.2.1 145 = .ok (.aload_n 0, 1) := dzq_42 (by decide +kernel)
theorem D_340_146 : decode J_340.2.2.1 146 = .ok (.getfield 648, 3) := dzq_180 (by decide +kernel)
theorem D_340_149 : decode J_340.2.2.1 149 = .ok (.iaload, 1) := dzq_46 (by decide +kernel)
theorem D_340_150 : decode J_340.2.2.1 150 = .ok (.putfield 651, 3) := dzq_181 (by decide +kernel)
theorem D_340_153 : decode J_340.2.2.1 153 = .ok (.aload_n 0, 1) := dzq_42 (by decide +kernel)
theorem D_340_154 : decode J_340.2.2.1 154 = .ok (.iconst 0, 1) := dzq_3 (by decide +kernel)
theorem D_340_155 : decode J_340.2.2.1 155 = .ok (.putfield 645, 3) := dzq_181 (by decide +kernel)
theorem D_340_158 : decode J_340.2.2.1 158 = .ok (.iconst 1, 1) := dzq_4 (by decide +kernel)
theorem D_340_159 : decode J_340.2.2.1 159 = .ok (.ireturn, 1) := dzq_172 (by decide +kernel)
def P_340_31 (X : mjX) (d C S kc ks : Nat) (k : mjH → mjU) : Prop := ∀  (hp : mjH) (q : Option Value × mjH), k  hp = some q → mjG X d C S J_340 (mjEq q) 31 [none, none, none, none] [] hp kc ks
def P_340_121 (X : mjX) (d C S kc ks : Nat) (k : Nat → Int32 → mjH → mjU) : Prop := ∀ (l0 : Nat) (l3 : Int32) (hp : mjH) (q : Option Value × mjH), k l0 l3 hp = some q → mjG X d C S J_340 (mjEq q) 121 [some (.ref l0), none, none, some (.int l3)] [] hp kc ks
def P_340_0 (X : mjX) (d C S kc ks : Nat) (k : Nat → Int32 → Int32 → mjH → mjU) : Prop := ∀ (l0 : Nat) (l1 : Int32) (l2 : Int32) (hp : mjH) (q : Option Value × mjH), k l0 l1 l2 hp = some q → mjG X d C S J_340 (mjEq q) 0 [some (.ref l0), some (.int l1), some (.int l2), none] [] hp kc ks
noncomputable def b_340_31 (R : mjR)  (hp : mjH) : mjU := some (some (.int (0 : Int32)), hp)
theorem t_340_31 {X : mjX} {d C S kc ks : Nat} {R : mjR} (hR : mjC R d) (h1 : kc ≤ C) (h2 : ks ≤ S) : P_340_31 X (d + 1) C S kc ks (b_340_31 R) := by
  intro  hp q h
  unfold b_340_31 at h
  refine mjq_ic (v := (0 : Int32)) D_340_31 rfl ?_
  exact mjr_ireturn D_340_32 rfl rfl h1 h2 (Option.some.inj h)
noncomputable def b_340_121 (R : mjR) (k121 : Nat → Int32 → mjH → mjU) (l0 : Nat) (l3 : Int32) (hp : mjH) : mjU := (if (16 : Int32) ≤ l3 then gR hp l0 12 34 (fun v1 => gI hp l0 12 9 (fun v2 => aI hp v1 v2 (fun v3 => pI hp l0 12 119 v3 (fun hp4 => pZ hp4 l0 12 126 (0 : Int32) (fun hp5 => some (some (.int (1 : Int32)), hp5)))))) else gR hp l0 12 115 (fun v6 => sI hp v6 l3 (0 : Int32) (fun hp7 => k121 l0 (l3 + (1 : Int32)) hp7)))
theorem t_340_121 {X : mjX} {d C S kc ks : Nat} {R : mjR} (hR : mjC R d) (h1 : kc ≤ C) (h2 : ks ≤ S) {k121 : Nat → Int32 → mjH → mjU} (hk121 : P_340_121 X (d + 1) C S kc ks k121) : P_340_121 X (d + 1) C S kc ks (b_340_121 R k121) := by
  intro l0 l3 hp q h
  unfold b_340_121 at h
  refine mjr_iload_n (x := l3) D_340_121 rfl ?_
  refine mjq_bi (v := (16 : Int32)) D_340_122 rfl ?_
  refine mjq_icmp_ge (tgt := 140) D_340_124 rfl h (fun h => ?_) (fun h => ?_)
  · refine mjr_aload_n (x := l0) D_340_140 rfl ?_
    refine mjr_aload_n (x := l0) D_340_141 rfl ?_
    refine mjq_gR D_340_142 fr_12_88 h (fun v1 h => ?_)
    refine mjr_aload_n (x := l0) D_340_145 rfl ?_
    refine mjq_gI D_340_146 fr_12_648 h (fun v2 h => ?_)
    refine mjq_aI D_340_149 h (fun v3 h => ?_)
    refine mjq_pI D_340_150 fr_12_651 rfl rfl h (fun hp4 h => ?_)
    refine mjr_aload_n (x := l0) D_340_153 rfl ?_
    refine mjq_ic (v := (0 : Int32)) D_340_154 rfl ?_
    refine mjq_pZ D_340_155 fr_12_645 rfl rfl h (fun hp5 h => ?_)
    refine mjq_ic (v := (1 : Int32)) D_340_158 rfl ?_
    exact mjr_ireturn D_340_159 rfl rfl h1 h2 (Option.some.inj h)
  · refine mjr_aload_n (x := l0) D_340_127 rfl ?_
    refine mjq_gR D_340_128 fr_12_251 h (fun v6 h => ?_)
    refine mjr_iload_n (x := l3) D_340_131 rfl ?_
    refine mjq_ic (v := (0 : Int32)) D_340_132 rfl ?_
    refine mjq_sI D_340_133 h (fun hp7 h => ?_)
    refine mjq_iinc (x := l3) (c := (1 : Int32)) (lo' := [some (.ref l0), none, none, some (.int (l3 + (1 : Int32)))]) D_340_134 rfl (Nat.le_of_ble_eq_true rfl) rfl rfl ?_
    refine mjr_goto (tgt := 121) D_340_137 rfl ?_
    exact hk121 _ _ _ _ h
noncomputable def L_340_121 (R : mjR) (n : Nat) : Nat → Int32 → mjH → mjU := Nat.rec (motive := fun _ => Nat → Int32 → mjH → mjU) (fun _ _ _ => none) (fun _ self => b_340_121 R self) n
theorem T_340_121 {X : mjX} {d C S kc ks : Nat} {R : mjR} (hR : mjC R d) (h1 : kc ≤ C) (h2 : ks ≤ S) (n : Nat) : P_340_121 X (d + 1) C S kc ks (L_340_121 R n) := by
  induction n with
  | zero => intro _ _ _ _ h; exact mj_no h
  | succ n ih => exact t_340_121 hR h1 h2 ih
noncomputable def b_340_0 (R : mjR) (l0 : Nat) (l1 : Int32) (l2 : Int32) (hp : mjH) : mjU := gI hp l0 12 10 (fun v1 => (if v1 = 0 then b_340_31 R hp else (if l1 < (8 : Int32) then b_340_31 R hp else (if (4000 : Int32) < l1 then b_340_31 R hp else (if l2 < (1 : Int32) then b_340_31 R hp else (if l2 ≤ (40 : Int32) then pI hp l0 12 96 (1 : Int32) (fun hp2 => pI hp2 l0 12 97 (0 : Int32) (fun hp3 => pI hp3 l0 12 98 (0 : Int32) (fun hp4 => pI hp4 l0 12 99 (-1 : Int32) (fun hp5 => pI hp5 l0 12 100 (0 : Int32) (fun hp6 => pI hp6 l0 12 101 l1 (fun hp7 => pI hp7 l0 12 102 (0 : Int32) (fun hp8 => pI hp8 l0 12 103 (0 : Int32) (fun hp9 => pI hp9 l0 12 104 l2 (fun hp10 => pI hp10 l0 12 105 (1 : Int32) (fun hp11 => pI hp11 l0 12 106 (0 : Int32) (fun hp12 => pI hp12 l0 12 116 (1 : Int32) (fun hp13 => pI hp13 l0 12 118 (0 : Int32) (fun hp14 => gR hp14 l0 12 111 (fun v15 => sI hp14 v15 (0 : Int32) (-1 : Int32) (fun hp16 => gR hp16 l0 12 112 (fun v17 => sI hp16 v17 (0 : Int32) (0 : Int32) (fun hp18 => gR hp18 l0 12 113 (fun v19 => sI hp18 v19 (0 : Int32) (-1 : Int32) (fun hp20 => L_340_121 R mjN l0 (0 : Int32) hp20))))))))))))))))))) else b_340_31 R hp))))))
theorem t_340_0 {X : mjX} {d C S kc ks : Nat} {R : mjR} (hR : mjC R d) (h1 : kc ≤ C) (h2 : ks ≤ S) : P_340_0 X (d + 1) C S kc ks (b_340_0 R) := by
  intro l0 l1 l2 hp q h
  unfold b_340_0 at h
  refine mjr_aload_n (x := l0) D_340_0 rfl ?_
  refine mjq_gI D_340_1 fr_12_756 h (fun v1 h => ?_)
  refine mjq_if_eq (tgt := 31) D_340_4 rfl h (fun h => ?_) (fun h => ?_)
  · exact mjG.fg (lo' := [none, none, none, none]) True.intro ((t_340_31 hR h1 h2) _ _ h)
  · refine mjr_iload_n (x := l1) D_340_7 rfl ?_
    refine mjq_bi (v := (8 : Int32)) D_340_8 rfl ?_
    refine mjq_icmp_lt (tgt := 31) D_340_10 rfl h (fun h => ?_) (fun h => ?_)
    · exact mjG.fg (lo' := [none, none, none, none]) True.intro ((t_340_31 hR h1 h2) _ _ h)
    · refine mjr_iload_n (x := l1) D_340_13 rfl ?_
      refine mjq_si (v := (4000 : Int32)) D_340_14 rfl ?_
      refine mjq_icmp_gt (tgt := 31) D_340_17 rfl h (fun h => ?_) (fun h => ?_)
      · exact mjG.fg (lo' := [none, none, none, none]) True.intro ((t_340_31 hR h1 h2) _ _ h)
      · refine mjr_iload_n (x := l2) D_340_20 rfl ?_
        refine mjq_ic (v := (1 : Int32)) D_340_21 rfl ?_
        refine mjq_icmp_lt (tgt := 31) D_340_22 rfl h (fun h => ?_) (fun h => ?_)
        · exact mjG.fg (lo' := [none, none, none, none]) True.intro ((t_340_31 hR h1 h2) _ _ h)
        · refine mjr_iload_n (x := l2) D_340_25 rfl ?_
          refine mjq_bi (v := (40 : Int32)) D_340_26 rfl ?_
          refine mjq_icmp_le (tgt := 33) D_340_28 rfl h (fun h => ?_) (fun h => ?_)
          · refine mjr_aload_n (x := l0) D_340_33 rfl ?_
            refine mjq_ic (v := (1 : Int32)) D_340_34 rfl ?_
            refine mjq_pI D_340_35 fr_12_636 rfl rfl h (fun hp2 h => ?_)
            refine mjr_aload_n (x := l0) D_340_38 rfl ?_
            refine mjq_ic (v := (0 : Int32)) D_340_39 rfl ?_
            refine mjq_pI D_340_40 fr_12_711 rfl rfl h (fun hp3 h => ?_)
            refine mjr_aload_n (x := l0) D_340_43 rfl ?_
            refine mjq_ic (v := (0 : Int32)) D_340_44 rfl ?_
            refine mjq_pI D_340_45 fr_12_639 rfl rfl h (fun hp4 h => ?_)
            refine mjr_aload_n (x := l0) D_340_48 rfl ?_
            refine mjq_ic (v := (-1 : Int32)) D_340_49 rfl ?_
            refine mjq_pI D_340_50 fr_12_642 rfl rfl h (fun hp5 h => ?_)
            refine mjr_aload_n (x := l0) D_340_53 rfl ?_
            refine mjq_ic (v := (0 : Int32)) D_340_54 rfl ?_
            refine mjq_pI D_340_55 fr_12_657 rfl rfl h (fun hp6 h => ?_)
            refine mjr_aload_n (x := l0) D_340_58 rfl ?_
            refine mjr_iload_n (x := l1) D_340_59 rfl ?_
            refine mjq_pI D_340_60 fr_12_693 rfl rfl h (fun hp7 h => ?_)
            refine mjr_aload_n (x := l0) D_340_63 rfl ?_
            refine mjq_ic (v := (0 : Int32)) D_340_64 rfl ?_
            refine mjq_pI D_340_65 fr_12_690 rfl rfl h (fun hp8 h => ?_)
            refine mjr_aload_n (x := l0) D_340_68 rfl ?_
            refine mjq_ic (v := (0 : Int32)) D_340_69 rfl ?_
            refine mjq_pI D_340_70 fr_12_699 rfl rfl h (fun hp9 h => ?_)
            refine mjr_aload_n (x := l0) D_340_73 rfl ?_
            refine mjr_iload_n (x := l2) D_340_74 rfl ?_
            refine mjq_pI D_340_75 fr_12_702 rfl rfl h (fun hp10 h => ?_)
            refine mjr_aload_n (x := l0) D_340_78 rfl ?_
            refine mjq_ic (v := (1 : Int32)) D_340_79 rfl ?_
            refine mjq_pI D_340_80 fr_12_708 rfl rfl h (fun hp11 h => ?_)
            refine mjr_aload_n (x := l0) D_340_83 rfl ?_
            refine mjq_ic (v := (0 : Int32)) D_340_84 rfl ?_
            refine mjq_pI D_340_85 fr_12_684 rfl rfl h (fun hp12 h => ?_)
            refine mjr_aload_n (x := l0) D_340_88 rfl ?_
            refine mjq_ic (v := (1 : Int32)) D_340_89 rfl ?_
            refine mjq_pI D_340_90 fr_12_627 rfl rfl h (fun hp13 h => ?_)
            refine mjr_aload_n (x := l0) D_340_93 rfl ?_
            refine mjq_ic (v := (0 : Int32)) D_340_94 rfl ?_
            refine mjq_pI D_340_95 fr_12_633 rfl rfl h (fun hp14 h => ?_)
            refine mjr_aload_n (x := l0) D_340_98 rfl ?_
            refine mjq_gR D_340_99 fr_12_239 h (fun v15 h => ?_)
            refine mjq_ic (v := (0 : Int32)) D_340_102 rfl ?_
            refine mjq_ic (v := (-1 : Int32)) D_340_103 rfl ?_
            refine mjq_sI D_340_104 h (fun hp16 h => ?_)
            refine mjr_aload_n (x := l0) D_340_105 rfl ?_
            refine mjq_gR D_340_106 fr_12_242 h (fun v17 h => ?_)
            refine mjq_ic (v := (0 : Int32)) D_340_109 rfl ?_
            refine mjq_ic (v := (0 : Int32)) D_340_110 rfl ?_
            refine mjq_sI D_340_111 h (fun hp18 h => ?_)
            refine mjr_aload_n (x := l0) D_340_112 rfl ?_
            refine mjq_gR D_340_113 fr_12_245 h (fun v19 h => ?_)
            refine mjq_ic (v := (0 : Int32)) D_340_116 rfl ?_
            refine mjq_ic (v := (-1 : Int32)) D_340_117 rfl ?_
            refine mjq_sI D_340_118 h (fun hp20 h => ?_)
            refine mjq_ic (v := (0 : Int32)) D_340_119 rfl ?_
            refine mjq_istore_n (lo' := [some (.ref l0), some (.int l1), some (.int l2), some (.int (0 : Int32))]) D_340_120 (Nat.le_of_ble_eq_true rfl) rfl ?_
            exact mjG.fg (lo' := [some (.ref l0), none, none, some (.int (0 : Int32))]) (And.intro rfl (And.intro rfl True.intro)) ((T_340_121 hR h1 h2 mjN) _ _ _ _ h)
          · exact mjG.fg (lo' := [none, none, none, none]) True.intro ((t_340_31 hR h1 h2) _ _ h)
noncomputable def f_340 (R : mjR) (a0 : Nat) (a1 : Int32) (a2 : Int32) (hp : mjH) : mjU := b_340_0 R a0 a1 a2 hp
theorem c_340 {R : mjR} {d : Nat} (hR : mjC R d) {a0 : Nat} {a1 : Int32} {a2 : Int32} {hp : mjH} {q : Option Value × mjH} (h : f_340 R a0 a1 a2 hp = some q) : mjM (d + 1) 0 0 340 [.ref a0, .int a1, .int a2] hp (mjEq q) :=
  mjM_of Ja_340 (Nat.le_of_ble_eq_true rfl) (mjG.fg (lo' := [some (.ref a0), some (.int a1), some (.int a2), none]) (And.intro rfl (And.intro rfl (And.intro rfl True.intro))) ((t_340_0 hR (Nat.le_refl 0) (Nat.le_refl 0)) a0 a1 a2 hp q h))
def J_341 : mjI := (⟨"OwnerHeapModel", "state", "(I)I"⟩, 12, prog_14_method_117_code, 2, (some .int), 1, false)
theorem Ja_341 : mjMt 341 = some J_341 := by rfl
theorem D_341_0 : decode J_341.2.2.1 0 = .ok (.iload_n 1, 1) := dzq_27 (by decide +kernel)
theorem D_341_1 : decode J_341.2.2.1 1 = .ok (.ifCond .lt 9, 3) := dzq_155 (by decide +kernel)
theorem D_341_4 : decode J_341.2.2.1 4 = .ok (.iload_n 1, 1) := dzq_27 (by decide +kernel)
theorem D_341_5 : decode J_341.2.2.1 5 = .ok (.bipush 9, 2) := dzq_16 (by decide +kernel)
theorem D_341_7 : decode J_341.2.2.1 7 = .ok (.if_icmp .le 5, 3) := dzq_164 (by decide +kernel)
theorem D_341_10 : decode J_341.2.2.1 10 = .ok (.iconst (-1), 1) := dzq_2 (by decide +kernel)
theorem D_341_11 : decode J_341.2.2.1 11 = .ok (.ireturn, 1) := dzq_172 (by decide +kernel)
theorem D_341_12 : decode J_341.2.2.1 12 = .ok (.aload_n 0, 1) := dzq_42 (by decide +kernel)
theorem D_341_13 : decode J_341.2.2.1 13 = .ok (.getfield 636, 3) := dzq_180 (by decide +kernel)
theorem D_341_16 : decode J_341.2.2.1 16 = .ok (.ifCond .ne 14, 3) := dzq_154 (by decide +kernel)
theorem D_341_19 : decode J_341.2.2.1 19 = .ok (.iload_n 1, 1) := dzq_27 (by decide +kernel)
theorem D_341_20 : decode J_341.2.2.1 20 = .ok (.iconst 3, 1) := dzq_6 (by decide +kernel)
theorem D_341_21 : decode J_341.2.2.1 21 = .ok (.if_icmp .ne 7, 3) := dzq_160 (by decide +kernel)
theorem D_341_24 : decode J_341.2.2.1 24 = .ok (.iconst (-1), 1) := dzq_2 (by decide +kernel)
theorem D_341_25 : decode J_341.2.2.1 25 = .ok (.goto 4, 3) := dzq_167 (by decide +kernel)
theorem D_341_28 : decode J_341.2.2.1 28 = .ok (.iconst 0, 1) := dzq_3 (by decide +kernel)
theorem D_341_29 : decode J_341.2.2.1 29 = .ok (.ireturn, 1) := dzq_172 (by decide +kernel)
theorem D_341_30 : decode J_341.2.2.1 30 = .ok (.iload_n 1, 1) := dzq_27 (by decide +kernel)
theorem D_341_31 : decode J_341.2.2.1 31 = .ok (.tableswitch 94 0 8 #[49, 54, 59, 64, 69, 74, 79, 84, 89], 49) := by decide +kernel
theorem D_341_80 : decode J_341.2.2.1 80 = .ok (.aload_n 0, 1) := dzq_42 (by decide +kernel)
theorem D_341_81 : decode J_341.2.2.1 81 = .ok (.getfield 636, 3) := dzq_180 (by decide +kernel)
theorem D_341_84 : decode J_341.2.2.1 84 = .ok (.ireturn, 1) := dzq_172 (by decide +kernel)
theorem D_341_85 : decode J_341.2.2.1 85 = .ok (.aload_n 0, 1) := dzq_42 (by decide +kernel)
theorem D_341_86 : decode J_341.2.2.1 86 = .ok (.getfield 711, 3) := dzq_180 (by decide +kernel)
theorem D_341_89 : decode J_341.2.2.1 89 = .ok (.ireturn, 1) := dzq_172 (by decide +kernel)
theorem D_341_90 : decode J_341.2.2.1 90 = .ok (.aload_n 0, 1) := dzq_42 (by decide +kernel)
theorem D_341_91 : decode J_341.2.2.1 91 = .ok (.getfield 639, 3) := dzq_180 (by decide +kernel)
theorem D_341_94 : decode J_341.2.2.1 94 = .ok (.ireturn, 1) := dzq_172 (by decide +kernel)
theorem D_341_95 : decode J_341.2.2.1 95 = .ok (.aload_n 0, 1) := dzq_42 (by decide +kernel)
theorem D_341_96 : decode J_341.2.2.1 96 = .ok (.getfield 642, 3) := dzq_180 (by decide +kernel)
theorem D_341_99 : decode J_341.2.2.1 99 = .ok (.ireturn, 1) := dzq_172 (by decide +kernel)
theorem D_341_100 : decode J_341.2.2.1 100 = .ok (.aload_n 0, 1) := dzq_42 (by decide +kernel)
theorem D_341_101 : decode J_341.2.2.1 101 = .ok (.getfield 657, 3) := dzq_180 (by decide +kernel)
theorem D_341_104 : decode J_341.2.2.1 104 = .ok (.ireturn, 1) := dzq_172 (by decide +kernel)
theorem D_341_105 : decode J_341.2.2.1 105 = .ok (.aload_n 0, 1) := dzq_42 (by decide +kernel)
theorem D_341_106 : decode J_341.2.2.1 106 = .ok (.getfield 690, 3) := dzq_180 (by decide +kernel)
theorem D_341_109 : decode J_341.2.2.1 109 = .ok (.ireturn, 1) := dzq_172 (by decide +kernel)
theorem D_341_110 : decode J_341.2.2.1 110 = .ok (.aload_n 0, 1) := dzq_42 (by decide +kernel)
theorem D_341_111 : decode J_341.2.2.1 111 = .ok (.getfield 699, 3) := dzq_180 (by decide +kernel)
theorem D_341_114 : decode J_341.2.2.1 114 = .ok (.ireturn, 1) := dzq_172 (by decide +kernel)
theorem D_341_115 : decode J_341.2.2.1 115 = .ok (.aload_n 0, 1) := dzq_42 (by decide +kernel)
theorem D_341_116 : decode J_341.2.2.1 116 = .ok (.getfield 627, 3) := dzq_180 (by decide +kernel)
theorem D_341_119 : decode J_341.2.2.1 119 = .ok (.ireturn, 1) := dzq_172 (by decide +kernel)
theorem D_341_120 : decode J_341.2.2.1 120 = .ok (.aload_n 0, 1) := dzq_42 (by decide +kernel)
theorem D_341_121 : decode J_341.2.2.1 121 = .ok (.getfield 708, 3) := dzq_180 (by decide +kernel)
theorem D_341_124 : decode J_341.2.2.1 124 = .ok (.ireturn, 1) := dzq_172 (by decide +kernel)
theorem D_341_125 : decode J_341.2.2.1 125 = .ok (.aload_n 0, 1) := dzq_42 (by decide +kernel)
theorem D_341_126 : decode J_341.2.2.1 126 = .ok (.getfield 684, 3) := dzq_180 (by decide +kernel)
theorem D_341_129 : decode J_341.2.2.1 129 = .ok (.ireturn, 1) := dzq_172 (by decide +kernel)
def P_341_10 (X : mjX) (d C S kc ks : Nat) (k : mjH → mjU) : Prop := ∀  (hp : mjH) (q : Option Value × mjH), k  hp = some q → mjG X d C S J_341 (mjEq q) 10 [none, none] [] hp kc ks
def P_341_0 (X : mjX) (d C S kc ks : Nat) (k : Nat → Int32 → mjH → mjU) : Prop := ∀ (l0 : Nat) (l1 : Int32) (hp : mjH) (q : Option Value × mjH), k l0 l1 hp = some q → mjG X d C S J_341 (mjEq q) 0 [some (.ref l0), some (.int l1)] [] hp kc ks
noncomputable def b_341_10 (R : mjR)  (hp : mjH) : mjU := some (some (.int (-1 : Int32)), hp)
theorem t_341_10 {X : mjX} {d C S kc ks : Nat} {R : mjR} (hR : mjC R d) (h1 : kc ≤ C) (h2 : ks ≤ S) : P_341_10 X (d + 1) C S kc ks (b_341_10 R) := by
  intro  hp q h
  unfold b_341_10 at h
  refine mjq_ic (v := (-1 : Int32)) D_341_10 rfl ?_
  exact mjq_ret D_341_11 rfl h1 h2 h
noncomputable def b_341_0 (R : mjR) (l0 : Nat) (l1 : Int32) (hp : mjH) : mjU := (if l1 < 0 then b_341_10 R hp else (if l1 ≤ (9 : Int32) then gI hp l0 12 96 (fun v1 => (if v1 = 0 then (if l1 = (3 : Int32) then some (some (.int (-1 : Int32)), hp) else some (some (.int (0 : Int32)), hp)) else (if l1 = (0 : Int32) then gI hp l0 12 96 (fun v3 => some (some (.int v3), hp)) else if l1 = (1 : Int32) then gI hp l0 12 97 (fun v5 => some (some (.int v5), hp)) else if l1 = (2 : Int32) then gI hp l0 12 98 (fun v7 => some (some (.int v7), hp)) else if l1 = (3 : Int32) then gI hp l0 12 99 (fun v9 => some (some (.int v9), hp)) else if l1 = (4 : Int32) then gI hp l0 12 100 (fun v11 => some (some (.int v11), hp)) else if l1 = (5 : Int32) then gI hp l0 12 102 (fun v13 => some (some (.int v13), hp)) else if l1 = (6 : Int32) then gI hp l0 12 103 (fun v15 => some (some (.int v15), hp)) else if l1 = (7 : Int32) then gI hp l0 12 116 (fun v17 => some (some (.int v17), hp)) else if l1 = (8 : Int32) then gI hp l0 12 105 (fun v19 => some (some (.int v19), hp)) else gI hp l0 12 106 (fun v20 => some (some (.int v20), hp))))) else b_341_10 R hp))
theorem t_341_0 {X : mjX} {d C S kc ks : Nat} {R : mjR} (hR : mjC R d) (h1 : kc ≤ C) (h2 : ks ≤ S) : P_341_0 X (d + 1) C S kc ks (b_341_0 R) := by
  intro l0 l1 hp q h
  unfold b_341_0 at h
  refine mjr_iload_n (x := l1) D_341_0 rfl ?_
  refine mjq_if_lt (tgt := 10) D_341_1 rfl h (fun h => ?_) (fun h => ?_)
  · exact mjG.fg (lo' := [none, none]) True.intro ((t_341_10 hR h1 h2) _ _ h)
  · refine mjr_iload_n (x := l1) D_341_4 rfl ?_
    refine mjq_bi (v := (9 : Int32)) D_341_5 rfl ?_
    refine mjq_icmp_le (tgt := 12) D_341_7 rfl h (fun h => ?_) (fun h => ?_)
    · refine mjr_aload_n (x := l0) D_341_12 rfl ?_
      refine mjq_gI D_341_13 fr_12_636 h (fun v1 h => ?_)
      refine mjq_if_ne (tgt := 30) D_341_16 rfl h (fun h => ?_) (fun h => ?_)
      · refine mjr_iload_n (x := l1) D_341_30 rfl ?_
        refine mjq_tsw (c := (0 : Int32)) (tgt := 80) D_341_31 (by decide) (by decide) rfl rfl h (fun h => ?_) (fun n2 h => ?_)
        · refine mjr_aload_n (x := l0) D_341_80 rfl ?_
          refine mjq_gI D_341_81 fr_12_636 h (fun v3 h => ?_)
          exact mjq_ret D_341_84 rfl h1 h2 h
        refine mjq_tsw (c := (1 : Int32)) (tgt := 85) D_341_31 (by decide) (by decide) rfl rfl h (fun h => ?_) (fun n4 h => ?_)
        · refine mjr_aload_n (x := l0) D_341_85 rfl ?_
          refine mjq_gI D_341_86 fr_12_711 h (fun v5 h => ?_)
          exact mjq_ret D_341_89 rfl h1 h2 h
        refine mjq_tsw (c := (2 : Int32)) (tgt := 90) D_341_31 (by decide) (by decide) rfl rfl h (fun h => ?_) (fun n6 h => ?_)
        · refine mjr_aload_n (x := l0) D_341_90 rfl ?_
          refine mjq_gI D_341_91 fr_12_639 h (fun v7 h => ?_)
          exact mjq_ret D_341_94 rfl h1 h2 h
        refine mjq_tsw (c := (3 : Int32)) (tgt := 95) D_341_31 (by decide) (by decide) rfl rfl h (fun h => ?_) (fun n8 h => ?_)
        · refine mjr_aload_n (x := l0) D_341_95 rfl ?_
          refine mjq_gI D_341_96 fr_12_642 h (fun v9 h => ?_)
          exact mjq_ret D_341_99 rfl h1 h2 h
        refine mjq_tsw (c := (4 : Int32)) (tgt := 100) D_341_31 (by decide) (by decide) rfl rfl h (fun h => ?_) (fun n10 h => ?_)
        · refine mjr_aload_n (x := l0) D_341_100 rfl ?_
          refine mjq_gI D_341_101 fr_12_657 h (fun v11 h => ?_)
          exact mjq_ret D_341_104 rfl h1 h2 h
        refine mjq_tsw (c := (5 : Int32)) (tgt := 105) D_341_31 (by decide) (by decide) rfl rfl h (fun h => ?_) (fun n12 h => ?_)
        · refine mjr_aload_n (x := l0) D_341_105 rfl ?_
          refine mjq_gI D_341_106 fr_12_690 h (fun v13 h => ?_)
          exact mjq_ret D_341_109 rfl h1 h2 h
        refine mjq_tsw (c := (6 : Int32)) (tgt := 110) D_341_31 (by decide) (by decide) rfl rfl h (fun h => ?_) (fun n14 h => ?_)
        · refine mjr_aload_n (x := l0) D_341_110 rfl ?_
          refine mjq_gI D_341_111 fr_12_699 h (fun v15 h => ?_)
          exact mjq_ret D_341_114 rfl h1 h2 h
        refine mjq_tsw (c := (7 : Int32)) (tgt := 115) D_341_31 (by decide) (by decide) rfl rfl h (fun h => ?_) (fun n16 h => ?_)
        · refine mjr_aload_n (x := l0) D_341_115 rfl ?_
          refine mjq_gI D_341_116 fr_12_627 h (fun v17 h => ?_)
          exact mjq_ret D_341_119 rfl h1 h2 h
        refine mjq_tsw (c := (8 : Int32)) (tgt := 120) D_341_31 (by decide) (by decide) rfl rfl h (fun h => ?_) (fun n18 h => ?_)
        · refine mjr_aload_n (x := l0) D_341_120 rfl ?_
          refine mjq_gI D_341_121 fr_12_708 h (fun v19 h => ?_)
          exact mjq_ret D_341_124 rfl h1 h2 h
        refine mjr_tableOut (tgt := 125) D_341_31 (mj_swout [(0 : Int32), (1 : Int32), (2 : Int32), (3 : Int32), (4 : Int32), (5 : Int32), (6 : Int32), (7 : Int32), (8 : Int32)] (by decide) (mj_all1 n2 (mj_all1 n4 (mj_all1 n6 (mj_all1 n8 (mj_all1 n10 (mj_all1 n12 (mj_all1 n14 (mj_all1 n16 (mj_all1 n18 mj_all0)))))))))) rfl ?_
        refine mjr_aload_n (x := l0) D_341_125 rfl ?_
        refine mjq_gI D_341_126 fr_12_684 h (fun v20 h => ?_)
        exact mjq_ret D_341_129 rfl h1 h2 h
      · refine mjr_iload_n (x := l1) D_341_19 rfl ?_
        refine mjq_ic (v := (3 : Int32)) D_341_20 rfl ?_
        refine mjq_icmp_ne (tgt := 28) D_341_21 rfl h (fun h => ?_) (fun h => ?_)
        · refine mjq_ic (v := (0 : Int32)) D_341_28 rfl ?_
          exact mjq_ret D_341_29 rfl h1 h2 h
        · refine mjq_ic (v := (-1 : Int32)) D_341_24 rfl ?_
          refine mjr_goto (tgt := 29) D_341_25 rfl ?_
          exact mjq_ret D_341_29 rfl h1 h2 h
    · exact mjG.fg (lo' := [none, none]) True.intro ((t_341_10 hR h1 h2) _ _ h)
noncomputable def f_341 (R : mjR) (a0 : Nat) (a1 : Int32) (hp : mjH) : mjU := b_341_0 R a0 a1 hp
theorem c_341 {R : mjR} {d : Nat} (hR : mjC R d) {a0 : Nat} {a1 : Int32} {hp : mjH} {q : Option Value × mjH} (h : f_341 R a0 a1 hp = some q) : mjM (d + 1) 0 0 341 [.ref a0, .int a1] hp (mjEq q) :=
  mjM_of Ja_341 (Nat.le_of_ble_eq_true rfl) (mjG.fg (lo' := [some (.ref a0), some (.int a1)]) (And.intro rfl (And.intro rfl True.intro)) ((t_341_0 hR (Nat.le_refl 0) (Nat.le_refl 0)) a0 a1 hp q h))
def J_342 : mjI := (⟨"OwnerHeapModel", "said", "(I)I"⟩, 12, prog_14_method_118_code, 2, (some .int), 1, false)
theorem Ja_342 : mjMt 342 = some J_342 := by rfl
theorem D_342_0 : decode J_342.2.2.1 0 = .ok (.aload_n 0, 1) := dzq_42 (by decide +kernel)
theorem D_342_1 : decode J_342.2.2.1 1 = .ok (.getfield 636, 3) := dzq_180 (by decide +kernel)
theorem D_342_4 : decode J_342.2.2.1 4 = .ok (.ifCond .eq 22, 3) := dzq_153 (by decide +kernel)
theorem D_342_7 : decode J_342.2.2.1 7 = .ok (.iload_n 1, 1) := dzq_27 (by decide +kernel)
theorem D_342_8 : decode J_342.2.2.1 8 = .ok (.ifCond .lt 18, 3) := dzq_155 (by decide +kernel)
theorem D_342_11 : decode J_342.2.2.1 11 = .ok (.iload_n 1, 1) := dzq_27 (by decide +kernel)
theorem D_342_12 : decode J_342.2.2.1 12 = .ok (.sipush 200, 3) := dzq_17 (by decide +kernel)
theorem D_342_15 : decode J_342.2.2.1 15 = .ok (.if_icmp .ge 11, 3) := dzq_162 (by decide +kernel)
theorem D_342_18 : decode J_342.2.2.1 18 = .ok (.iload_n 1, 1) := dzq_27 (by decide +kernel)
theorem D_342_19 : decode J_342.2.2.1 19 = .ok (.aload_n 0, 1) := dzq_42 (by decide +kernel)
theorem D_342_20 : decode J_342.2.2.1 20 = .ok (.getfield 684, 3) := dzq_180 (by decide +kernel)
theorem D_342_23 : decode J_342.2.2.1 23 = .ok (.if_icmp .lt 7, 3) := dzq_161 (by decide +kernel)
theorem D_342_26 : decode J_342.2.2.1 26 = .ok (.iconst 0, 1) := dzq_3 (by decide +kernel)
theorem D_342_27 : decode J_342.2.2.1 27 = .ok (.goto 9, 3) := dzq_167 (by decide +kernel)
theorem D_342_30 : decode J_342.2.2.1 30 = .ok (.aload_n 0, 1) := dzq_42 (by decide +kernel)
theorem D_342_31 : decode J_342.2.2.1 31 = .ok (.getfield 227, 3) := dzq_180 (by decide +kernel)
theorem D_342_34 : decode J_342.2.2.1 34 = .ok (.iload_n 1, 1) := dzq_27 (by decide +kernel)
theorem D_342_35 : decode J_342.2.2.1 35 = .ok (.iaload, 1) := dzq_46 (by decide +kernel)
theorem D_342_36 : decode J_342.2.2.1 36 = .ok (.ireturn, 1) := dzq_172 (by decide +kernel)
def P_342_26 (X : mjX) (d C S kc ks : Nat) (k : mjH → mjU) : Prop := ∀  (hp : mjH) (q : Option Value × mjH), k  hp = some q → mjG X d C S J_342 (mjEq q) 26 [none, none] [] hp kc ks
def P_342_0 (X : mjX) (d C S kc ks : Nat) (k : Nat → Int32 → mjH → mjU) : Prop := ∀ (l0 : Nat) (l1 : Int32) (hp : mjH) (q : Option Value × mjH), k l0 l1 hp = some q → mjG X d C S J_342 (mjEq q) 0 [some (.ref l0), some (.int l1)] [] hp kc ks
noncomputable def b_342_26 (R : mjR)  (hp : mjH) : mjU := some (some (.int (0 : Int32)), hp)
theorem t_342_26 {X : mjX} {d C S kc ks : Nat} {R : mjR} (hR : mjC R d) (h1 : kc ≤ C) (h2 : ks ≤ S) : P_342_26 X (d + 1) C S kc ks (b_342_26 R) := by
  intro  hp q h
  unfold b_342_26 at h
  refine mjq_ic (v := (0 : Int32)) D_342_26 rfl ?_
  refine mjr_goto (tgt := 36) D_342_27 rfl ?_
  exact mjq_ret D_342_36 rfl h1 h2 h
noncomputable def b_342_0 (R : mjR) (l0 : Nat) (l1 : Int32) (hp : mjH) : mjU := gI hp l0 12 96 (fun v1 => (if v1 = 0 then b_342_26 R hp else (if l1 < 0 then b_342_26 R hp else (if (200 : Int32) ≤ l1 then b_342_26 R hp else gI hp l0 12 106 (fun v2 => (if l1 < v2 then gR hp l0 12 107 (fun v3 => aI hp v3 l1 (fun v4 => some (some (.int v4), hp))) else b_342_26 R hp))))))
theorem t_342_0 {X : mjX} {d C S kc ks : Nat} {R : mjR} (hR : mjC R d) (h1 : kc ≤ C) (h2 : ks ≤ S) : P_342_0 X (d + 1) C S kc ks (b_342_0 R) := by
  intro l0 l1 hp q h
  unfold b_342_0 at h
  refine mjr_aload_n (x := l0) D_342_0 rfl ?_
  refine mjq_gI D_342_1 fr_12_636 h (fun v1 h => ?_)
  refine mjq_if_eq (tgt := 26) D_342_4 rfl h (fun h => ?_) (fun h => ?_)
  · exact mjG.fg (lo' := [none, none]) True.intro ((t_342_26 hR h1 h2) _ _ h)
  · refine mjr_iload_n (x := l1) D_342_7 rfl ?_
    refine mjq_if_lt (tgt := 26) D_342_8 rfl h (fun h => ?_) (fun h => ?_)
    · exact mjG.fg (lo' := [none, none]) True.intro ((t_342_26 hR h1 h2) _ _ h)
    · refine mjr_iload_n (x := l1) D_342_11 rfl ?_
      refine mjq_si (v := (200 : Int32)) D_342_12 rfl ?_
      refine mjq_icmp_ge (tgt := 26) D_342_15 rfl h (fun h => ?_) (fun h => ?_)
      · exact mjG.fg (lo' := [none, none]) True.intro ((t_342_26 hR h1 h2) _ _ h)
      · refine mjr_iload_n (x := l1) D_342_18 rfl ?_
        refine mjr_aload_n (x := l0) D_342_19 rfl ?_
        refine mjq_gI D_342_20 fr_12_684 h (fun v2 h => ?_)
        refine mjq_icmp_lt (tgt := 30) D_342_23 rfl h (fun h => ?_) (fun h => ?_)
        · refine mjr_aload_n (x := l0) D_342_30 rfl ?_
          refine mjq_gR D_342_31 fr_12_227 h (fun v3 h => ?_)
          refine mjr_iload_n (x := l1) D_342_34 rfl ?_
          refine mjq_aI D_342_35 h (fun v4 h => ?_)
          exact mjq_ret D_342_36 rfl h1 h2 h
        · exact mjG.fg (lo' := [none, none]) True.intro ((t_342_26 hR h1 h2) _ _ h)
noncomputable def f_342 (R : mjR) (a0 : Nat) (a1 : Int32) (hp : mjH) : mjU := b_342_0 R a0 a1 hp
theorem c_342 {R : mjR} {d : Nat} (hR : mjC R d) {a0 : Nat} {a1 : Int32} {hp : mjH} {q : Option Value × mjH} (h : f_342 R a0 a1 hp = some q) : mjM (d + 1) 0 0 342 [.ref a0, .int a1] hp (mjEq q) :=
  mjM_of Ja_342 (Nat.le_of_ble_eq_true rfl) (mjG.fg (lo' := [some (.ref a0), some (.int a1)]) (And.intro rfl (And.intro rfl True.intro)) ((t_342_0 hR (Nat.le_refl 0) (Nat.le_refl 0)) a0 a1 hp q h))
def J_343 : mjI := (⟨"OwnerHeapModel", "call", "(II)I"⟩, 12, prog_14_method_120_code, 4, (some .int), 2, false)
theorem Ja_343 : mjMt 343 = some J_343 := by rfl
theorem D_343_0 : decode J_343.2.2.1 0 = .ok (.aload_n 0, 1) := dzq_42 (by decide +kernel)
theorem D_343_1 : decode J_343.2.2.1 1 = .ok (.iload_n 1, 1) := dzq_27 (by decide +kernel)
theorem D_343_2 : decode J_343.2.2.1 2 = .ok (.invokevirtual 762, 3) := dzq_182 (by decide +kernel)
theorem D_343_5 : decode J_343.2.2.1 5 = .ok (.ifCond .ne 5, 3) := dzq_154 (by decide +kernel)
theorem D_343_8 : decode J_343.2.2.1 8 = .ok (.iconst (-1), 1) := dzq_2 (by decide +kernel)
theorem D_343_9 : decode J_343.2.2.1 9 = .ok (.ireturn, 1) := dzq_172 (by decide +kernel)
theorem D_343_10 : decode J_343.2.2.1 10 = .ok (.aload_n 0, 1) := dzq_42 (by decide +kernel)
theorem D_343_11 : decode J_343.2.2.1 11 = .ok (.getfield 239, 3) := dzq_180 (by decide +kernel)
theorem D_343_14 : decode J_343.2.2.1 14 = .ok (.iload_n 1, 1) := dzq_27 (by decide +kernel)
theorem D_343_15 : decode J_343.2.2.1 15 = .ok (.iaload, 1) := dzq_46 (by decide +kernel)
theorem D_343_16 : decode J_343.2.2.1 16 = .ok (.istore_n 3, 1) := dzq_62 (by decide +kernel)
theorem D_343_17 : decode J_343.2.2.1 17 = .ok (.iload_n 2, 1) := dzq_28 (by decide +kernel)
theorem D_343_18 : decode J_343.2.2.1 18 = .ok (.tableswitch 84 0 3 #[30, 54, 70, 77], 30) := by decide +kernel
theorem D_343_48 : decode J_343.2.2.1 48 = .ok (.iload_n 3, 1) := dzq_29 (by decide +kernel)
theorem D_343_49 : decode J_343.2.2.1 49 = .ok (.iconst (-1), 1) := dzq_2 (by decide +kernel)
theorem D_343_50 : decode J_343.2.2.1 50 = .ok (.if_icmp .ne 7, 3) := dzq_160 (by decide +kernel)
theorem D_343_53 : decode J_343.2.2.1 53 = .ok (.iconst (-1), 1) := dzq_2 (by decide +kernel)
theorem D_343_54 : decode J_343.2.2.1 54 = .ok (.goto 17, 3) := dzq_167 (by decide +kernel)
theorem D_343_57 : decode J_343.2.2.1 57 = .ok (.aload_n 0, 1) := dzq_42 (by decide +kernel)
theorem D_343_58 : decode J_343.2.2.1 58 = .ok (.getfield 91, 3) := dzq_180 (by decide +kernel)
theorem D_343_61 : decode J_343.2.2.1 61 = .ok (.iload_n 3, 1) := dzq_29 (by decide +kernel)
theorem D_343_62 : decode J_343.2.2.1 62 = .ok (.iaload, 1) := dzq_46 (by decide +kernel)
theorem D_343_63 : decode J_343.2.2.1 63 = .ok (.bipush 16, 2) := dzq_16 (by decide +kernel)
theorem D_343_65 : decode J_343.2.2.1 65 = .ok (.aload_n 0, 1) := dzq_42 (by decide +kernel)
theorem D_343_66 : decode J_343.2.2.1 66 = .ok (.getfield 648, 3) := dzq_180 (by decide +kernel)
theorem D_343_69 : decode J_343.2.2.1 69 = .ok (.imul, 1) := dzq_104 (by decide +kernel)
theorem D_343_70 : decode J_343.2.2.1 70 = .ok (.isub, 1) := dzq_100 (by decide +kernel)
theorem D_343_71 : decode J_343.2.2.1 71 = .ok (.ireturn, 1) := dzq_172 (by decide +kernel)
theorem D_343_72 : decode J_343.2.2.1 72 = .ok (.iload_n 3, 1) := dzq_29 (by decide +kernel)
theorem D_343_73 : decode J_343.2.2.1 73 = .ok (.iconst (-1), 1) := dzq_2 (by decide +kernel)
theorem D_343_74 : decode J_343.2.2.1 74 = .ok (.if_icmp .ne 7, 3) := dzq_160 (by decide +kernel)
theorem D_343_77 : decode J_343.2.2.1 77 = .ok (.iconst (-1), 1) := dzq_2 (by decide +kernel)
theorem D_343_78 : decode J_343.2.2.1 78 = .ok (.goto 9, 3) := dzq_167 (by decide +kernel)
theorem D_343_81 : decode J_343.2.2.1 81 = .ok (.aload_n 0, 1) := dzq_42 (by decide +kernel)
theorem D_343_82 : decode J_343.2.2.1 82 = .ok (.getfield 109, 3) := dzq_180 (by decide +kernel)
theorem D_343_85 : decode J_343.2.2.1 85 = .ok (.iload_n 3, 1) := dzq_29 (by decide +kernel)
theorem D_343_86 : decode J_343.2.2.1 86 = .ok (.iaload, 1) := dzq_46 (by decide +kernel)
theorem D_343_87 : decode J_343.2.2.1 87 = .ok (.ireturn, 1) := dzq_172 (by decide +kernel)
theorem D_343_88 : decode J_343.2.2.1 88 = .ok (.aload_n 0, 1) := dzq_42 (by decide +kernel)
theorem D_343_89 : decode J_343.2.2.1 89 = .ok (.getfield 242, 3) := dzq_180 (by decide +kernel)
theorem D_343_92 : decode J_343.2.2.1 92 = .ok (.iload_n 1, 1) := dzq_27 (by decide +kernel)
theorem D_343_93 : decode J_343.2.2.1 93 = .ok (.iaload, 1) := dzq_46 (by decide +kernel)
theorem D_343_94 : decode J_343.2.2.1 94 = .ok (.ireturn, 1) := dzq_172 (by decide +kernel)
theorem D_343_95 : decode J_343.2.2.1 95 = .ok (.aload_n 0, 1) := dzq_42 (by decide +kernel)
theorem D_343_96 : decode J_343.2.2.1 96 = .ok (.getfield 245, 3) := dzq_180 (by decide +kernel)
theorem D_343_99 : decode J_343.2.2.1 99 = .ok (.iload_n 1, 1) := dzq_27 (by decide +kernel)
theorem D_343_100 : decode J_343.2.2.1 100 = .ok (.iaload, 1) := dzq_46 (by decide +kernel)
theorem D_343_101 : decode J_343.2.2.1 101 = .ok (.ireturn, 1) := dzq_172 (by decide +kernel)
theorem D_343_102 : decode J_343.2.2.1 102 = .ok (.iconst (-1), 1) := dzq_2 (by decide +kernel)
theorem D_343_103 : decode J_343.2.2.1 103 = .ok (.ireturn, 1) := dzq_172 (by decide +kernel)
def P_343_0 (X : mjX) (d C S kc ks : Nat) (k : Nat → Int32 → Int32 → mjH → mjU) : Prop := ∀ (l0 : Nat) (l1 : Int32) (l2 : Int32) (hp : mjH) (q : Option Value × mjH), k l0 l1 l2 hp = some q → mjG X d C S J_343 (mjEq q) 0 [some (.ref l0), some (.int l1), some (.int l2), none] [] hp kc ks
noncomputable def b_343_0 (R : mjR) (l0 : Nat) (l1 : Int32) (l2 : Int32) (hp : mjH) : mjU := rV hp l0 12 (bI (R 344 [.ref l0, .int l1] hp) (fun v1 hp2 => (if v1 = 0 then some (some (.int (-1 : Int32)), hp2) else gR hp2 l0 12 111 (fun v3 => aI hp2 v3 l1 (fun v4 => (if l2 = (0 : Int32) then (if v4 = (-1 : Int32) then some (some (.int (-1 : Int32)), hp2) else gR hp2 l0 12 35 (fun v6 => aI hp2 v6 v4 (fun v7 => gI hp2 l0 12 9 (fun v8 => some (some (.int (v7 - ((16 : Int32) * v8))), hp2))))) else if l2 = (1 : Int32) then (if v4 = (-1 : Int32) then some (some (.int (-1 : Int32)), hp2) else gR hp2 l0 12 41 (fun v10 => aI hp2 v10 v4 (fun v11 => some (some (.int v11), hp2)))) else if l2 = (2 : Int32) then gR hp2 l0 12 112 (fun v13 => aI hp2 v13 l1 (fun v14 => some (some (.int v14), hp2))) else if l2 = (3 : Int32) then gR hp2 l0 12 113 (fun v16 => aI hp2 v16 l1 (fun v17 => some (some (.int v17), hp2))) else some (some (.int (-1 : Int32)), hp2)))))))
theorem t_343_0 {X : mjX} {d C S kc ks : Nat} {R : mjR} (hR : mjC R d) (h1 : kc ≤ C) (h2 : ks ≤ S) : P_343_0 X (d + 1) C S kc ks (b_343_0 R) := by
  intro l0 l1 l2 hp q h
  unfold b_343_0 at h
  refine mjr_aload_n (x := l0) D_343_0 rfl ?_
  refine mjr_iload_n (x := l1) D_343_1 rfl ?_
  refine mjq_vI (As := [.int l1]) (rest := []) D_343_2 mr_12_762 V_344 rfl rfl rfl hR (Nat.le_refl _) h1 h2 h (fun v1 hp2 h => ?_)
  refine mjq_if_ne (tgt := 10) D_343_5 rfl h (fun h => ?_) (fun h => ?_)
  · refine mjr_aload_n (x := l0) D_343_10 rfl ?_
    refine mjq_gR D_343_11 fr_12_239 h (fun v3 h => ?_)
    refine mjr_iload_n (x := l1) D_343_14 rfl ?_
    refine mjq_aI D_343_15 h (fun v4 h => ?_)
    refine mjq_istore_n (lo' := [some (.ref l0), some (.int l1), some (.int l2), some (.int v4)]) D_343_16 (Nat.le_of_ble_eq_true rfl) rfl ?_
    refine mjr_iload_n (x := l2) D_343_17 rfl ?_
    refine mjq_tsw (c := (0 : Int32)) (tgt := 48) D_343_18 (by decide) (by decide) rfl rfl h (fun h => ?_) (fun n5 h => ?_)
    · refine mjr_iload_n (x := v4) D_343_48 rfl ?_
      refine mjq_ic (v := (-1 : Int32)) D_343_49 rfl ?_
      refine mjq_icmp_ne (tgt := 57) D_343_50 rfl h (fun h => ?_) (fun h => ?_)
      · refine mjr_aload_n (x := l0) D_343_57 rfl ?_
        refine mjq_gR D_343_58 fr_12_91 h (fun v6 h => ?_)
        refine mjr_iload_n (x := v4) D_343_61 rfl ?_
        refine mjq_aI D_343_62 h (fun v7 h => ?_)
        refine mjq_bi (v := (16 : Int32)) D_343_63 rfl ?_
        refine mjr_aload_n (x := l0) D_343_65 rfl ?_
        refine mjq_gI D_343_66 fr_12_648 h (fun v8 h => ?_)
        refine mjr_imul D_343_69 ?_
        refine mjr_isub D_343_70 ?_
        exact mjq_ret D_343_71 rfl h1 h2 h
      · refine mjq_ic (v := (-1 : Int32)) D_343_53 rfl ?_
        refine mjr_goto (tgt := 71) D_343_54 rfl ?_
        exact mjq_ret D_343_71 rfl h1 h2 h
    refine mjq_tsw (c := (1 : Int32)) (tgt := 72) D_343_18 (by decide) (by decide) rfl rfl h (fun h => ?_) (fun n9 h => ?_)
    · refine mjr_iload_n (x := v4) D_343_72 rfl ?_
      refine mjq_ic (v := (-1 : Int32)) D_343_73 rfl ?_
      refine mjq_icmp_ne (tgt := 81) D_343_74 rfl h (fun h => ?_) (fun h => ?_)
      · refine mjr_aload_n (x := l0) D_343_81 rfl ?_
        refine mjq_gR D_343_82 fr_12_109 h (fun v10 h => ?_)
        refine mjr_iload_n (x := v4) D_343_85 rfl ?_
        refine mjq_aI D_343_86 h (fun v11 h => ?_)
        exact mjq_ret D_343_87 rfl h1 h2 h
      · refine mjq_ic (v := (-1 : Int32)) D_343_77 rfl ?_
        refine mjr_goto (tgt := 87) D_343_78 rfl ?_
        exact mjq_ret D_343_87 rfl h1 h2 h
    refine mjq_tsw (c := (2 : Int32)) (tgt := 88) D_343_18 (by decide) (by decide) rfl rfl h (fun h => ?_) (fun n12 h => ?_)
    · refine mjr_aload_n (x := l0) D_343_88 rfl ?_
      refine mjq_gR D_343_89 fr_12_242 h (fun v13 h => ?_)
      refine mjr_iload_n (x := l1) D_343_92 rfl ?_
      refine mjq_aI D_343_93 h (fun v14 h => ?_)
      exact mjq_ret D_343_94 rfl h1 h2 h
    refine mjq_tsw (c := (3 : Int32)) (tgt := 95) D_343_18 (by decide) (by decide) rfl rfl h (fun h => ?_) (fun n15 h => ?_)
    · refine mjr_aload_n (x := l0) D_343_95 rfl ?_
      refine mjq_gR D_343_96 fr_12_245 h (fun v16 h => ?_)
      refine mjr_iload_n (x := l1) D_343_99 rfl ?_
      refine mjq_aI D_343_100 h (fun v17 h => ?_)
      exact mjq_ret D_343_101 rfl h1 h2 h
    refine mjr_tableOut (tgt := 102) D_343_18 (mj_swout [(0 : Int32), (1 : Int32), (2 : Int32), (3 : Int32)] (by decide) (mj_all1 n5 (mj_all1 n9 (mj_all1 n12 (mj_all1 n15 mj_all0))))) rfl ?_
    refine mjq_ic (v := (-1 : Int32)) D_343_102 rfl ?_
    exact mjq_ret D_343_103 rfl h1 h2 h
  · refine mjq_ic (v := (-1 : Int32)) D_343_8 rfl ?_
    exact mjq_ret D_343_9 rfl h1 h2 h
noncomputable def f_343 (R : mjR) (a0 : Nat) (a1 : Int32) (a2 : Int32) (hp : mjH) : mjU := b_343_0 R a0 a1 a2 hp
theorem c_343 {R : mjR} {d : Nat} (hR : mjC R d) {a0 : Nat} {a1 : Int32} {a2 : Int32} {hp : mjH} {q : Option Value × mjH} (h : f_343 R a0 a1 a2 hp = some q) : mjM (d + 1) 0 0 343 [.ref a0, .int a1, .int a2] hp (mjEq q) :=
  mjM_of Ja_343 (Nat.le_of_ble_eq_true rfl) (mjG.fg (lo' := [some (.ref a0), some (.int a1), some (.int a2), none]) (And.intro rfl (And.intro rfl (And.intro rfl True.intro))) ((t_343_0 hR (Nat.le_refl 0) (Nat.le_refl 0)) a0 a1 a2 hp q h))
def J_344 : mjI := (⟨"OwnerHeapModel", "isOpen", "(I)Z"⟩, 12, prog_14_method_119_code, 2, (some .boolean), 1, false)
theorem Ja_344 : mjMt 344 = some J_344 := by rfl
theorem D_344_0 : decode J_344.2.2.1 0 = .ok (.aload_n 0, 1) := dzq_42 (by decide +kernel)
theorem D_344_1 : decode J_344.2.2.1 1 = .ok (.getfield 636, 3) := dzq_180 (by decide +kernel)
theorem D_344_4 : decode J_344.2.2.1 4 = .ok (.iconst 1, 1) := dzq_4 (by decide +kernel)
theorem D_344_5 : decode J_344.2.2.1 5 = .ok (.if_icmp .ne 19, 3) := dzq_160 (by decide +kernel)
theorem D_344_8 : decode J_344.2.2.1 8 = .ok (.iload_n 1, 1) := dzq_27 (by decide +kernel)
theorem D_344_9 : decode J_344.2.2.1 9 = .ok (.ifCond .lt 15, 3) := dzq_155 (by decide +kernel)
theorem D_344_12 : decode J_344.2.2.1 12 = .ok (.iload_n 1, 1) := dzq_27 (by decide +kernel)
theorem D_344_13 : decode J_344.2.2.1 13 = .ok (.aload_n 0, 1) := dzq_42 (by decide +kernel)
theorem D_344_14 : decode J_344.2.2.1 14 = .ok (.getfield 627, 3) := dzq_180 (by decide +kernel)
theorem D_344_17 : decode J_344.2.2.1 17 = .ok (.if_icmp .ge 7, 3) := dzq_162 (by decide +kernel)
theorem D_344_20 : decode J_344.2.2.1 20 = .ok (.iconst 1, 1) := dzq_4 (by decide +kernel)
theorem D_344_21 : decode J_344.2.2.1 21 = .ok (.goto 4, 3) := dzq_167 (by decide +kernel)
theorem D_344_24 : decode J_344.2.2.1 24 = .ok (.iconst 0, 1) := dzq_3 (by decide +kernel)
theorem D_344_25 : decode J_344.2.2.1 25 = .ok (.ireturn, 1) := dzq_172 (by decide +kernel)
def P_344_24 (X : mjX) (d C S kc ks : Nat) (k : mjH → mjU) : Prop := ∀  (hp : mjH) (q : Option Value × mjH), k  hp = some q → mjG X d C S J_344 (mjEq q) 24 [none, none] [] hp kc ks
def P_344_0 (X : mjX) (d C S kc ks : Nat) (k : Nat → Int32 → mjH → mjU) : Prop := ∀ (l0 : Nat) (l1 : Int32) (hp : mjH) (q : Option Value × mjH), k l0 l1 hp = some q → mjG X d C S J_344 (mjEq q) 0 [some (.ref l0), some (.int l1)] [] hp kc ks
noncomputable def b_344_24 (R : mjR)  (hp : mjH) : mjU := some (some (.int (0 : Int32)), hp)
theorem t_344_24 {X : mjX} {d C S kc ks : Nat} {R : mjR} (hR : mjC R d) (h1 : kc ≤ C) (h2 : ks ≤ S) : P_344_24 X (d + 1) C S kc ks (b_344_24 R) := by
  intro  hp q h
  unfold b_344_24 at h
  refine mjq_ic (v := (0 : Int32)) D_344_24 rfl ?_
  exact mjr_ireturn D_344_25 rfl rfl h1 h2 (Option.some.inj h)
noncomputable def b_344_0 (R : mjR) (l0 : Nat) (l1 : Int32) (hp : mjH) : mjU := gI hp l0 12 96 (fun v1 => (if v1 = (1 : Int32) then (if l1 < 0 then b_344_24 R hp else gI hp l0 12 116 (fun v2 => (if v2 ≤ l1 then b_344_24 R hp else some (some (.int (1 : Int32)), hp)))) else b_344_24 R hp))
theorem t_344_0 {X : mjX} {d C S kc ks : Nat} {R : mjR} (hR : mjC R d) (h1 : kc ≤ C) (h2 : ks ≤ S) : P_344_0 X (d + 1) C S kc ks (b_344_0 R) := by
  intro l0 l1 hp q h
  unfold b_344_0 at h
  refine mjr_aload_n (x := l0) D_344_0 rfl ?_
  refine mjq_gI D_344_1 fr_12_636 h (fun v1 h => ?_)
  refine mjq_ic (v := (1 : Int32)) D_344_4 rfl ?_
  refine mjq_icmp_ne (tgt := 24) D_344_5 rfl h (fun h => ?_) (fun h => ?_)
  · exact mjG.fg (lo' := [none, none]) True.intro ((t_344_24 hR h1 h2) _ _ h)
  · refine mjr_iload_n (x := l1) D_344_8 rfl ?_
    refine mjq_if_lt (tgt := 24) D_344_9 rfl h (fun h => ?_) (fun h => ?_)
    · exact mjG.fg (lo' := [none, none]) True.intro ((t_344_24 hR h1 h2) _ _ h)
    · refine mjr_iload_n (x := l1) D_344_12 rfl ?_
      refine mjr_aload_n (x := l0) D_344_13 rfl ?_
      refine mjq_gI D_344_14 fr_12_627 h (fun v2 h => ?_)
      refine mjq_icmp_ge (tgt := 24) D_344_17 rfl h (fun h => ?_) (fun h => ?_)
      · exact mjG.fg (lo' := [none, none]) True.intro ((t_344_24 hR h1 h2) _ _ h)
      · refine mjq_ic (v := (1 : Int32)) D_344_20 rfl ?_
        refine mjr_goto (tgt := 25) D_344_21 rfl ?_
        exact mjr_ireturn D_344_25 rfl rfl h1 h2 (Option.some.inj h)
noncomputable def f_344 (R : mjR) (a0 : Nat) (a1 : Int32) (hp : mjH) : mjU := b_344_0 R a0 a1 hp
theorem c_344 {R : mjR} {d : Nat} (hR : mjC R d) {a0 : Nat} {a1 : Int32} {hp : mjH} {q : Option Value × mjH} (h : f_344 R a0 a1 hp = some q) : mjM (d + 1) 0 0 344 [.ref a0, .int a1] hp (mjEq q) :=
  mjM_of Ja_344 (Nat.le_of_ble_eq_true rfl) (mjG.fg (lo' := [some (.ref a0), some (.int a1)]) (And.intro rfl (And.intro rfl True.intro)) ((t_344_0 hR (Nat.le_refl 0) (Nat.le_refl 0)) a0 a1 hp q h))
def J_345 : mjI := (⟨"OwnerHeapModel", "variable", "(II)I"⟩, 12, prog_14_method_121_code, 3, (some .int), 2, false)
theorem Ja_345 : mjMt 345 = some J_345 := by rfl
theorem D_345_0 : decode J_345.2.2.1 0 = .ok (.aload_n 0, 1) := dzq_42 (by decide +kernel)
theorem D_345_1 : decode J_345.2.2.1 1 = .ok (.iload_n 1, 1) := dzq_27 (by decide +kernel)
theorem D_345_2 : decode J_345.2.2.1 2 = .ok (.invokevirtual 762, 3) := dzq_182 (by decide +kernel)
theorem D_345_5 : decode J_345.2.2.1 5 = .ok (.ifCond .eq 13, 3) := dzq_153 (by decide +kernel)
theorem D_345_8 : decode J_345.2.2.1 8 = .ok (.iload_n 2, 1) := dzq_28 (by decide +kernel)
theorem D_345_9 : decode J_345.2.2.1 9 = .ok (.ifCond .lt 9, 3) := dzq_155 (by decide +kernel)
theorem D_345_12 : decode J_345.2.2.1 12 = .ok (.iload_n 2, 1) := dzq_28 (by decide +kernel)
theorem D_345_13 : decode J_345.2.2.1 13 = .ok (.bipush 16, 2) := dzq_16 (by decide +kernel)
theorem D_345_15 : decode J_345.2.2.1 15 = .ok (.if_icmp .lt 7, 3) := dzq_161 (by decide +kernel)
theorem D_345_18 : decode J_345.2.2.1 18 = .ok (.iconst 0, 1) := dzq_3 (by decide +kernel)
theorem D_345_19 : decode J_345.2.2.1 19 = .ok (.goto 14, 3) := dzq_167 (by decide +kernel)
theorem D_345_22 : decode J_345.2.2.1 22 = .ok (.aload_n 0, 1) := dzq_42 (by decide +kernel)
theorem D_345_23 : decode J_345.2.2.1 23 = .ok (.getfield 251, 3) := dzq_180 (by decide +kernel)
theorem D_345_26 : decode J_345.2.2.1 26 = .ok (.bipush 16, 2) := dzq_16 (by decide +kernel)
theorem D_345_28 : decode J_345.2.2.1 28 = .ok (.iload_n 1, 1) := dzq_27 (by decide +kernel)
theorem D_345_29 : decode J_345.2.2.1 29 = .ok (.imul, 1) := dzq_104 (by decide +kernel)
theorem D_345_30 : decode J_345.2.2.1 30 = .ok (.iload_n 2, 1) := dzq_28 (by decide +kernel)
theorem D_345_31 : decode J_345.2.2.1 31 = .ok (.iadd, 1) := dzq_96 (by decide +kernel)
theorem D_345_32 : decode J_345.2.2.1 32 = .ok (.iaload, 1) := dzq_46 (by decide +kernel)
theorem D_345_33 : decode J_345.2.2.1 33 = .ok (.ireturn, 1) := dzq_172 (by decide +kernel)
def P_345_18 (X : mjX) (d C S kc ks : Nat) (k : mjH → mjU) : Prop := ∀  (hp : mjH) (q : Option Value × mjH), k  hp = some q → mjG X d C S J_345 (mjEq q) 18 [none, none, none] [] hp kc ks
def P_345_0 (X : mjX) (d C S kc ks : Nat) (k : Nat → Int32 → Int32 → mjH → mjU) : Prop := ∀ (l0 : Nat) (l1 : Int32) (l2 : Int32) (hp : mjH) (q : Option Value × mjH), k l0 l1 l2 hp = some q → mjG X d C S J_345 (mjEq q) 0 [some (.ref l0), some (.int l1), some (.int l2)] [] hp kc ks
noncomputable def b_345_18 (R : mjR)  (hp : mjH) : mjU := some (some (.int (0 : Int32)), hp)
theorem t_345_18 {X : mjX} {d C S kc ks : Nat} {R : mjR} (hR : mjC R d) (h1 : kc ≤ C) (h2 : ks ≤ S) : P_345_18 X (d + 1) C S kc ks (b_345_18 R) := by
  intro  hp q h
  unfold b_345_18 at h
  refine mjq_ic (v := (0 : Int32)) D_345_18 rfl ?_
  refine mjr_goto (tgt := 33) D_345_19 rfl ?_
  exact mjq_ret D_345_33 rfl h1 h2 h
noncomputable def b_345_0 (R : mjR) (l0 : Nat) (l1 : Int32) (l2 : Int32) (hp : mjH) : mjU := rV hp l0 12 (bI (R 344 [.ref l0, .int l1] hp) (fun v1 hp2 => (if v1 = 0 then b_345_18 R hp2 else (if l2 < 0 then b_345_18 R hp2 else (if l2 < (16 : Int32) then gR hp2 l0 12 115 (fun v3 => aI hp2 v3 (((16 : Int32) * l1) + l2) (fun v4 => some (some (.int v4), hp2))) else b_345_18 R hp2)))))
theorem t_345_0 {X : mjX} {d C S kc ks : Nat} {R : mjR} (hR : mjC R d) (h1 : kc ≤ C) (h2 : ks ≤ S) : P_345_0 X (d + 1) C S kc ks (b_345_0 R) := by
  intro l0 l1 l2 hp q h
  unfold b_345_0 at h
  refine mjr_aload_n (x := l0) D_345_0 rfl ?_
  refine mjr_iload_n (x := l1) D_345_1 rfl ?_
  refine mjq_vI (As := [.int l1]) (rest := []) D_345_2 mr_12_762 V_344 rfl rfl rfl hR (Nat.le_refl _) h1 h2 h (fun v1 hp2 h => ?_)
  refine mjq_if_eq (tgt := 18) D_345_5 rfl h (fun h => ?_) (fun h => ?_)
  · exact mjG.fg (lo' := [none, none, none]) True.intro ((t_345_18 hR h1 h2) _ _ h)
  · refine mjr_iload_n (x := l2) D_345_8 rfl ?_
    refine mjq_if_lt (tgt := 18) D_345_9 rfl h (fun h => ?_) (fun h => ?_)
    · exact mjG.fg (lo' := [none, none, none]) True.intro ((t_345_18 hR h1 h2) _ _ h)
    · refine mjr_iload_n (x := l2) D_345_12 rfl ?_
      refine mjq_bi (v := (16 : Int32)) D_345_13 rfl ?_
      refine mjq_icmp_lt (tgt := 22) D_345_15 rfl h (fun h => ?_) (fun h => ?_)
      · refine mjr_aload_n (x := l0) D_345_22 rfl ?_
        refine mjq_gR D_345_23 fr_12_251 h (fun v3 h => ?_)
        refine mjq_bi (v := (16 : Int32)) D_345_26 rfl ?_
        refine mjr_iload_n (x := l1) D_345_28 rfl ?_
        refine mjr_imul D_345_29 ?_
        refine mjr_iload_n (x := l2) D_345_30 rfl ?_
        refine mjr_iadd D_345_31 ?_
        refine mjq_aI D_345_32 h (fun v4 h => ?_)
        exact mjq_ret D_345_33 rfl h1 h2 h
      · exact mjG.fg (lo' := [none, none, none]) True.intro ((t_345_18 hR h1 h2) _ _ h)
noncomputable def f_345 (R : mjR) (a0 : Nat) (a1 : Int32) (a2 : Int32) (hp : mjH) : mjU := b_345_0 R a0 a1 a2 hp
theorem c_345 {R : mjR} {d : Nat} (hR : mjC R d) {a0 : Nat} {a1 : Int32} {a2 : Int32} {hp : mjH} {q : Option Value × mjH} (h : f_345 R a0 a1 a2 hp = some q) : mjM (d + 1) 0 0 345 [.ref a0, .int a1, .int a2] hp (mjEq q) :=
  mjM_of Ja_345 (Nat.le_of_ble_eq_true rfl) (mjG.fg (lo' := [some (.ref a0), some (.int a1), some (.int a2)]) (And.intro rfl (And.intro rfl (And.intro rfl True.intro))) ((t_345_0 hR (Nat.le_refl 0) (Nat.le_refl 0)) a0 a1 a2 hp q h))
def J_346 : mjI := (⟨"OwnerHeapModel", "object", "(II)I"⟩, 12, prog_14_method_123_code, 4, (some .int), 2, false)
theorem Ja_346 : mjMt 346 = some J_346 := by rfl
theorem D_346_0 : decode J_346.2.2.1 0 = .ok (.aload_n 0, 1) := dzq_42 (by decide +kernel)
theorem D_346_1 : decode J_346.2.2.1 1 = .ok (.iload_n 1, 1) := dzq_27 (by decide +kernel)
theorem D_346_2 : decode J_346.2.2.1 2 = .ok (.invokevirtual 729, 3) := dzq_182 (by decide +kernel)
theorem D_346_5 : decode J_346.2.2.1 5 = .ok (.ifCond .ne 5, 3) := dzq_154 (by decide +kernel)
theorem D_346_8 : decode J_346.2.2.1 8 = .ok (.iconst (-1), 1) := dzq_2 (by decide +kernel)
theorem D_346_9 : decode J_346.2.2.1 9 = .ok (.ireturn, 1) := dzq_172 (by decide +kernel)
theorem D_346_10 : decode J_346.2.2.1 10 = .ok (.aload_n 0, 1) := dzq_42 (by decide +kernel)
theorem D_346_11 : decode J_346.2.2.1 11 = .ok (.getfield 233, 3) := dzq_180 (by decide +kernel)
theorem D_346_14 : decode J_346.2.2.1 14 = .ok (.iload_n 1, 1) := dzq_27 (by decide +kernel)
theorem D_346_15 : decode J_346.2.2.1 15 = .ok (.iaload, 1) := dzq_46 (by decide +kernel)
theorem D_346_16 : decode J_346.2.2.1 16 = .ok (.istore_n 3, 1) := dzq_62 (by decide +kernel)
theorem D_346_17 : decode J_346.2.2.1 17 = .ok (.iload_n 2, 1) := dzq_28 (by decide +kernel)
theorem D_346_18 : decode J_346.2.2.1 18 = .ok (.tableswitch 70 0 4 #[34, 44, 50, 57, 64], 34) := by decide +kernel
theorem D_346_52 : decode J_346.2.2.1 52 = .ok (.iload_n 3, 1) := dzq_29 (by decide +kernel)
theorem D_346_53 : decode J_346.2.2.1 53 = .ok (.bipush 16, 2) := dzq_16 (by decide +kernel)
theorem D_346_55 : decode J_346.2.2.1 55 = .ok (.aload_n 0, 1) := dzq_42 (by decide +kernel)
theorem D_346_56 : decode J_346.2.2.1 56 = .ok (.getfield 648, 3) := dzq_180 (by decide +kernel)
theorem D_346_59 : decode J_346.2.2.1 59 = .ok (.imul, 1) := dzq_104 (by decide +kernel)
theorem D_346_60 : decode J_346.2.2.1 60 = .ok (.isub, 1) := dzq_100 (by decide +kernel)
theorem D_346_61 : decode J_346.2.2.1 61 = .ok (.ireturn, 1) := dzq_172 (by decide +kernel)
theorem D_346_62 : decode J_346.2.2.1 62 = .ok (.aload_n 0, 1) := dzq_42 (by decide +kernel)
theorem D_346_63 : decode J_346.2.2.1 63 = .ok (.iload_n 1, 1) := dzq_27 (by decide +kernel)
theorem D_346_64 : decode J_346.2.2.1 64 = .ok (.invokevirtual 723, 3) := dzq_182 (by decide +kernel)
theorem D_346_67 : decode J_346.2.2.1 67 = .ok (.ireturn, 1) := dzq_172 (by decide +kernel)
theorem D_346_68 : decode J_346.2.2.1 68 = .ok (.aload_n 0, 1) := dzq_42 (by decide +kernel)
theorem D_346_69 : decode J_346.2.2.1 69 = .ok (.getfield 30, 3) := dzq_180 (by decide +kernel)
theorem D_346_72 : decode J_346.2.2.1 72 = .ok (.iload_n 3, 1) := dzq_29 (by decide +kernel)
theorem D_346_73 : decode J_346.2.2.1 73 = .ok (.iaload, 1) := dzq_46 (by decide +kernel)
theorem D_346_74 : decode J_346.2.2.1 74 = .ok (.ireturn, 1) := dzq_172 (by decide +kernel)
theorem D_346_75 : decode J_346.2.2.1 75 = .ok (.aload_n 0, 1) := dzq_42 (by decide +kernel)
theorem D_346_76 : decode J_346.2.2.1 76 = .ok (.getfield 45, 3) := dzq_180 (by decide +kernel)
theorem D_346_79 : decode J_346.2.2.1 79 = .ok (.iload_n 3, 1) := dzq_29 (by decide +kernel)
theorem D_346_80 : decode J_346.2.2.1 80 = .ok (.iaload, 1) := dzq_46 (by decide +kernel)
theorem D_346_81 : decode J_346.2.2.1 81 = .ok (.ireturn, 1) := dzq_172 (by decide +kernel)
theorem D_346_82 : decode J_346.2.2.1 82 = .ok (.aload_n 0, 1) := dzq_42 (by decide +kernel)
theorem D_346_83 : decode J_346.2.2.1 83 = .ok (.iload_n 1, 1) := dzq_27 (by decide +kernel)
theorem D_346_84 : decode J_346.2.2.1 84 = .ok (.invokevirtual 765, 3) := dzq_182 (by decide +kernel)
theorem D_346_87 : decode J_346.2.2.1 87 = .ok (.ireturn, 1) := dzq_172 (by decide +kernel)
theorem D_346_88 : decode J_346.2.2.1 88 = .ok (.iconst (-1), 1) := dzq_2 (by decide +kernel)
theorem D_346_89 : decode J_346.2.2.1 89 = .ok (.ireturn, 1) := dzq_172 (by decide +kernel)
def P_346_0 (X : mjX) (d C S kc ks : Nat) (k : Nat → Int32 → Int32 → mjH → mjU) : Prop := ∀ (l0 : Nat) (l1 : Int32) (l2 : Int32) (hp : mjH) (q : Option Value × mjH), k l0 l1 l2 hp = some q → mjG X d C S J_346 (mjEq q) 0 [some (.ref l0), some (.int l1), some (.int l2), none] [] hp kc ks
noncomputable def b_346_0 (R : mjR) (l0 : Nat) (l1 : Int32) (l2 : Int32) (hp : mjH) : mjU := rV hp l0 12 (bI (R 246 [.ref l0, .int l1] hp) (fun v1 hp2 => (if v1 = 0 then some (some (.int (-1 : Int32)), hp2) else gR hp2 l0 12 109 (fun v3 => aI hp2 v3 l1 (fun v4 => (if l2 = (0 : Int32) then gI hp2 l0 12 9 (fun v6 => some (some (.int (v4 - ((16 : Int32) * v6))), hp2)) else if l2 = (1 : Int32) then rV hp2 l0 12 (bI (R 253 [.ref l0, .int l1] hp2) (fun v8 hp9 => some (some (.int v8), hp9))) else if l2 = (2 : Int32) then gR hp2 l0 12 15 (fun v11 => aI hp2 v11 v4 (fun v12 => some (some (.int v12), hp2))) else if l2 = (3 : Int32) then gR hp2 l0 12 20 (fun v14 => aI hp2 v14 v4 (fun v15 => some (some (.int v15), hp2))) else if l2 = (4 : Int32) then rV hp2 l0 12 (bI (R 347 [.ref l0, .int l1] hp2) (fun v17 hp18 => some (some (.int v17), hp18))) else some (some (.int (-1 : Int32)), hp2)))))))
theorem t_346_0 {X : mjX} {d C S kc ks : Nat} {R : mjR} (hR : mjC R d) (h1 : kc ≤ C) (h2 : ks ≤ S) : P_346_0 X (d + 1) C S kc ks (b_346_0 R) := by
  intro l0 l1 l2 hp q h
  unfold b_346_0 at h
  refine mjr_aload_n (x := l0) D_346_0 rfl ?_
  refine mjr_iload_n (x := l1) D_346_1 rfl ?_
  refine mjq_vI (As := [.int l1]) (rest := []) D_346_2 mr_12_729 V_246 rfl rfl rfl hR (Nat.le_refl _) h1 h2 h (fun v1 hp2 h => ?_)
  refine mjq_if_ne (tgt := 10) D_346_5 rfl h (fun h => ?_) (fun h => ?_)
  · refine mjr_aload_n (x := l0) D_346_10 rfl ?_
    refine mjq_gR D_346_11 fr_12_233 h (fun v3 h => ?_)
    refine mjr_iload_n (x := l1) D_346_14 rfl ?_
    refine mjq_aI D_346_15 h (fun v4 h => ?_)
    refine mjq_istore_n (lo' := [some (.ref l0), some (.int l1), some (.int l2), some (.int v4)]) D_346_16 (Nat.le_of_ble_eq_true rfl) rfl ?_
    refine mjr_iload_n (x := l2) D_346_17 rfl ?_
    refine mjq_tsw (c := (0 : Int32)) (tgt := 52) D_346_18 (by decide) (by decide) rfl rfl h (fun h => ?_) (fun n5 h => ?_)
    · refine mjr_iload_n (x := v4) D_346_52 rfl ?_
      refine mjq_bi (v := (16 : Int32)) D_346_53 rfl ?_
      refine mjr_aload_n (x := l0) D_346_55 rfl ?_
      refine mjq_gI D_346_56 fr_12_648 h (fun v6 h => ?_)
      refine mjr_imul D_346_59 ?_
      refine mjr_isub D_346_60 ?_
      exact mjq_ret D_346_61 rfl h1 h2 h
    refine mjq_tsw (c := (1 : Int32)) (tgt := 62) D_346_18 (by decide) (by decide) rfl rfl h (fun h => ?_) (fun n7 h => ?_)
    · refine mjr_aload_n (x := l0) D_346_62 rfl ?_
      refine mjr_iload_n (x := l1) D_346_63 rfl ?_
      refine mjq_vI (As := [.int l1]) (rest := []) D_346_64 mr_12_723 V_253 rfl rfl rfl hR (Nat.le_refl _) h1 h2 h (fun v8 hp9 h => ?_)
      exact mjq_ret D_346_67 rfl h1 h2 h
    refine mjq_tsw (c := (2 : Int32)) (tgt := 68) D_346_18 (by decide) (by decide) rfl rfl h (fun h => ?_) (fun n10 h => ?_)
    · refine mjr_aload_n (x := l0) D_346_68 rfl ?_
      refine mjq_gR D_346_69 fr_12_30 h (fun v11 h => ?_)
      refine mjr_iload_n (x := v4) D_346_72 rfl ?_
      refine mjq_aI D_346_73 h (fun v12 h => ?_)
      exact mjq_ret D_346_74 rfl h1 h2 h
    refine mjq_tsw (c := (3 : Int32)) (tgt := 75) D_346_18 (by decide) (by decide) rfl rfl h (fun h => ?_) (fun n13 h => ?_)
    · refine mjr_aload_n (x := l0) D_346_75 rfl ?_
      refine mjq_gR D_346_76 fr_12_45 h (fun v14 h => ?_)
      refine mjr_iload_n (x := v4) D_346_79 rfl ?_
      refine mjq_aI D_346_80 h (fun v15 h => ?_)
      exact mjq_ret D_346_81 rfl h1 h2 h
    refine mjq_tsw (c := (4 : Int32)) (tgt := 82) D_346_18 (by decide) (by decide) rfl rfl h (fun h => ?_) (fun n16 h => ?_)
    · refine mjr_aload_n (x := l0) D_346_82 rfl ?_
      refine mjr_iload_n (x := l1) D_346_83 rfl ?_
      refine mjq_vI (As := [.int l1]) (rest := []) D_346_84 mr_12_765 V_347 rfl rfl rfl hR (Nat.le_refl _) h1 h2 h (fun v17 hp18 h => ?_)
      exact mjq_ret D_346_87 rfl h1 h2 h
    refine mjr_tableOut (tgt := 88) D_346_18 (mj_swout [(0 : Int32), (1 : Int32), (2 : Int32), (3 : Int32), (4 : Int32)] (by decide) (mj_all1 n5 (mj_all1 n7 (mj_all1 n10 (mj_all1 n13 (mj_all1 n16 mj_all0)))))) rfl ?_
    refine mjq_ic (v := (-1 : Int32)) D_346_88 rfl ?_
    exact mjq_ret D_346_89 rfl h1 h2 h
  · refine mjq_ic (v := (-1 : Int32)) D_346_8 rfl ?_
    exact mjq_ret D_346_9 rfl h1 h2 h
noncomputable def f_346 (R : mjR) (a0 : Nat) (a1 : Int32) (a2 : Int32) (hp : mjH) : mjU := b_346_0 R a0 a1 a2 hp
theorem c_346 {R : mjR} {d : Nat} (hR : mjC R d) {a0 : Nat} {a1 : Int32} {a2 : Int32} {hp : mjH} {q : Option Value × mjH} (h : f_346 R a0 a1 a2 hp = some q) : mjM (d + 1) 0 0 346 [.ref a0, .int a1, .int a2] hp (mjEq q) :=
  mjM_of Ja_346 (Nat.le_of_ble_eq_true rfl) (mjG.fg (lo' := [some (.ref a0), some (.int a1), some (.int a2), none]) (And.intro rfl (And.intro rfl (And.intro rfl True.intro))) ((t_346_0 hR (Nat.le_refl 0) (Nat.le_refl 0)) a0 a1 a2 hp q h))
def J_347 : mjI := (⟨"OwnerHeapModel", "insides", "(I)I"⟩, 12, prog_14_method_122_code, 4, (some .int), 1, false)
theorem Ja_347 : mjMt 347 = some J_347 := by rfl
theorem D_347_0 : decode J_347.2.2.1 0 = .ok (.iconst 0, 1) := dzq_3 (by decide +kernel)
theorem D_347_1 : decode J_347.2.2.1 1 = .ok (.istore_n 2, 1) := dzq_61 (by decide +kernel)
theorem D_347_2 : decode J_347.2.2.1 2 = .ok (.aload_n 0, 1) := dzq_42 (by decide +kernel)
theorem D_347_3 : decode J_347.2.2.1 3 = .ok (.iload_n 1, 1) := dzq_27 (by decide +kernel)
theorem D_347_4 : decode J_347.2.2.1 4 = .ok (.invokevirtual 723, 3) := dzq_182 (by decide +kernel)
theorem D_347_7 : decode J_347.2.2.1 7 = .ok (.istore_n 3, 1) := dzq_62 (by decide +kernel)
theorem D_347_8 : decode J_347.2.2.1 8 = .ok (.iload_n 3, 1) := dzq_29 (by decide +kernel)
theorem D_347_9 : decode J_347.2.2.1 9 = .ok (.ifCond .eq 15, 3) := dzq_153 (by decide +kernel)
theorem D_347_12 : decode J_347.2.2.1 12 = .ok (.iinc 2 1, 3) := dzq_132 (by decide +kernel)
theorem D_347_15 : decode J_347.2.2.1 15 = .ok (.aload_n 0, 1) := dzq_42 (by decide +kernel)
theorem D_347_16 : decode J_347.2.2.1 16 = .ok (.iload_n 3, 1) := dzq_29 (by decide +kernel)
theorem D_347_17 : decode J_347.2.2.1 17 = .ok (.invokevirtual 723, 3) := dzq_182 (by decide +kernel)
theorem D_347_20 : decode J_347.2.2.1 20 = .ok (.istore_n 3, 1) := dzq_62 (by decide +kernel)
theorem D_347_21 : decode J_347.2.2.1 21 = .ok (.goto (-13), 3) := dzq_167 (by decide +kernel)
theorem D_347_24 : decode J_347.2.2.1 24 = .ok (.iload_n 2, 1) := dzq_28 (by decide +kernel)
theorem D_347_25 : decode J_347.2.2.1 25 = .ok (.ireturn, 1) := dzq_172 (by decide +kernel)
def P_347_8 (X : mjX) (d C S kc ks : Nat) (k : Nat → Int32 → Int32 → mjH → mjU) : Prop := ∀ (l0 : Nat) (l2 : Int32) (l3 : Int32) (hp : mjH) (q : Option Value × mjH), k l0 l2 l3 hp = some q → mjG X d C S J_347 (mjEq q) 8 [some (.ref l0), none, some (.int l2), some (.int l3)] [] hp kc ks
def P_347_0 (X : mjX) (d C S kc ks : Nat) (k : Nat → Int32 → mjH → mjU) : Prop := ∀ (l0 : Nat) (l1 : Int32) (hp : mjH) (q : Option Value × mjH), k l0 l1 hp = some q → mjG X d C S J_347 (mjEq q) 0 [some (.ref l0), some (.int l1), none, none] [] hp kc ks
noncomputable def b_347_8 (R : mjR) (k8 : Nat → Int32 → Int32 → mjH → mjU) (l0 : Nat) (l2 : Int32) (l3 : Int32) (hp : mjH) : mjU := (if l3 = 0 then some (some (.int l2), hp) else rV hp l0 12 (bI (R 253 [.ref l0, .int l3] hp) (fun v1 hp2 => k8 l0 (l2 + (1 : Int32)) v1 hp2)))
theorem t_347_8 {X : mjX} {d C S kc ks : Nat} {R : mjR} (hR : mjC R d) (h1 : kc ≤ C) (h2 : ks ≤ S) {k8 : Nat → Int32 → Int32 → mjH → mjU} (hk8 : P_347_8 X (d + 1) C S kc ks k8) : P_347_8 X (d + 1) C S kc ks (b_347_8 R k8) := by
  intro l0 l2 l3 hp q h
  unfold b_347_8 at h
  refine mjr_iload_n (x := l3) D_347_8 rfl ?_
  refine mjq_if_eq (tgt := 24) D_347_9 rfl h (fun h => ?_) (fun h => ?_)
  · refine mjr_iload_n (x := l2) D_347_24 rfl ?_
    exact mjq_ret D_347_25 rfl h1 h2 h
  · refine mjq_iinc (x := l2) (c := (1 : Int32)) (lo' := [some (.ref l0), none, some (.int (l2 + (1 : Int32))), some (.int l3)]) D_347_12 rfl (Nat.le_of_ble_eq_true rfl) rfl rfl ?_
    refine mjr_aload_n (x := l0) D_347_15 rfl ?_
    refine mjr_iload_n (x := l3) D_347_16 rfl ?_
    refine mjq_vI (As := [.int l3]) (rest := []) D_347_17 mr_12_723 V_253 rfl rfl rfl hR (Nat.le_refl _) h1 h2 h (fun v1 hp2 h => ?_)
    refine mjq_istore_n (lo' := [some (.ref l0), none, some (.int (l2 + (1 : Int32))), some (.int v1)]) D_347_20 (Nat.le_of_ble_eq_true rfl) rfl ?_
    refine mjr_goto (tgt := 8) D_347_21 rfl ?_
    exact hk8 _ _ _ _ _ h
noncomputable def L_347_8 (R : mjR) (n : Nat) : Nat → Int32 → Int32 → mjH → mjU := Nat.rec (motive := fun _ => Nat → Int32 → Int32 → mjH → mjU) (fun _ _ _ _ => none) (fun _ self => b_347_8 R self) n
theorem T_347_8 {X : mjX} {d C S kc ks : Nat} {R : mjR} (hR : mjC R d) (h1 : kc ≤ C) (h2 : ks ≤ S) (n : Nat) : P_347_8 X (d + 1) C S kc ks (L_347_8 R n) := by
  induction n with
  | zero => intro _ _ _ _ _ h; exact mj_no h
  | succ n ih => exact t_347_8 hR h1 h2 ih
noncomputable def b_347_0 (R : mjR) (l0 : Nat) (l1 : Int32) (hp : mjH) : mjU := rV hp l0 12 (bI (R 253 [.ref l0, .int l1] hp) (fun v1 hp2 => L_347_8 R mjN l0 (0 : Int32) v1 hp2))
theorem t_347_0 {X : mjX} {d C S kc ks : Nat} {R : mjR} (hR : mjC R d) (h1 : kc ≤ C) (h2 : ks ≤ S) : P_347_0 X (d + 1) C S kc ks (b_347_0 R) := by
  intro l0 l1 hp q h
  unfold b_347_0 at h
  refine mjq_ic (v := (0 : Int32)) D_347_0 rfl ?_
  refine mjq_istore_n (lo' := [some (.ref l0), some (.int l1), some (.int (0 : Int32)), none]) D_347_1 (Nat.le_of_ble_eq_true rfl) rfl ?_
  refine mjr_aload_n (x := l0) D_347_2 rfl ?_
  refine mjr_iload_n (x := l1) D_347_3 rfl ?_
  refine mjq_vI (As := [.int l1]) (rest := []) D_347_4 mr_12_723 V_253 rfl rfl rfl hR (Nat.le_refl _) h1 h2 h (fun v1 hp2 h => ?_)
  refine mjq_istore_n (lo' := [some (.ref l0), some (.int l1), some (.int (0 : Int32)), some (.int v1)]) D_347_7 (Nat.le_of_ble_eq_true rfl) rfl ?_
  exact mjG.fg (lo' := [some (.ref l0), none, some (.int (0 : Int32)), some (.int v1)]) (And.intro rfl (And.intro rfl (And.intro rfl True.intro))) ((T_347_8 hR h1 h2 mjN) _ _ _ _ _ h)
noncomputable def f_347 (R : mjR) (a0 : Nat) (a1 : Int32) (hp : mjH) : mjU := b_347_0 R a0 a1 hp
theorem c_347 {R : mjR} {d : Nat} (hR : mjC R d) {a0 : Nat} {a1 : Int32} {hp : mjH} {q : Option Value × mjH} (h : f_347 R a0 a1 hp = some q) : mjM (d + 1) 0 0 347 [.ref a0, .int a1] hp (mjEq q) :=
  mjM_of Ja_347 (Nat.le_of_ble_eq_true rfl) (mjG.fg (lo' := [some (.ref a0), some (.int a1), none, none]) (And.intro rfl (And.intro rfl True.intro)) ((t_347_0 hR (Nat.le_refl 0) (Nat.le_refl 0)) a0 a1 hp q h))
def J_348 : mjI := (⟨"OwnerHeapModel", "owner", "(II)I"⟩, 12, prog_14_method_124_code, 3, (some .int), 2, false)
theorem Ja_348 : mjMt 348 = some J_348 := by rfl
theorem D_348_0 : decode J_348.2.2.1 0 = .ok (.aload_n 0, 1) := dzq_42 (by decide +kernel)
theorem D_348_1 : decode J_348.2.2.1 1 = .ok (.iload_n 1, 1) := dzq_27 (by decide +kernel)
theorem D_348_2 : decode J_348.2.2.1 2 = .ok (.invokevirtual 729, 3) := dzq_182 (by decide +kernel)
theorem D_348_5 : decode J_348.2.2.1 5 = .ok (.ifCond .eq 22, 3) := dzq_153 (by decide +kernel)
theorem D_348_8 : decode J_348.2.2.1 8 = .ok (.iload_n 2, 1) := dzq_28 (by decide +kernel)
theorem D_348_9 : decode J_348.2.2.1 9 = .ok (.ifCond .lt 18, 3) := dzq_155 (by decide +kernel)
theorem D_348_12 : decode J_348.2.2.1 12 = .ok (.iload_n 2, 1) := dzq_28 (by decide +kernel)
theorem D_348_13 : decode J_348.2.2.1 13 = .ok (.aload_n 0, 1) := dzq_42 (by decide +kernel)
theorem D_348_14 : decode J_348.2.2.1 14 = .ok (.getfield 30, 3) := dzq_180 (by decide +kernel)
theorem D_348_17 : decode J_348.2.2.1 17 = .ok (.aload_n 0, 1) := dzq_42 (by decide +kernel)
theorem D_348_18 : decode J_348.2.2.1 18 = .ok (.getfield 233, 3) := dzq_180 (by decide +kernel)
theorem D_348_21 : decode J_348.2.2.1 21 = .ok (.iload_n 1, 1) := dzq_27 (by decide +kernel)
theorem D_348_22 : decode J_348.2.2.1 22 = .ok (.iaload, 1) := dzq_46 (by decide +kernel)
theorem D_348_23 : decode J_348.2.2.1 23 = .ok (.iaload, 1) := dzq_46 (by decide +kernel)
theorem D_348_24 : decode J_348.2.2.1 24 = .ok (.if_icmp .lt 7, 3) := dzq_161 (by decide +kernel)
theorem D_348_27 : decode J_348.2.2.1 27 = .ok (.iconst (-1), 1) := dzq_2 (by decide +kernel)
theorem D_348_28 : decode J_348.2.2.1 28 = .ok (.goto 16, 3) := dzq_167 (by decide +kernel)
theorem D_348_31 : decode J_348.2.2.1 31 = .ok (.aload_n 0, 1) := dzq_42 (by decide +kernel)
theorem D_348_32 : decode J_348.2.2.1 32 = .ok (.getfield 230, 3) := dzq_180 (by decide +kernel)
theorem D_348_35 : decode J_348.2.2.1 35 = .ok (.aload_n 0, 1) := dzq_42 (by decide +kernel)
theorem D_348_36 : decode J_348.2.2.1 36 = .ok (.getfield 236, 3) := dzq_180 (by decide +kernel)
theorem D_348_39 : decode J_348.2.2.1 39 = .ok (.iload_n 1, 1) := dzq_27 (by decide +kernel)
theorem D_348_40 : decode J_348.2.2.1 40 = .ok (.iaload, 1) := dzq_46 (by decide +kernel)
theorem D_348_41 : decode J_348.2.2.1 41 = .ok (.iload_n 2, 1) := dzq_28 (by decide +kernel)
theorem D_348_42 : decode J_348.2.2.1 42 = .ok (.iadd, 1) := dzq_96 (by decide +kernel)
theorem D_348_43 : decode J_348.2.2.1 43 = .ok (.iaload, 1) := dzq_46 (by decide +kernel)
theorem D_348_44 : decode J_348.2.2.1 44 = .ok (.ireturn, 1) := dzq_172 (by decide +kernel)
def P_348_27 (X : mjX) (d C S kc ks : Nat) (k : mjH → mjU) : Prop := ∀  (hp : mjH) (q : Option Value × mjH), k  hp = some q → mjG X d C S J_348 (mjEq q) 27 [none, none, none] [] hp kc ks
def P_348_0 (X : mjX) (d C S kc ks : Nat) (k : Nat → Int32 → Int32 → mjH → mjU) : Prop := ∀ (l0 : Nat) (l1 : Int32) (l2 : Int32) (hp : mjH) (q : Option Value × mjH), k l0 l1 l2 hp = some q → mjG X d C S J_348 (mjEq q) 0 [some (.ref l0), some (.int l1), some (.int l2)] [] hp kc ks
noncomputable def b_348_27 (R : mjR)  (hp : mjH) : mjU := some (some (.int (-1 : Int32)), hp)
theorem t_348_27 {X : mjX} {d C S kc ks : Nat} {R : mjR} (hR : mjC R d) (h1 : kc ≤ C) (h2 : ks ≤ S) : P_348_27 X (d + 1) C S kc ks (b_348_27 R) := by
  intro  hp q h
  unfold b_348_27 at h
  refine mjq_ic (v := (-1 : Int32)) D_348_27 rfl ?_
  refine mjr_goto (tgt := 44) D_348_28 rfl ?_
  exact mjq_ret D_348_44 rfl h1 h2 h
noncomputable def b_348_0 (R : mjR) (l0 : Nat) (l1 : Int32) (l2 : Int32) (hp : mjH) : mjU := rV hp l0 12 (bI (R 246 [.ref l0, .int l1] hp) (fun v1 hp2 => (if v1 = 0 then b_348_27 R hp2 else (if l2 < 0 then b_348_27 R hp2 else gR hp2 l0 12 15 (fun v3 => gR hp2 l0 12 109 (fun v4 => aI hp2 v4 l1 (fun v5 => aI hp2 v3 v5 (fun v6 => (if l2 < v6 then gR hp2 l0 12 108 (fun v7 => gR hp2 l0 12 110 (fun v8 => aI hp2 v8 l1 (fun v9 => aI hp2 v7 (v9 + l2) (fun v10 => some (some (.int v10), hp2))))) else b_348_27 R hp2)))))))))
theorem t_348_0 {X : mjX} {d C S kc ks : Nat} {R : mjR} (hR : mjC R d) (h1 : kc ≤ C) (h2 : ks ≤ S) : P_348_0 X (d + 1) C S kc ks (b_348_0 R) := by
  intro l0 l1 l2 hp q h
  unfold b_348_0 at h
  refine mjr_aload_n (x := l0) D_348_0 rfl ?_
  refine mjr_iload_n (x := l1) D_348_1 rfl ?_
  refine mjq_vI (As := [.int l1]) (rest := []) D_348_2 mr_12_729 V_246 rfl rfl rfl hR (Nat.le_refl _) h1 h2 h (fun v1 hp2 h => ?_)
  refine mjq_if_eq (tgt := 27) D_348_5 rfl h (fun h => ?_) (fun h => ?_)
  · exact mjG.fg (lo' := [none, none, none]) True.intro ((t_348_27 hR h1 h2) _ _ h)
  · refine mjr_iload_n (x := l2) D_348_8 rfl ?_
    refine mjq_if_lt (tgt := 27) D_348_9 rfl h (fun h => ?_) (fun h => ?_)
    · exact mjG.fg (lo' := [none, none, none]) True.intro ((t_348_27 hR h1 h2) _ _ h)
    · refine mjr_iload_n (x := l2) D_348_12 rfl ?_
      refine mjr_aload_n (x := l0) D_348_13 rfl ?_
      refine mjq_gR D_348_14 fr_12_30 h (fun v3 h => ?_)
      refine mjr_aload_n (x := l0) D_348_17 rfl ?_
      refine mjq_gR D_348_18 fr_12_233 h (fun v4 h => ?_)
      refine mjr_iload_n (x := l1) D_348_21 rfl ?_
      refine mjq_aI D_348_22 h (fun v5 h => ?_)
      refine mjq_aI D_348_23 h (fun v6 h => ?_)
      refine mjq_icmp_lt (tgt := 31) D_348_24 rfl h (fun h => ?_) (fun h => ?_)
      · refine mjr_aload_n (x := l0) D_348_31 rfl ?_
        refine mjq_gR D_348_32 fr_12_230 h (fun v7 h => ?_)
        refine mjr_aload_n (x := l0) D_348_35 rfl ?_
        refine mjq_gR D_348_36 fr_12_236 h (fun v8 h => ?_)
        refine mjr_iload_n (x := l1) D_348_39 rfl ?_
        refine mjq_aI D_348_40 h (fun v9 h => ?_)
        refine mjr_iload_n (x := l2) D_348_41 rfl ?_
        refine mjr_iadd D_348_42 ?_
        refine mjq_aI D_348_43 h (fun v10 h => ?_)
        exact mjq_ret D_348_44 rfl h1 h2 h
      · exact mjG.fg (lo' := [none, none, none]) True.intro ((t_348_27 hR h1 h2) _ _ h)
noncomputable def f_348 (R : mjR) (a0 : Nat) (a1 : Int32) (a2 : Int32) (hp : mjH) : mjU := b_348_0 R a0 a1 a2 hp
theorem c_348 {R : mjR} {d : Nat} (hR : mjC R d) {a0 : Nat} {a1 : Int32} {a2 : Int32} {hp : mjH} {q : Option Value × mjH} (h : f_348 R a0 a1 a2 hp = some q) : mjM (d + 1) 0 0 348 [.ref a0, .int a1, .int a2] hp (mjEq q) :=
  mjM_of Ja_348 (Nat.le_of_ble_eq_true rfl) (mjG.fg (lo' := [some (.ref a0), some (.int a1), some (.int a2)]) (And.intro rfl (And.intro rfl (And.intro rfl True.intro))) ((t_348_0 hR (Nat.le_refl 0) (Nat.le_refl 0)) a0 a1 a2 hp q h))
def J_349 : mjI := (⟨"OwnerHeapModel", "field", "(II)I"⟩, 12, prog_14_method_125_code, 3, (some .int), 2, false)
theorem Ja_349 : mjMt 349 = some J_349 := by rfl
theorem D_349_0 : decode J_349.2.2.1 0 = .ok (.aload_n 0, 1) := dzq_42 (by decide +kernel)
theorem D_349_1 : decode J_349.2.2.1 1 = .ok (.iload_n 1, 1) := dzq_27 (by decide +kernel)
theorem D_349_2 : decode J_349.2.2.1 2 = .ok (.invokevirtual 729, 3) := dzq_182 (by decide +kernel)
theorem D_349_5 : decode J_349.2.2.1 5 = .ok (.ifCond .eq 22, 3) := dzq_153 (by decide +kernel)
theorem D_349_8 : decode J_349.2.2.1 8 = .ok (.iload_n 2, 1) := dzq_28 (by decide +kernel)
theorem D_349_9 : decode J_349.2.2.1 9 = .ok (.ifCond .lt 18, 3) := dzq_155 (by decide +kernel)
theorem D_349_12 : decode J_349.2.2.1 12 = .ok (.iload_n 2, 1) := dzq_28 (by decide +kernel)
theorem D_349_13 : decode J_349.2.2.1 13 = .ok (.aload_n 0, 1) := dzq_42 (by decide +kernel)
theorem D_349_14 : decode J_349.2.2.1 14 = .ok (.getfield 45, 3) := dzq_180 (by decide +kernel)
theorem D_349_17 : decode J_349.2.2.1 17 = .ok (.aload_n 0, 1) := dzq_42 (by decide +kernel)
theorem D_349_18 : decode J_349.2.2.1 18 = .ok (.getfield 233, 3) := dzq_180 (by decide +kernel)
theorem D_349_21 : decode J_349.2.2.1 21 = .ok (.iload_n 1, 1) := dzq_27 (by decide +kernel)
theorem D_349_22 : decode J_349.2.2.1 22 = .ok (.iaload, 1) := dzq_46 (by decide +kernel)
theorem D_349_23 : decode J_349.2.2.1 23 = .ok (.iaload, 1) := dzq_46 (by decide +kernel)
theorem D_349_24 : decode J_349.2.2.1 24 = .ok (.if_icmp .lt 7, 3) := dzq_161 (by decide +kernel)
theorem D_349_27 : decode J_349.2.2.1 27 = .ok (.iconst 0, 1) := dzq_3 (by decide +kernel)
theorem D_349_28 : decode J_349.2.2.1 28 = .ok (.goto 28, 3) := dzq_167 (by decide +kernel)
theorem D_349_31 : decode J_349.2.2.1 31 = .ok (.aload_n 0, 1) := dzq_42 (by decide +kernel)
theorem D_349_32 : decode J_349.2.2.1 32 = .ok (.getfield 230, 3) := dzq_180 (by decide +kernel)
theorem D_349_35 : decode J_349.2.2.1 35 = .ok (.aload_n 0, 1) := dzq_42 (by decide +kernel)
theorem D_349_36 : decode J_349.2.2.1 36 = .ok (.getfield 236, 3) := dzq_180 (by decide +kernel)
theorem D_349_39 : decode J_349.2.2.1 39 = .ok (.iload_n 1, 1) := dzq_27 (by decide +kernel)
theorem D_349_40 : decode J_349.2.2.1 40 = .ok (.iaload, 1) := dzq_46 (by decide +kernel)
theorem D_349_41 : decode J_349.2.2.1 41 = .ok (.aload_n 0, 1) := dzq_42 (by decide +kernel)
theorem D_349_42 : decode J_349.2.2.1 42 = .ok (.getfield 30, 3) := dzq_180 (by decide +kernel)
theorem D_349_45 : decode J_349.2.2.1 45 = .ok (.aload_n 0, 1) := dzq_42 (by decide +kernel)
theorem D_349_46 : decode J_349.2.2.1 46 = .ok (.getfield 233, 3) := dzq_180 (by decide +kernel)
theorem D_349_49 : decode J_349.2.2.1 49 = .ok (.iload_n 1, 1) := dzq_27 (by decide +kernel)
theorem D_349_50 : decode J_349.2.2.1 50 = .ok (.iaload, 1) := dzq_46 (by decide +kernel)
theorem D_349_51 : decode J_349.2.2.1 51 = .ok (.iaload, 1) := dzq_46 (by decide +kernel)
theorem D_349_52 : decode J_349.2.2.1 52 = .ok (.iadd, 1) := dzq_96 (by decide +kernel)
theorem D_349_53 : decode J_349.2.2.1 53 = .ok (.iload_n 2, 1) := dzq_28 (by decide +kernel)
theorem D_349_54 : decode J_349.2.2.1 54 = .ok (.iadd, 1) := dzq_96 (by decide +kernel)
theorem D_349_55 : decode J_349.2.2.1 55 = .ok (.iaload, 1) := dzq_46 (by decide +kernel)
theorem D_349_56 : decode J_349.2.2.1 56 = .ok (.ireturn, 1) := dzq_172 (by decide +kernel)
def P_349_27 (X : mjX) (d C S kc ks : Nat) (k : mjH → mjU) : Prop := ∀  (hp : mjH) (q : Option Value × mjH), k  hp = some q → mjG X d C S J_349 (mjEq q) 27 [none, none, none] [] hp kc ks
def P_349_0 (X : mjX) (d C S kc ks : Nat) (k : Nat → Int32 → Int32 → mjH → mjU) : Prop := ∀ (l0 : Nat) (l1 : Int32) (l2 : Int32) (hp : mjH) (q : Option Value × mjH), k l0 l1 l2 hp = some q → mjG X d C S J_349 (mjEq q) 0 [some (.ref l0), some (.int l1), some (.int l2)] [] hp kc ks
noncomputable def b_349_27 (R : mjR)  (hp : mjH) : mjU := some (some (.int (0 : Int32)), hp)
theorem t_349_27 {X : mjX} {d C S kc ks : Nat} {R : mjR} (hR : mjC R d) (h1 : kc ≤ C) (h2 : ks ≤ S) : P_349_27 X (d + 1) C S kc ks (b_349_27 R) := by
  intro  hp q h
  unfold b_349_27 at h
  refine mjq_ic (v := (0 : Int32)) D_349_27 rfl ?_
  refine mjr_goto (tgt := 56) D_349_28 rfl ?_
  exact mjq_ret D_349_56 rfl h1 h2 h
noncomputable def b_349_0 (R : mjR) (l0 : Nat) (l1 : Int32) (l2 : Int32) (hp : mjH) : mjU := rV hp l0 12 (bI (R 246 [.ref l0, .int l1] hp) (fun v1 hp2 => (if v1 = 0 then b_349_27 R hp2 else (if l2 < 0 then b_349_27 R hp2 else gR hp2 l0 12 20 (fun v3 => gR hp2 l0 12 109 (fun v4 => aI hp2 v4 l1 (fun v5 => aI hp2 v3 v5 (fun v6 => (if l2 < v6 then gR hp2 l0 12 108 (fun v7 => gR hp2 l0 12 110 (fun v8 => aI hp2 v8 l1 (fun v9 => gR hp2 l0 12 15 (fun v10 => gR hp2 l0 12 109 (fun v11 => aI hp2 v11 l1 (fun v12 => aI hp2 v10 v12 (fun v13 => aI hp2 v7 ((v9 + v13) + l2) (fun v14 => some (some (.int v14), hp2))))))))) else b_349_27 R hp2)))))))))
theorem t_349_0 {X : mjX} {d C S kc ks : Nat} {R : mjR} (hR : mjC R d) (h1 : kc ≤ C) (h2 : ks ≤ S) : P_349_0 X (d + 1) C S kc ks (b_349_0 R) := by
  intro l0 l1 l2 hp q h
  unfold b_349_0 at h
  refine mjr_aload_n (x := l0) D_349_0 rfl ?_
  refine mjr_iload_n (x := l1) D_349_1 rfl ?_
  refine mjq_vI (As := [.int l1]) (rest := []) D_349_2 mr_12_729 V_246 rfl rfl rfl hR (Nat.le_refl _) h1 h2 h (fun v1 hp2 h => ?_)
  refine mjq_if_eq (tgt := 27) D_349_5 rfl h (fun h => ?_) (fun h => ?_)
  · exact mjG.fg (lo' := [none, none, none]) True.intro ((t_349_27 hR h1 h2) _ _ h)
  · refine mjr_iload_n (x := l2) D_349_8 rfl ?_
    refine mjq_if_lt (tgt := 27) D_349_9 rfl h (fun h => ?_) (fun h => ?_)
    · exact mjG.fg (lo' := [none, none, none]) True.intro ((t_349_27 hR h1 h2) _ _ h)
    · refine mjr_iload_n (x := l2) D_349_12 rfl ?_
      refine mjr_aload_n (x := l0) D_349_13 rfl ?_
      refine mjq_gR D_349_14 fr_12_45 h (fun v3 h => ?_)
      refine mjr_aload_n (x := l0) D_349_17 rfl ?_
      refine mjq_gR D_349_18 fr_12_233 h (fun v4 h => ?_)
      refine mjr_iload_n (x := l1) D_349_21 rfl ?_
      refine mjq_aI D_349_22 h (fun v5 h => ?_)
      refine mjq_aI D_349_23 h (fun v6 h => ?_)
      refine mjq_icmp_lt (tgt := 31) D_349_24 rfl h (fun h => ?_) (fun h => ?_)
      · refine mjr_aload_n (x := l0) D_349_31 rfl ?_
        refine mjq_gR D_349_32 fr_12_230 h (fun v7 h => ?_)
        refine mjr_aload_n (x := l0) D_349_35 rfl ?_
        refine mjq_gR D_349_36 fr_12_236 h (fun v8 h => ?_)
        refine mjr_iload_n (x := l1) D_349_39 rfl ?_
        refine mjq_aI D_349_40 h (fun v9 h => ?_)
        refine mjr_aload_n (x := l0) D_349_41 rfl ?_
        refine mjq_gR D_349_42 fr_12_30 h (fun v10 h => ?_)
        refine mjr_aload_n (x := l0) D_349_45 rfl ?_
        refine mjq_gR D_349_46 fr_12_233 h (fun v11 h => ?_)
        refine mjr_iload_n (x := l1) D_349_49 rfl ?_
        refine mjq_aI D_349_50 h (fun v12 h => ?_)
        refine mjq_aI D_349_51 h (fun v13 h => ?_)
        refine mjr_iadd D_349_52 ?_
        refine mjr_iload_n (x := l2) D_349_53 rfl ?_
        refine mjr_iadd D_349_54 ?_
        refine mjq_aI D_349_55 h (fun v14 h => ?_)
        exact mjq_ret D_349_56 rfl h1 h2 h
      · exact mjG.fg (lo' := [none, none, none]) True.intro ((t_349_27 hR h1 h2) _ _ h)
noncomputable def f_349 (R : mjR) (a0 : Nat) (a1 : Int32) (a2 : Int32) (hp : mjH) : mjU := b_349_0 R a0 a1 a2 hp
theorem c_349 {R : mjR} {d : Nat} (hR : mjC R d) {a0 : Nat} {a1 : Int32} {a2 : Int32} {hp : mjH} {q : Option Value × mjH} (h : f_349 R a0 a1 a2 hp = some q) : mjM (d + 1) 0 0 349 [.ref a0, .int a1, .int a2] hp (mjEq q) :=
  mjM_of Ja_349 (Nat.le_of_ble_eq_true rfl) (mjG.fg (lo' := [some (.ref a0), some (.int a1), some (.int a2)]) (And.intro rfl (And.intro rfl (And.intro rfl True.intro))) ((t_349_0 hR (Nat.le_refl 0) (Nat.le_refl 0)) a0 a1 a2 hp q h))
def J_350 : mjI := (⟨"OwnerHeapModel", "isInside", "(II)Z"⟩, 12, prog_14_method_126_code, 4, (some .boolean), 2, false)
theorem Ja_350 : mjMt 350 = some J_350 := by rfl
theorem D_350_0 : decode J_350.2.2.1 0 = .ok (.aload_n 0, 1) := dzq_42 (by decide +kernel)
theorem D_350_1 : decode J_350.2.2.1 1 = .ok (.iload_n 1, 1) := dzq_27 (by decide +kernel)
theorem D_350_2 : decode J_350.2.2.1 2 = .ok (.invokevirtual 729, 3) := dzq_182 (by decide +kernel)
theorem D_350_5 : decode J_350.2.2.1 5 = .ok (.ifCond .eq 15, 3) := dzq_153 (by decide +kernel)
theorem D_350_8 : decode J_350.2.2.1 8 = .ok (.iload_n 2, 1) := dzq_28 (by decide +kernel)
theorem D_350_9 : decode J_350.2.2.1 9 = .ok (.ifCond .eq 13, 3) := dzq_153 (by decide +kernel)
theorem D_350_12 : decode J_350.2.2.1 12 = .ok (.aload_n 0, 1) := dzq_42 (by decide +kernel)
theorem D_350_13 : decode J_350.2.2.1 13 = .ok (.iload_n 2, 1) := dzq_28 (by decide +kernel)
theorem D_350_14 : decode J_350.2.2.1 14 = .ok (.invokevirtual 729, 3) := dzq_182 (by decide +kernel)
theorem D_350_17 : decode J_350.2.2.1 17 = .ok (.ifCond .ne 5, 3) := dzq_154 (by decide +kernel)
theorem D_350_20 : decode J_350.2.2.1 20 = .ok (.iconst 0, 1) := dzq_3 (by decide +kernel)
theorem D_350_21 : decode J_350.2.2.1 21 = .ok (.ireturn, 1) := dzq_172 (by decide +kernel)
theorem D_350_22 : decode J_350.2.2.1 22 = .ok (.iload_n 1, 1) := dzq_27 (by decide +kernel)
theorem D_350_23 : decode J_350.2.2.1 23 = .ok (.istore_n 3, 1) := dzq_62 (by decide +kernel)
theorem D_350_24 : decode J_350.2.2.1 24 = .ok (.iload_n 3, 1) := dzq_29 (by decide +kernel)
theorem D_350_25 : decode J_350.2.2.1 25 = .ok (.ifCond .eq 17, 3) := dzq_153 (by decide +kernel)
theorem D_350_28 : decode J_350.2.2.1 28 = .ok (.iload_n 3, 1) := dzq_29 (by decide +kernel)
theorem D_350_29 : decode J_350.2.2.1 29 = .ok (.iload_n 2, 1) := dzq_28 (by decide +kernel)
theorem D_350_30 : decode J_350.2.2.1 30 = .ok (.if_icmp .eq 12, 3) := dzq_159 (by decide +kernel)
theorem D_350_33 : decode J_350.2.2.1 33 = .ok (.aload_n 0, 1) := dzq_42 (by decide +kernel)
theorem D_350_34 : decode J_350.2.2.1 34 = .ok (.iload_n 3, 1) := dzq_29 (by decide +kernel)
theorem D_350_35 : decode J_350.2.2.1 35 = .ok (.invokevirtual 723, 3) := dzq_182 (by decide +kernel)
theorem D_350_38 : decode J_350.2.2.1 38 = .ok (.istore_n 3, 1) := dzq_62 (by decide +kernel)
theorem D_350_39 : decode J_350.2.2.1 39 = .ok (.goto (-15), 3) := dzq_167 (by decide +kernel)
theorem D_350_42 : decode J_350.2.2.1 42 = .ok (.iload_n 3, 1) := dzq_29 (by decide +kernel)
theorem D_350_43 : decode J_350.2.2.1 43 = .ok (.iload_n 2, 1) := dzq_28 (by decide +kernel)
theorem D_350_44 : decode J_350.2.2.1 44 = .ok (.if_icmp .ne 7, 3) := dzq_160 (by decide +kernel)
theorem D_350_47 : decode J_350.2.2.1 47 = .ok (.iconst 1, 1) := dzq_4 (by decide +kernel)
theorem D_350_48 : decode J_350.2.2.1 48 = .ok (.goto 4, 3) := dzq_167 (by decide +kernel)
theorem D_350_51 : decode J_350.2.2.1 51 = .ok (.iconst 0, 1) := dzq_3 (by decide +kernel)
theorem D_350_52 : decode J_350.2.2.1 52 = .ok (.ireturn, 1) := dzq_172 (by decide +kernel)
def P_350_20 (X : mjX) (d C S kc ks : Nat) (k : mjH → mjU) : Prop := ∀  (hp : mjH) (q : Option Value × mjH), k  hp = some q → mjG X d C S J_350 (mjEq q) 20 [none, none, none, none] [] hp kc ks
def P_350_42 (X : mjX) (d C S kc ks : Nat) (k : Int32 → Int32 → mjH → mjU) : Prop := ∀ (l2 : Int32) (l3 : Int32) (hp : mjH) (q : Option Value × mjH), k l2 l3 hp = some q → mjG X d C S J_350 (mjEq q) 42 [none, none, some (.int l2), some (.int l3)] [] hp kc ks
def P_350_24 (X : mjX) (d C S kc ks : Nat) (k : Nat → Int32 → Int32 → mjH → mjU) : Prop := ∀ (l0 : Nat) (l2 : Int32) (l3 : Int32) (hp : mjH) (q : Option Value × mjH), k l0 l2 l3 hp = some q → mjG X d C S J_350 (mjEq q) 24 [some (.ref l0), none, some (.int l2), some (.int l3)] [] hp kc ks
def P_350_22 (X : mjX) (d C S kc ks : Nat) (k : Nat → Int32 → Int32 → mjH → mjU) : Prop := ∀ (l0 : Nat) (l1 : Int32) (l2 : Int32) (hp : mjH) (q : Option Value × mjH), k l0 l1 l2 hp = some q → mjG X d C S J_350 (mjEq q) 22 [some (.ref l0), some (.int l1), some (.int l2), none] [] hp kc ks
def P_350_0 (X : mjX) (d C S kc ks : Nat) (k : Nat → Int32 → Int32 → mjH → mjU) : Prop := ∀ (l0 : Nat) (l1 : Int32) (l2 : Int32) (hp : mjH) (q : Option Value × mjH), k l0 l1 l2 hp = some q → mjG X d C S J_350 (mjEq q) 0 [some (.ref l0), some (.int l1), some (.int l2), none] [] hp kc ks
noncomputable def b_350_20 (R : mjR)  (hp : mjH) : mjU := some (some (.int (0 : Int32)), hp)
theorem t_350_20 {X : mjX} {d C S kc ks : Nat} {R : mjR} (hR : mjC R d) (h1 : kc ≤ C) (h2 : ks ≤ S) : P_350_20 X (d + 1) C S kc ks (b_350_20 R) := by
  intro  hp q h
  unfold b_350_20 at h
  refine mjq_ic (v := (0 : Int32)) D_350_20 rfl ?_
  exact mjr_ireturn D_350_21 rfl rfl h1 h2 (Option.some.inj h)
noncomputable def b_350_42 (R : mjR) (l2 : Int32) (l3 : Int32) (hp : mjH) : mjU := (if l3 = l2 then some (some (.int (1 : Int32)), hp) else some (some (.int (0 : Int32)), hp))
theorem t_350_42 {X : mjX} {d C S kc ks : Nat} {R : mjR} (hR : mjC R d) (h1 : kc ≤ C) (h2 : ks ≤ S) : P_350_42 X (d + 1) C S kc ks (b_350_42 R) := by
  intro l2 l3 hp q h
  unfold b_350_42 at h
  refine mjr_iload_n (x := l3) D_350_42 rfl ?_
  refine mjr_iload_n (x := l2) D_350_43 rfl ?_
  refine mjq_icmp_ne (tgt := 51) D_350_44 rfl h (fun h => ?_) (fun h => ?_)
  · refine mjq_ic (v := (0 : Int32)) D_350_51 rfl ?_
    exact mjr_ireturn D_350_52 rfl rfl h1 h2 (Option.some.inj h)
  · refine mjq_ic (v := (1 : Int32)) D_350_47 rfl ?_
    refine mjr_goto (tgt := 52) D_350_48 rfl ?_
    exact mjr_ireturn D_350_52 rfl rfl h1 h2 (Option.some.inj h)
noncomputable def b_350_24 (R : mjR) (k24 : Nat → Int32 → Int32 → mjH → mjU) (l0 : Nat) (l2 : Int32) (l3 : Int32) (hp : mjH) : mjU := (if l3 = 0 then b_350_42 R l2 l3 hp else (if l3 = l2 then b_350_42 R l2 l3 hp else rV hp l0 12 (bI (R 253 [.ref l0, .int l3] hp) (fun v1 hp2 => k24 l0 l2 v1 hp2))))
theorem t_350_24 {X : mjX} {d C S kc ks : Nat} {R : mjR} (hR : mjC R d) (h1 : kc ≤ C) (h2 : ks ≤ S) {k24 : Nat → Int32 → Int32 → mjH → mjU} (hk24 : P_350_24 X (d + 1) C S kc ks k24) : P_350_24 X (d + 1) C S kc ks (b_350_24 R k24) := by
  intro l0 l2 l3 hp q h
  unfold b_350_24 at h
  refine mjr_iload_n (x := l3) D_350_24 rfl ?_
  refine mjq_if_eq (tgt := 42) D_350_25 rfl h (fun h => ?_) (fun h => ?_)
  · exact mjG.fg (lo' := [none, none, some (.int l2), some (.int l3)]) (And.intro rfl (And.intro rfl True.intro)) ((t_350_42 hR h1 h2) _ _ _ _ h)
  · refine mjr_iload_n (x := l3) D_350_28 rfl ?_
    refine mjr_iload_n (x := l2) D_350_29 rfl ?_
    refine mjq_icmp_eq (tgt := 42) D_350_30 rfl h (fun h => ?_) (fun h => ?_)
    · exact mjG.fg (lo' := [none, none, some (.int l2), some (.int l3)]) (And.intro rfl (And.intro rfl True.intro)) ((t_350_42 hR h1 h2) _ _ _ _ h)
    · refine mjr_aload_n (x := l0) D_350_33 rfl ?_
      refine mjr_iload_n (x := l3) D_350_34 rfl ?_
      refine mjq_vI (As := [.int l3]) (rest := []) D_350_35 mr_12_723 V_253 rfl rfl rfl hR (Nat.le_refl _) h1 h2 h (fun v1 hp2 h => ?_)
      refine mjq_istore_n (lo' := [some (.ref l0), none, some (.int l2), some (.int v1)]) D_350_38 (Nat.le_of_ble_eq_true rfl) rfl ?_
      refine mjr_goto (tgt := 24) D_350_39 rfl ?_
      exact hk24 _ _ _ _ _ h
noncomputable def L_350_24 (R : mjR) (n : Nat) : Nat → Int32 → Int32 → mjH → mjU := Nat.rec (motive := fun _ => Nat → Int32 → Int32 → mjH → mjU) (fun _ _ _ _ => none) (fun _ self => b_350_24 R self) n
theorem T_350_24 {X : mjX} {d C S kc ks : Nat} {R : mjR} (hR : mjC R d) (h1 : kc ≤ C) (h2 : ks ≤ S) (n : Nat) : P_350_24 X (d + 1) C S kc ks (L_350_24 R n) := by
  induction n with
  | zero => intro _ _ _ _ _ h; exact mj_no h
  | succ n ih => exact t_350_24 hR h1 h2 ih
noncomputable def b_350_22 (R : mjR) (l0 : Nat) (l1 : Int32) (l2 : Int32) (hp : mjH) : mjU := L_350_24 R mjN l0 l2 l1 hp
theorem t_350_22 {X : mjX} {d C S kc ks : Nat} {R : mjR} (hR : mjC R d) (h1 : kc ≤ C) (h2 : ks ≤ S) : P_350_22 X (d + 1) C S kc ks (b_350_22 R) := by
  intro l0 l1 l2 hp q h
  unfold b_350_22 at h
  refine mjr_iload_n (x := l1) D_350_22 rfl ?_
  refine mjq_istore_n (lo' := [some (.ref l0), some (.int l1), some (.int l2), some (.int l1)]) D_350_23 (Nat.le_of_ble_eq_true rfl) rfl ?_
  exact mjG.fg (lo' := [some (.ref l0), none, some (.int l2), some (.int l1)]) (And.intro rfl (And.intro rfl (And.intro rfl True.intro))) ((T_350_24 hR h1 h2 mjN) _ _ _ _ _ h)
noncomputable def b_350_0 (R : mjR) (l0 : Nat) (l1 : Int32) (l2 : Int32) (hp : mjH) : mjU := rV hp l0 12 (bI (R 246 [.ref l0, .int l1] hp) (fun v1 hp2 => (if v1 = 0 then b_350_20 R hp2 else (if l2 = 0 then b_350_22 R l0 l1 l2 hp2 else rV hp2 l0 12 (bI (R 246 [.ref l0, .int l2] hp2) (fun v3 hp4 => (if v3 = 0 then b_350_20 R hp4 else b_350_22 R l0 l1 l2 hp4)))))))
theorem t_350_0 {X : mjX} {d C S kc ks : Nat} {R : mjR} (hR : mjC R d) (h1 : kc ≤ C) (h2 : ks ≤ S) : P_350_0 X (d + 1) C S kc ks (b_350_0 R) := by
  intro l0 l1 l2 hp q h
  unfold b_350_0 at h
  refine mjr_aload_n (x := l0) D_350_0 rfl ?_
  refine mjr_iload_n (x := l1) D_350_1 rfl ?_
  refine mjq_vI (As := [.int l1]) (rest := []) D_350_2 mr_12_729 V_246 rfl rfl rfl hR (Nat.le_refl _) h1 h2 h (fun v1 hp2 h => ?_)
  refine mjq_if_eq (tgt := 20) D_350_5 rfl h (fun h => ?_) (fun h => ?_)
  · exact mjG.fg (lo' := [none, none, none, none]) True.intro ((t_350_20 hR h1 h2) _ _ h)
  · refine mjr_iload_n (x := l2) D_350_8 rfl ?_
    refine mjq_if_eq (tgt := 22) D_350_9 rfl h (fun h => ?_) (fun h => ?_)
    · exact (t_350_22 hR h1 h2) _ _ _ _ _ h
    · refine mjr_aload_n (x := l0) D_350_12 rfl ?_
      refine mjr_iload_n (x := l2) D_350_13 rfl ?_
      refine mjq_vI (As := [.int l2]) (rest := []) D_350_14 mr_12_729 V_246 rfl rfl rfl hR (Nat.le_refl _) h1 h2 h (fun v3 hp4 h => ?_)
      refine mjq_if_ne (tgt := 22) D_350_17 rfl h (fun h => ?_) (fun h => ?_)
      · exact (t_350_22 hR h1 h2) _ _ _ _ _ h
      · exact mjG.fg (lo' := [none, none, none, none]) True.intro ((t_350_20 hR h1 h2) _ _ h)
noncomputable def f_350 (R : mjR) (a0 : Nat) (a1 : Int32) (a2 : Int32) (hp : mjH) : mjU := b_350_0 R a0 a1 a2 hp
theorem c_350 {R : mjR} {d : Nat} (hR : mjC R d) {a0 : Nat} {a1 : Int32} {a2 : Int32} {hp : mjH} {q : Option Value × mjH} (h : f_350 R a0 a1 a2 hp = some q) : mjM (d + 1) 0 0 350 [.ref a0, .int a1, .int a2] hp (mjEq q) :=
  mjM_of Ja_350 (Nat.le_of_ble_eq_true rfl) (mjG.fg (lo' := [some (.ref a0), some (.int a1), some (.int a2), none]) (And.intro rfl (And.intro rfl (And.intro rfl True.intro))) ((t_350_0 hR (Nat.le_refl 0) (Nat.le_refl 0)) a0 a1 a2 hp q h))
def J_351 : mjI := (⟨"java/lang/Character", "isValidCodePoint", "(I)Z"⟩, 14, prog_15_method_11_code, 2, (some .boolean), 1, true)
theorem Ja_351 : mjMt 351 = some J_351 := by rfl
theorem D_351_0 : decode J_351.2.2.1 0 = .ok (.iload_n 0, 1) := dzq_26 (by decide +kernel)
theorem D_351_1 : decode J_351.2.2.1 1 = .ok (.bipush 16, 2) := dzq_16 (by decide +kernel)
def P_351_0 (X : mjX) (d C S kc ks : Nat) (k : Int32 → mjH → mjU) : Prop := ∀ (l0 : Int32) (hp : mjH) (q : Option Value × mjH), k l0 hp = some q → mjG X d C S J_351 (mjEq q) 0 [some (.int l0), none] [] hp kc ks
noncomputable def b_351_0 (R : mjR) (l0 : Int32) (hp : mjH) : mjU := none
theorem t_351_0 {X : mjX} {d C S kc ks : Nat} {R : mjR} (hR : mjC R d) (h1 : kc ≤ C) (h2 : ks ≤ S) : P_351_0 X (d + 1) C S kc ks (b_351_0 R) := by
  intro l0 hp q h
  unfold b_351_0 at h
  refine mjr_iload_n (x := l0) D_351_0 rfl ?_
  refine mjq_bi (v := (16 : Int32)) D_351_1 rfl ?_
  exact mj_no h
noncomputable def f_351 (R : mjR) (a0 : Int32) (hp : mjH) : mjU := b_351_0 R a0 hp
theorem c_351 {R : mjR} {d : Nat} (hR : mjC R d) {a0 : Int32} {hp : mjH} {q : Option Value × mjH} (h : f_351 R a0 hp = some q) : mjM (d + 1) 0 0 351 [.int a0] hp (mjEq q) :=
  mjM_of Ja_351 (Nat.le_of_ble_eq_true rfl) (mjG.fg (lo' := [some (.int a0), none]) (And.intro rfl True.intro) ((t_351_0 hR (Nat.le_refl 0) (Nat.le_refl 0)) a0 hp q h))
def J_352 : mjI := (⟨"java/lang/Character", "highSurrogate", "(I)C"⟩, 14, prog_15_method_28_code, 1, (some .char), 1, true)
theorem Ja_352 : mjMt 352 = some J_352 := by rfl
theorem D_352_0 : decode J_352.2.2.1 0 = .ok (.iload_n 0, 1) := dzq_26 (by decide +kernel)
theorem D_352_1 : decode J_352.2.2.1 1 = .ok (.bipush 10, 2) := dzq_16 (by decide +kernel)
def P_352_0 (X : mjX) (d C S kc ks : Nat) (k : Int32 → mjH → mjU) : Prop := ∀ (l0 : Int32) (hp : mjH) (q : Option Value × mjH), k l0 hp = some q → mjG X d C S J_352 (mjEq q) 0 [some (.int l0)] [] hp kc ks
noncomputable def b_352_0 (R : mjR) (l0 : Int32) (hp : mjH) : mjU := none
theorem t_352_0 {X : mjX} {d C S kc ks : Nat} {R : mjR} (hR : mjC R d) (h1 : kc ≤ C) (h2 : ks ≤ S) : P_352_0 X (d + 1) C S kc ks (b_352_0 R) := by
  intro l0 hp q h
  unfold b_352_0 at h
  refine mjr_iload_n (x := l0) D_352_0 rfl ?_
  refine mjq_bi (v := (10 : Int32)) D_352_1 rfl ?_
  exact mj_no h
noncomputable def f_352 (R : mjR) (a0 : Int32) (hp : mjH) : mjU := b_352_0 R a0 hp
theorem c_352 {R : mjR} {d : Nat} (hR : mjC R d) {a0 : Int32} {hp : mjH} {q : Option Value × mjH} (h : f_352 R a0 hp = some q) : mjM (d + 1) 0 0 352 [.int a0] hp (mjEq q) :=
  mjM_of Ja_352 (Nat.le_of_ble_eq_true rfl) (mjG.fg (lo' := [some (.int a0)]) (And.intro rfl True.intro) ((t_352_0 hR (Nat.le_refl 0) (Nat.le_refl 0)) a0 hp q h))
def J_353 : mjI := (⟨"java/lang/Character", "lowSurrogate", "(I)C"⟩, 14, prog_15_method_29_code, 1, (some .char), 1, true)
theorem Ja_353 : mjMt 353 = some J_353 := by rfl
theorem D_353_0 : decode J_353.2.2.1 0 = .ok (.iload_n 0, 1) := dzq_26 (by decide +kernel)
theorem D_353_1 : decode J_353.2.2.1 1 = .ok (.sipush 1023, 3) := dzq_17 (by decide +kernel)
theorem D_353_4 : decode J_353.2.2.1 4 = .ok (.iand, 1) := by decide +kernel
theorem D_353_5 : decode J_353.2.2.1 5 = .ok (.ldc 76, 2) := by decide +kernel
theorem D_353_7 : decode J_353.2.2.1 7 = .ok (.iadd, 1) := dzq_96 (by decide +kernel)
theorem D_353_8 : decode J_353.2.2.1 8 = .ok (.i2c, 1) := by decide +kernel
theorem D_353_9 : decode J_353.2.2.1 9 = .ok (.ireturn, 1) := dzq_172 (by decide +kernel)
def P_353_0 (X : mjX) (d C S kc ks : Nat) (k : Int32 → mjH → mjU) : Prop := ∀ (l0 : Int32) (hp : mjH) (q : Option Value × mjH), k l0 hp = some q → mjG X d C S J_353 (mjEq q) 0 [some (.int l0)] [] hp kc ks
noncomputable def b_353_0 (R : mjR) (l0 : Int32) (hp : mjH) : mjU := (if narrow .char (.int ((((l0 &&& (1023 : Int32)) + (56320 : Int32))).toUInt32 % 65536).toInt32) = .int ((((l0 &&& (1023 : Int32)) + (56320 : Int32))).toUInt32 % 65536).toInt32 then some (some (.int ((((l0 &&& (1023 : Int32)) + (56320 : Int32))).toUInt32 % 65536).toInt32), hp) else none)
theorem t_353_0 {X : mjX} {d C S kc ks : Nat} {R : mjR} (hR : mjC R d) (h1 : kc ≤ C) (h2 : ks ≤ S) : P_353_0 X (d + 1) C S kc ks (b_353_0 R) := by
  intro l0 hp q h
  unfold b_353_0 at h
  refine mjr_iload_n (x := l0) D_353_0 rfl ?_
  refine mjq_si (v := (1023 : Int32)) D_353_1 rfl ?_
  refine mjr_iand D_353_4 ?_
  refine mjr_ldc (v := (56320 : Int32)) D_353_5 (by decide +kernel) ?_
  refine mjr_iadd D_353_7 ?_
  refine mjr_i2c D_353_8 ?_
  exact mjq_retZ (ty := .char) D_353_9 rfl h1 h2 h
noncomputable def f_353 (R : mjR) (a0 : Int32) (hp : mjH) : mjU := b_353_0 R a0 hp
theorem c_353 {R : mjR} {d : Nat} (hR : mjC R d) {a0 : Int32} {hp : mjH} {q : Option Value × mjH} (h : f_353 R a0 hp = some q) : mjM (d + 1) 0 0 353 [.int a0] hp (mjEq q) :=
  mjM_of Ja_353 (Nat.le_of_ble_eq_true rfl) (mjG.fg (lo' := [some (.int a0)]) (And.intro rfl True.intro) ((t_353_0 hR (Nat.le_refl 0) (Nat.le_refl 0)) a0 hp q h))
def J_354 : mjI := (⟨"java/lang/Math", "max", "(II)I"⟩, 15, prog_16_method_65_code, 2, (some .int), 2, true)
theorem Ja_354 : mjMt 354 = some J_354 := by rfl
theorem D_354_0 : decode J_354.2.2.1 0 = .ok (.iload_n 0, 1) := dzq_26 (by decide +kernel)
theorem D_354_1 : decode J_354.2.2.1 1 = .ok (.iload_n 1, 1) := dzq_27 (by decide +kernel)
theorem D_354_2 : decode J_354.2.2.1 2 = .ok (.if_icmp .lt 7, 3) := dzq_161 (by decide +kernel)
theorem D_354_5 : decode J_354.2.2.1 5 = .ok (.iload_n 0, 1) := dzq_26 (by decide +kernel)
theorem D_354_6 : decode J_354.2.2.1 6 = .ok (.goto 4, 3) := dzq_167 (by decide +kernel)
theorem D_354_9 : decode J_354.2.2.1 9 = .ok (.iload_n 1, 1) := dzq_27 (by decide +kernel)
theorem D_354_10 : decode J_354.2.2.1 10 = .ok (.ireturn, 1) := dzq_172 (by decide +kernel)
def P_354_0 (X : mjX) (d C S kc ks : Nat) (k : Int32 → Int32 → mjH → mjU) : Prop := ∀ (l0 : Int32) (l1 : Int32) (hp : mjH) (q : Option Value × mjH), k l0 l1 hp = some q → mjG X d C S J_354 (mjEq q) 0 [some (.int l0), some (.int l1)] [] hp kc ks
noncomputable def b_354_0 (R : mjR) (l0 : Int32) (l1 : Int32) (hp : mjH) : mjU := (if l0 < l1 then some (some (.int l1), hp) else some (some (.int l0), hp))
theorem t_354_0 {X : mjX} {d C S kc ks : Nat} {R : mjR} (hR : mjC R d) (h1 : kc ≤ C) (h2 : ks ≤ S) : P_354_0 X (d + 1) C S kc ks (b_354_0 R) := by
  intro l0 l1 hp q h
  unfold b_354_0 at h
  refine mjr_iload_n (x := l0) D_354_0 rfl ?_
  refine mjr_iload_n (x := l1) D_354_1 rfl ?_
  refine mjq_icmp_lt (tgt := 9) D_354_2 rfl h (fun h => ?_) (fun h => ?_)
  · refine mjr_iload_n (x := l1) D_354_9 rfl ?_
    exact mjq_ret D_354_10 rfl h1 h2 h
  · refine mjr_iload_n (x := l0) D_354_5 rfl ?_
    refine mjr_goto (tgt := 10) D_354_6 rfl ?_
    exact mjq_ret D_354_10 rfl h1 h2 h
noncomputable def f_354 (R : mjR) (a0 : Int32) (a1 : Int32) (hp : mjH) : mjU := b_354_0 R a0 a1 hp
theorem c_354 {R : mjR} {d : Nat} (hR : mjC R d) {a0 : Int32} {a1 : Int32} {hp : mjH} {q : Option Value × mjH} (h : f_354 R a0 a1 hp = some q) : mjM (d + 1) 0 0 354 [.int a0, .int a1] hp (mjEq q) :=
  mjM_of Ja_354 (Nat.le_of_ble_eq_true rfl) (mjG.fg (lo' := [some (.int a0), some (.int a1)]) (And.intro rfl (And.intro rfl True.intro)) ((t_354_0 hR (Nat.le_refl 0) (Nat.le_refl 0)) a0 a1 hp q h))
def J_355 : mjI := (⟨"java/lang/Math", "min", "(II)I"⟩, 15, prog_16_method_69_code, 2, (some .int), 2, true)
theorem Ja_355 : mjMt 355 = some J_355 := by rfl
theorem D_355_0 : decode J_355.2.2.1 0 = .ok (.iload_n 0, 1) := dzq_26 (by decide +kernel)
theorem D_355_1 : decode J_355.2.2.1 1 = .ok (.iload_n 1, 1) := dzq_27 (by decide +kernel)
theorem D_355_2 : decode J_355.2.2.1 2 = .ok (.if_icmp .gt 7, 3) := dzq_163 (by decide +kernel)
theorem D_355_5 : decode J_355.2.2.1 5 = .ok (.iload_n 0, 1) := dzq_26 (by decide +kernel)
theorem D_355_6 : decode J_355.2.2.1 6 = .ok (.goto 4, 3) := dzq_167 (by decide +kernel)
theorem D_355_9 : decode J_355.2.2.1 9 = .ok (.iload_n 1, 1) := dzq_27 (by decide +kernel)
theorem D_355_10 : decode J_355.2.2.1 10 = .ok (.ireturn, 1) := dzq_172 (by decide +kernel)
def P_355_0 (X : mjX) (d C S kc ks : Nat) (k : Int32 → Int32 → mjH → mjU) : Prop := ∀ (l0 : Int32) (l1 : Int32) (hp : mjH) (q : Option Value × mjH), k l0 l1 hp = some q → mjG X d C S J_355 (mjEq q) 0 [some (.int l0), some (.int l1)] [] hp kc ks
noncomputable def b_355_0 (R : mjR) (l0 : Int32) (l1 : Int32) (hp : mjH) : mjU := (if l1 < l0 then some (some (.int l1), hp) else some (some (.int l0), hp))
theorem t_355_0 {X : mjX} {d C S kc ks : Nat} {R : mjR} (hR : mjC R d) (h1 : kc ≤ C) (h2 : ks ≤ S) : P_355_0 X (d + 1) C S kc ks (b_355_0 R) := by
  intro l0 l1 hp q h
  unfold b_355_0 at h
  refine mjr_iload_n (x := l0) D_355_0 rfl ?_
  refine mjr_iload_n (x := l1) D_355_1 rfl ?_
  refine mjq_icmp_gt (tgt := 9) D_355_2 rfl h (fun h => ?_) (fun h => ?_)
  · refine mjr_iload_n (x := l1) D_355_9 rfl ?_
    exact mjq_ret D_355_10 rfl h1 h2 h
  · refine mjr_iload_n (x := l0) D_355_5 rfl ?_
    refine mjr_goto (tgt := 10) D_355_6 rfl ?_
    exact mjq_ret D_355_10 rfl h1 h2 h
noncomputable def f_355 (R : mjR) (a0 : Int32) (a1 : Int32) (hp : mjH) : mjU := b_355_0 R a0 a1 hp
theorem c_355 {R : mjR} {d : Nat} (hR : mjC R d) {a0 : Int32} {a1 : Int32} {hp : mjH} {q : Option Value × mjH} (h : f_355 R a0 a1 hp = some q) : mjM (d + 1) 0 0 355 [.int a0, .int a1] hp (mjEq q) :=
  mjM_of Ja_355 (Nat.le_of_ble_eq_true rfl) (mjG.fg (lo' := [some (.int a0), some (.int a1)]) (And.intro rfl (And.intro rfl True.intro)) ((t_355_0 hR (Nat.le_refl 0) (Nat.le_refl 0)) a0 a1 hp q h))
def J_356 : mjI := (⟨"java/lang/String", "length", "()I"⟩, 17, prog_17_method_54_code, 1, (some .int), 0, false)
theorem Ja_356 : mjMt 356 = some J_356 := by rfl
theorem D_356_0 : decode J_356.2.2.1 0 = .ok (.aload_n 0, 1) := dzq_42 (by decide +kernel)
theorem D_356_1 : decode J_356.2.2.1 1 = .ok (.getfield 9, 3) := dzq_180 (by decide +kernel)
theorem D_356_4 : decode J_356.2.2.1 4 = .ok (.arraylength, 1) := by decide +kernel
theorem D_356_5 : decode J_356.2.2.1 5 = .ok (.aload_n 0, 1) := dzq_42 (by decide +kernel)
theorem D_356_6 : decode J_356.2.2.1 6 = .ok (.invokevirtual 335, 3) := dzq_182 (by decide +kernel)
theorem D_356_9 : decode J_356.2.2.1 9 = .ok (.ishr, 1) := by decide +kernel
theorem D_356_10 : decode J_356.2.2.1 10 = .ok (.ireturn, 1) := dzq_172 (by decide +kernel)
def P_356_0 (X : mjX) (d C S kc ks : Nat) (k : Nat → mjH → mjU) : Prop := ∀ (l0 : Nat) (hp : mjH) (q : Option Value × mjH), k l0 hp = some q → mjG X d C S J_356 (mjEq q) 0 [some (.ref l0)] [] hp kc ks
noncomputable def b_356_0 (R : mjR) (l0 : Nat) (hp : mjH) : mjU := gSv l0 (fun v1 => aN hp v1 (fun v2 => rS l0 (bI (R 357 [.ref l0] hp) (fun v3 hp4 => some (some (.int (v2 >>> (v3 &&& 31))), hp4)))))
theorem t_356_0 {X : mjX} {d C S kc ks : Nat} {R : mjR} (hR : mjC R d) (h1 : kc ≤ C) (h2 : ks ≤ S) : P_356_0 X (d + 1) C S kc ks (b_356_0 R) := by
  intro l0 hp q h
  unfold b_356_0 at h
  refine mjr_aload_n (x := l0) D_356_0 rfl ?_
  refine mjq_gSv rfl D_356_1 h (fun v1 h => ?_)
  refine mjq_aN D_356_4 h (fun v2 h => ?_)
  refine mjr_aload_n (x := l0) D_356_5 rfl ?_
  refine mjq_wI (As := []) (rest := [.int v2]) D_356_6 mr_17_335 V_357 rfl rfl rfl hR (Nat.le_refl _) h1 h2 h (fun v3 hp4 h => ?_)
  refine mjr_ishr D_356_9 ?_
  exact mjq_ret D_356_10 rfl h1 h2 h
noncomputable def f_356 (R : mjR) (a0 : Nat) (hp : mjH) : mjU := b_356_0 R a0 hp
theorem c_356 {R : mjR} {d : Nat} (hR : mjC R d) {a0 : Nat} {hp : mjH} {q : Option Value × mjH} (h : f_356 R a0 hp = some q) : mjM (d + 1) 0 0 356 [.ref a0] hp (mjEq q) :=
  mjM_of Ja_356 (Nat.le_of_ble_eq_true rfl) (mjG.fg (lo' := [some (.ref a0)]) (And.intro rfl True.intro) ((t_356_0 hR (Nat.le_refl 0) (Nat.le_refl 0)) a0 hp q h))
def J_357 : mjI := (⟨"java/lang/String", "coder", "()B"⟩, 17, prog_17_method_152_code, 1, (some .byte), 0, false)
theorem Ja_357 : mjMt 357 = some J_357 := by rfl
theorem D_357_0 : decode J_357.2.2.1 0 = .ok (.getstatic 38, 3) := by decide +kernel
theorem D_357_3 : decode J_357.2.2.1 3 = .ok (.ifCond .eq 10, 3) := dzq_153 (by decide +kernel)
theorem D_357_6 : decode J_357.2.2.1 6 = .ok (.aload_n 0, 1) := dzq_42 (by decide +kernel)
theorem D_357_7 : decode J_357.2.2.1 7 = .ok (.getfield 15, 3) := dzq_180 (by decide +kernel)
theorem D_357_10 : decode J_357.2.2.1 10 = .ok (.goto 4, 3) := dzq_167 (by decide +kernel)
theorem D_357_13 : decode J_357.2.2.1 13 = .ok (.iconst 1, 1) := dzq_4 (by decide +kernel)
theorem D_357_14 : decode J_357.2.2.1 14 = .ok (.ireturn, 1) := dzq_172 (by decide +kernel)
def P_357_0 (X : mjX) (d C S kc ks : Nat) (k : Nat → mjH → mjU) : Prop := ∀ (l0 : Nat) (hp : mjH) (q : Option Value × mjH), k l0 hp = some q → mjG X d C S J_357 (mjEq q) 0 [some (.ref l0)] [] hp kc ks
noncomputable def b_357_0 (R : mjR) (l0 : Nat) (hp : mjH) : mjU := (if (1 : Int32) = 0 then some (some (.int (1 : Int32)), hp) else gSc l0 (fun v1 => (if narrow .byte (.int v1) = .int v1 then some (some (.int v1), hp) else none)))
theorem t_357_0 {X : mjX} {d C S kc ks : Nat} {R : mjR} (hR : mjC R d) (h1 : kc ≤ C) (h2 : ks ≤ S) : P_357_0 X (d + 1) C S kc ks (b_357_0 R) := by
  intro l0 hp q h
  unfold b_357_0 at h
  refine mjr_gets1 rfl D_357_0 ?_
  refine mjq_if_eq (tgt := 13) D_357_3 rfl h (fun h => ?_) (fun h => ?_)
  · refine mjq_ic (v := (1 : Int32)) D_357_13 rfl ?_
    exact mjr_ireturn D_357_14 rfl rfl h1 h2 (Option.some.inj h)
  · refine mjr_aload_n (x := l0) D_357_6 rfl ?_
    refine mjq_gSc rfl D_357_7 h (fun v1 h => ?_)
    refine mjr_goto (tgt := 14) D_357_10 rfl ?_
    exact mjq_retZ (ty := .byte) D_357_14 rfl h1 h2 h
noncomputable def f_357 (R : mjR) (a0 : Nat) (hp : mjH) : mjU := b_357_0 R a0 hp
theorem c_357 {R : mjR} {d : Nat} (hR : mjC R d) {a0 : Nat} {hp : mjH} {q : Option Value × mjH} (h : f_357 R a0 hp = some q) : mjM (d + 1) 0 0 357 [.ref a0] hp (mjEq q) :=
  mjM_of Ja_357 (Nat.le_of_ble_eq_true rfl) (mjG.fg (lo' := [some (.ref a0)]) (And.intro rfl True.intro) ((t_357_0 hR (Nat.le_refl 0) (Nat.le_refl 0)) a0 hp q h))
def J_358 : mjI := (⟨"java/lang/String", "charAt", "(I)C"⟩, 17, prog_17_method_56_code, 2, (some .char), 1, false)
theorem Ja_358 : mjMt 358 = some J_358 := by rfl
theorem D_358_0 : decode J_358.2.2.1 0 = .ok (.aload_n 0, 1) := dzq_42 (by decide +kernel)
theorem D_358_1 : decode J_358.2.2.1 1 = .ok (.invokevirtual 492, 3) := dzq_182 (by decide +kernel)
theorem D_358_4 : decode J_358.2.2.1 4 = .ok (.ifCond .eq 12, 3) := dzq_153 (by decide +kernel)
theorem D_358_7 : decode J_358.2.2.1 7 = .ok (.aload_n 0, 1) := dzq_42 (by decide +kernel)
theorem D_358_8 : decode J_358.2.2.1 8 = .ok (.getfield 9, 3) := dzq_180 (by decide +kernel)
theorem D_358_11 : decode J_358.2.2.1 11 = .ok (.iload_n 1, 1) := dzq_27 (by decide +kernel)
theorem D_358_12 : decode J_358.2.2.1 12 = .ok (.invokestatic 495, 3) := dzq_184 (by decide +kernel)
theorem D_358_15 : decode J_358.2.2.1 15 = .ok (.ireturn, 1) := dzq_172 (by decide +kernel)
theorem D_358_16 : decode J_358.2.2.1 16 = .ok (.aload_n 0, 1) := dzq_42 (by decide +kernel)
theorem D_358_17 : decode J_358.2.2.1 17 = .ok (.getfield 9, 3) := dzq_180 (by decide +kernel)
theorem D_358_20 : decode J_358.2.2.1 20 = .ok (.iload_n 1, 1) := dzq_27 (by decide +kernel)
theorem D_358_21 : decode J_358.2.2.1 21 = .ok (.invokestatic 498, 3) := dzq_184 (by decide +kernel)
theorem D_358_24 : decode J_358.2.2.1 24 = .ok (.ireturn, 1) := dzq_172 (by decide +kernel)
def P_358_0 (X : mjX) (d C S kc ks : Nat) (k : Nat → Int32 → mjH → mjU) : Prop := ∀ (l0 : Nat) (l1 : Int32) (hp : mjH) (q : Option Value × mjH), k l0 l1 hp = some q → mjG X d C S J_358 (mjEq q) 0 [some (.ref l0), some (.int l1)] [] hp kc ks
noncomputable def b_358_0 (R : mjR) (l0 : Nat) (l1 : Int32) (hp : mjH) : mjU := rS l0 (bI (R 359 [.ref l0] hp) (fun v1 hp2 => (if v1 = 0 then gSv l0 (fun v3 => bI (R 368 [.ref v3, .int l1] hp2) (fun v4 hp5 => (if narrow .char (.int v4) = .int v4 then some (some (.int v4), hp5) else none))) else gSv l0 (fun v6 => bI (R 364 [.ref v6, .int l1] hp2) (fun v7 hp8 => (if narrow .char (.int v7) = .int v7 then some (some (.int v7), hp8) else none))))))
theorem t_358_0 {X : mjX} {d C S kc ks : Nat} {R : mjR} (hR : mjC R d) (h1 : kc ≤ C) (h2 : ks ≤ S) : P_358_0 X (d + 1) C S kc ks (b_358_0 R) := by
  intro l0 l1 hp q h
  unfold b_358_0 at h
  refine mjr_aload_n (x := l0) D_358_0 rfl ?_
  refine mjq_wI (As := []) (rest := []) D_358_1 mr_17_492 V_359 rfl rfl rfl hR (Nat.le_refl _) h1 h2 h (fun v1 hp2 h => ?_)
  refine mjq_if_eq (tgt := 16) D_358_4 rfl h (fun h => ?_) (fun h => ?_)
  · refine mjr_aload_n (x := l0) D_358_16 rfl ?_
    refine mjq_gSv rfl D_358_17 h (fun v3 h => ?_)
    refine mjr_iload_n (x := l1) D_358_20 rfl ?_
    refine mjq_scI (As := [.ref v3, .int l1]) (rest := []) D_358_21 mr_17_498 V_368 rfl rfl rfl hR (Nat.le_refl _) h1 h2 h (fun v4 hp5 h => ?_)
    exact mjq_retZ (ty := .char) D_358_24 rfl h1 h2 h
  · refine mjr_aload_n (x := l0) D_358_7 rfl ?_
    refine mjq_gSv rfl D_358_8 h (fun v6 h => ?_)
    refine mjr_iload_n (x := l1) D_358_11 rfl ?_
    refine mjq_scI (As := [.ref v6, .int l1]) (rest := []) D_358_12 mr_17_495 V_364 rfl rfl rfl hR (Nat.le_refl _) h1 h2 h (fun v7 hp8 h => ?_)
    exact mjq_retZ (ty := .char) D_358_15 rfl h1 h2 h
noncomputable def f_358 (R : mjR) (a0 : Nat) (a1 : Int32) (hp : mjH) : mjU := b_358_0 R a0 a1 hp
theorem c_358 {R : mjR} {d : Nat} (hR : mjC R d) {a0 : Nat} {a1 : Int32} {hp : mjH} {q : Option Value × mjH} (h : f_358 R a0 a1 hp = some q) : mjM (d + 1) 0 0 358 [.ref a0, .int a1] hp (mjEq q) :=
  mjM_of Ja_358 (Nat.le_of_ble_eq_true rfl) (mjG.fg (lo' := [some (.ref a0), some (.int a1)]) (And.intro rfl (And.intro rfl True.intro)) ((t_358_0 hR (Nat.le_refl 0) (Nat.le_refl 0)) a0 a1 hp q h))
def J_359 : mjI := (⟨"java/lang/String", "isLatin1", "()Z"⟩, 17, prog_17_method_154_code, 1, (some .boolean), 0, false)
theorem Ja_359 : mjMt 359 = some J_359 := by rfl
theorem D_359_0 : decode J_359.2.2.1 0 = .ok (.getstatic 38, 3) := by decide +kernel
theorem D_359_3 : decode J_359.2.2.1 3 = .ok (.ifCond .eq 14, 3) := dzq_153 (by decide +kernel)
theorem D_359_6 : decode J_359.2.2.1 6 = .ok (.aload_n 0, 1) := dzq_42 (by decide +kernel)
theorem D_359_7 : decode J_359.2.2.1 7 = .ok (.getfield 15, 3) := dzq_180 (by decide +kernel)
theorem D_359_10 : decode J_359.2.2.1 10 = .ok (.ifCond .ne 7, 3) := dzq_154 (by decide +kernel)
theorem D_359_13 : decode J_359.2.2.1 13 = .ok (.iconst 1, 1) := dzq_4 (by decide +kernel)
theorem D_359_14 : decode J_359.2.2.1 14 = .ok (.goto 4, 3) := dzq_167 (by decide +kernel)
theorem D_359_17 : decode J_359.2.2.1 17 = .ok (.iconst 0, 1) := dzq_3 (by decide +kernel)
theorem D_359_18 : decode J_359.2.2.1 18 = .ok (.ireturn, 1) := dzq_172 (by decide +kernel)
def P_359_17 (X : mjX) (d C S kc ks : Nat) (k : mjH → mjU) : Prop := ∀  (hp : mjH) (q : Option Value × mjH), k  hp = some q → mjG X d C S J_359 (mjEq q) 17 [none] [] hp kc ks
def P_359_0 (X : mjX) (d C S kc ks : Nat) (k : Nat → mjH → mjU) : Prop := ∀ (l0 : Nat) (hp : mjH) (q : Option Value × mjH), k l0 hp = some q → mjG X d C S J_359 (mjEq q) 0 [some (.ref l0)] [] hp kc ks
noncomputable def b_359_17 (R : mjR)  (hp : mjH) : mjU := some (some (.int (0 : Int32)), hp)
theorem t_359_17 {X : mjX} {d C S kc ks : Nat} {R : mjR} (hR : mjC R d) (h1 : kc ≤ C) (h2 : ks ≤ S) : P_359_17 X (d + 1) C S kc ks (b_359_17 R) := by
  intro  hp q h
  unfold b_359_17 at h
  refine mjq_ic (v := (0 : Int32)) D_359_17 rfl ?_
  exact mjr_ireturn D_359_18 rfl rfl h1 h2 (Option.some.inj h)
noncomputable def b_359_0 (R : mjR) (l0 : Nat) (hp : mjH) : mjU := (if (1 : Int32) = 0 then b_359_17 R hp else gSc l0 (fun v1 => (if v1 = 0 then some (some (.int (1 : Int32)), hp) else b_359_17 R hp)))
theorem t_359_0 {X : mjX} {d C S kc ks : Nat} {R : mjR} (hR : mjC R d) (h1 : kc ≤ C) (h2 : ks ≤ S) : P_359_0 X (d + 1) C S kc ks (b_359_0 R) := by
  intro l0 hp q h
  unfold b_359_0 at h
  refine mjr_gets1 rfl D_359_0 ?_
  refine mjq_if_eq (tgt := 17) D_359_3 rfl h (fun h => ?_) (fun h => ?_)
  · exact mjG.fg (lo' := [none]) True.intro ((t_359_17 hR h1 h2) _ _ h)
  · refine mjr_aload_n (x := l0) D_359_6 rfl ?_
    refine mjq_gSc rfl D_359_7 h (fun v1 h => ?_)
    refine mjq_if_ne (tgt := 17) D_359_10 rfl h (fun h => ?_) (fun h => ?_)
    · exact mjG.fg (lo' := [none]) True.intro ((t_359_17 hR h1 h2) _ _ h)
    · refine mjq_ic (v := (1 : Int32)) D_359_13 rfl ?_
      refine mjr_goto (tgt := 18) D_359_14 rfl ?_
      exact mjr_ireturn D_359_18 rfl rfl h1 h2 (Option.some.inj h)
noncomputable def f_359 (R : mjR) (a0 : Nat) (hp : mjH) : mjU := b_359_0 R a0 hp
theorem c_359 {R : mjR} {d : Nat} (hR : mjC R d) {a0 : Nat} {hp : mjH} {q : Option Value × mjH} (h : f_359 R a0 hp = some q) : mjM (d + 1) 0 0 359 [.ref a0] hp (mjEq q) :=
  mjM_of Ja_359 (Nat.le_of_ble_eq_true rfl) (mjG.fg (lo' := [some (.ref a0)]) (And.intro rfl True.intro) ((t_359_0 hR (Nat.le_refl 0) (Nat.le_refl 0)) a0 hp q h))
def J_360 : mjI := (⟨"java/lang/String", "checkIndex", "(II)V"⟩, 17, prog_17_method_155_code, 2, none, 2, true)
theorem Ja_360 : mjMt 360 = some J_360 := by rfl
theorem D_360_0 : decode J_360.2.2.1 0 = .ok (.iload_n 0, 1) := dzq_26 (by decide +kernel)
theorem D_360_1 : decode J_360.2.2.1 1 = .ok (.iload_n 1, 1) := dzq_27 (by decide +kernel)
theorem D_360_2 : decode J_360.2.2.1 2 = .ok (.getstatic 1053, 3) := by decide +kernel
theorem D_360_5 : decode J_360.2.2.1 5 = .ok (.invokestatic 1059, 3) := dzq_184 (by decide +kernel)
theorem D_360_8 : decode J_360.2.2.1 8 = .ok (.pop, 1) := dzq_87 (by decide +kernel)
theorem D_360_9 : decode J_360.2.2.1 9 = .ok (.return_, 1) := dzq_177 (by decide +kernel)
def P_360_0 (X : mjX) (d C S kc ks : Nat) (k : Int32 → Int32 → mjH → mjU) : Prop := ∀ (l0 : Int32) (l1 : Int32) (hp : mjH) (q : Option Value × mjH), k l0 l1 hp = some q → mjG X d C S J_360 (mjEq q) 0 [some (.int l0), some (.int l1)] [] hp kc ks
noncomputable def b_360_0 (R : mjR) (l0 : Int32) (l1 : Int32) (hp : mjH) : mjU := bI (R 381 [.int l0, .int l1, (.retAddr 0)] hp) (fun v1 hp2 => some (none, hp2))
theorem t_360_0 {X : mjX} {d C S kc ks : Nat} {R : mjR} (hR : mjC R d) (h1 : kc ≤ C) (h2 : ks ≤ S) : P_360_0 X (d + 1) C S kc ks (b_360_0 R) := by
  intro l0 l1 hp q h
  unfold b_360_0 at h
  refine mjr_iload_n (x := l0) D_360_0 rfl ?_
  refine mjr_iload_n (x := l1) D_360_1 rfl ?_
  refine mjr_gets2 rfl D_360_2 ?_
  refine mjq_scI (As := [.int l0, .int l1, (.retAddr 0)]) (rest := []) D_360_5 mr_17_1059 V_381 rfl rfl rfl hR (Nat.le_refl _) h1 h2 h (fun v1 hp2 h => ?_)
  refine mjr_pop D_360_8 rfl ?_
  exact mjq_nret D_360_9 rfl h1 h2 h
noncomputable def f_360 (R : mjR) (a0 : Int32) (a1 : Int32) (hp : mjH) : mjU := b_360_0 R a0 a1 hp
theorem c_360 {R : mjR} {d : Nat} (hR : mjC R d) {a0 : Int32} {a1 : Int32} {hp : mjH} {q : Option Value × mjH} (h : f_360 R a0 a1 hp = some q) : mjM (d + 1) 0 0 360 [.int a0, .int a1] hp (mjEq q) :=
  mjM_of Ja_360 (Nat.le_of_ble_eq_true rfl) (mjG.fg (lo' := [some (.int a0), some (.int a1)]) (And.intro rfl (And.intro rfl True.intro)) ((t_360_0 hR (Nat.le_refl 0) (Nat.le_refl 0)) a0 a1 hp q h))
def J_361 : mjI := (⟨"java/lang/String", "indexOf", "(I)I"⟩, 17, prog_17_method_79_code, 2, (some .int), 1, false)
theorem Ja_361 : mjMt 361 = some J_361 := by rfl
theorem D_361_0 : decode J_361.2.2.1 0 = .ok (.aload_n 0, 1) := dzq_42 (by decide +kernel)
theorem D_361_1 : decode J_361.2.2.1 1 = .ok (.iload_n 1, 1) := dzq_27 (by decide +kernel)
theorem D_361_2 : decode J_361.2.2.1 2 = .ok (.iconst 0, 1) := dzq_3 (by decide +kernel)
theorem D_361_3 : decode J_361.2.2.1 3 = .ok (.invokevirtual 633, 3) := dzq_182 (by decide +kernel)
theorem D_361_6 : decode J_361.2.2.1 6 = .ok (.ireturn, 1) := dzq_172 (by decide +kernel)
def P_361_0 (X : mjX) (d C S kc ks : Nat) (k : Nat → Int32 → mjH → mjU) : Prop := ∀ (l0 : Nat) (l1 : Int32) (hp : mjH) (q : Option Value × mjH), k l0 l1 hp = some q → mjG X d C S J_361 (mjEq q) 0 [some (.ref l0), some (.int l1)] [] hp kc ks
noncomputable def b_361_0 (R : mjR) (l0 : Nat) (l1 : Int32) (hp : mjH) : mjU := rS l0 (bI (R 362 [.ref l0, .int l1, .int (0 : Int32)] hp) (fun v1 hp2 => some (some (.int v1), hp2)))
theorem t_361_0 {X : mjX} {d C S kc ks : Nat} {R : mjR} (hR : mjC R d) (h1 : kc ≤ C) (h2 : ks ≤ S) : P_361_0 X (d + 1) C S kc ks (b_361_0 R) := by
  intro l0 l1 hp q h
  unfold b_361_0 at h
  refine mjr_aload_n (x := l0) D_361_0 rfl ?_
  refine mjr_iload_n (x := l1) D_361_1 rfl ?_
  refine mjq_ic (v := (0 : Int32)) D_361_2 rfl ?_
  refine mjq_wI (As := [.int l1, .int (0 : Int32)]) (rest := []) D_361_3 mr_17_633 V_362 rfl rfl rfl hR (Nat.le_refl _) h1 h2 h (fun v1 hp2 h => ?_)
  exact mjq_ret D_361_6 rfl h1 h2 h
noncomputable def f_361 (R : mjR) (a0 : Nat) (a1 : Int32) (hp : mjH) : mjU := b_361_0 R a0 a1 hp
theorem c_361 {R : mjR} {d : Nat} (hR : mjC R d) {a0 : Nat} {a1 : Int32} {hp : mjH} {q : Option Value × mjH} (h : f_361 R a0 a1 hp = some q) : mjM (d + 1) 0 0 361 [.ref a0, .int a1] hp (mjEq q) :=
  mjM_of Ja_361 (Nat.le_of_ble_eq_true rfl) (mjG.fg (lo' := [some (.ref a0), some (.int a1)]) (And.intro rfl (And.intro rfl True.intro)) ((t_361_0 hR (Nat.le_refl 0) (Nat.le_refl 0)) a0 a1 hp q h))
def J_362 : mjI := (⟨"java/lang/String", "indexOf", "(II)I"⟩, 17, prog_17_method_80_code, 3, (some .int), 2, false)
theorem Ja_362 : mjMt 362 = some J_362 := by rfl
theorem D_362_0 : decode J_362.2.2.1 0 = .ok (.aload_n 0, 1) := dzq_42 (by decide +kernel)
theorem D_362_1 : decode J_362.2.2.1 1 = .ok (.invokevirtual 492, 3) := dzq_182 (by decide +kernel)
theorem D_362_4 : decode J_362.2.2.1 4 = .ok (.ifCond .eq 19, 3) := dzq_153 (by decide +kernel)
theorem D_362_7 : decode J_362.2.2.1 7 = .ok (.aload_n 0, 1) := dzq_42 (by decide +kernel)
theorem D_362_8 : decode J_362.2.2.1 8 = .ok (.getfield 9, 3) := dzq_180 (by decide +kernel)
theorem D_362_11 : decode J_362.2.2.1 11 = .ok (.iload_n 1, 1) := dzq_27 (by decide +kernel)
theorem D_362_12 : decode J_362.2.2.1 12 = .ok (.iload_n 2, 1) := dzq_28 (by decide +kernel)
theorem D_362_13 : decode J_362.2.2.1 13 = .ok (.aload_n 0, 1) := dzq_42 (by decide +kernel)
theorem D_362_14 : decode J_362.2.2.1 14 = .ok (.invokevirtual 505, 3) := dzq_182 (by decide +kernel)
theorem D_362_17 : decode J_362.2.2.1 17 = .ok (.invokestatic 637, 3) := dzq_184 (by decide +kernel)
theorem D_362_20 : decode J_362.2.2.1 20 = .ok (.goto 16, 3) := dzq_167 (by decide +kernel)
theorem D_362_23 : decode J_362.2.2.1 23 = .ok (.aload_n 0, 1) := dzq_42 (by decide +kernel)
theorem D_362_24 : decode J_362.2.2.1 24 = .ok (.getfield 9, 3) := dzq_180 (by decide +kernel)
theorem D_362_27 : decode J_362.2.2.1 27 = .ok (.iload_n 1, 1) := dzq_27 (by decide +kernel)
theorem D_362_28 : decode J_362.2.2.1 28 = .ok (.iload_n 2, 1) := dzq_28 (by decide +kernel)
theorem D_362_29 : decode J_362.2.2.1 29 = .ok (.aload_n 0, 1) := dzq_42 (by decide +kernel)
theorem D_362_30 : decode J_362.2.2.1 30 = .ok (.invokevirtual 505, 3) := dzq_182 (by decide +kernel)
theorem D_362_33 : decode J_362.2.2.1 33 = .ok (.invokestatic 640, 3) := dzq_184 (by decide +kernel)
theorem D_362_36 : decode J_362.2.2.1 36 = .ok (.ireturn, 1) := dzq_172 (by decide +kernel)
def P_362_0 (X : mjX) (d C S kc ks : Nat) (k : Nat → Int32 → Int32 → mjH → mjU) : Prop := ∀ (l0 : Nat) (l1 : Int32) (l2 : Int32) (hp : mjH) (q : Option Value × mjH), k l0 l1 l2 hp = some q → mjG X d C S J_362 (mjEq q) 0 [some (.ref l0), some (.int l1), some (.int l2)] [] hp kc ks
noncomputable def b_362_0 (R : mjR) (l0 : Nat) (l1 : Int32) (l2 : Int32) (hp : mjH) : mjU := rS l0 (bI (R 359 [.ref l0] hp) (fun v1 hp2 => (if v1 = 0 then gSv l0 (fun v3 => rS l0 (bI (R 356 [.ref l0] hp2) (fun v4 hp5 => bI (R 372 [.ref v3, .int l1, .int l2, .int v4] hp5) (fun v6 hp7 => some (some (.int v6), hp7))))) else gSv l0 (fun v8 => rS l0 (bI (R 356 [.ref l0] hp2) (fun v9 hp10 => bI (R 365 [.ref v8, .int l1, .int l2, .int v9] hp10) (fun v11 hp12 => some (some (.int v11), hp12))))))))
theorem t_362_0 {X : mjX} {d C S kc ks : Nat} {R : mjR} (hR : mjC R d) (h1 : kc ≤ C) (h2 : ks ≤ S) : P_362_0 X (d + 1) C S kc ks (b_362_0 R) := by
  intro l0 l1 l2 hp q h
  unfold b_362_0 at h
  refine mjr_aload_n (x := l0) D_362_0 rfl ?_
  refine mjq_wI (As := []) (rest := []) D_362_1 mr_17_492 V_359 rfl rfl rfl hR (Nat.le_refl _) h1 h2 h (fun v1 hp2 h => ?_)
  refine mjq_if_eq (tgt := 23) D_362_4 rfl h (fun h => ?_) (fun h => ?_)
  · refine mjr_aload_n (x := l0) D_362_23 rfl ?_
    refine mjq_gSv rfl D_362_24 h (fun v3 h => ?_)
    refine mjr_iload_n (x := l1) D_362_27 rfl ?_
    refine mjr_iload_n (x := l2) D_362_28 rfl ?_
    refine mjr_aload_n (x := l0) D_362_29 rfl ?_
    refine mjq_wI (As := []) (rest := [.int l2, .int l1, .ref v3]) D_362_30 mr_17_505 V_356 rfl rfl rfl hR (Nat.le_refl _) h1 h2 h (fun v4 hp5 h => ?_)
    refine mjq_scI (As := [.ref v3, .int l1, .int l2, .int v4]) (rest := []) D_362_33 mr_17_640 V_372 rfl rfl rfl hR (Nat.le_refl _) h1 h2 h (fun v6 hp7 h => ?_)
    exact mjq_ret D_362_36 rfl h1 h2 h
  · refine mjr_aload_n (x := l0) D_362_7 rfl ?_
    refine mjq_gSv rfl D_362_8 h (fun v8 h => ?_)
    refine mjr_iload_n (x := l1) D_362_11 rfl ?_
    refine mjr_iload_n (x := l2) D_362_12 rfl ?_
    refine mjr_aload_n (x := l0) D_362_13 rfl ?_
    refine mjq_wI (As := []) (rest := [.int l2, .int l1, .ref v8]) D_362_14 mr_17_505 V_356 rfl rfl rfl hR (Nat.le_refl _) h1 h2 h (fun v9 hp10 h => ?_)
    refine mjq_scI (As := [.ref v8, .int l1, .int l2, .int v9]) (rest := []) D_362_17 mr_17_637 V_365 rfl rfl rfl hR (Nat.le_refl _) h1 h2 h (fun v11 hp12 h => ?_)
    refine mjr_goto (tgt := 36) D_362_20 rfl ?_
    exact mjq_ret D_362_36 rfl h1 h2 h
noncomputable def f_362 (R : mjR) (a0 : Nat) (a1 : Int32) (a2 : Int32) (hp : mjH) : mjU := b_362_0 R a0 a1 a2 hp
theorem c_362 {R : mjR} {d : Nat} (hR : mjC R d) {a0 : Nat} {a1 : Int32} {a2 : Int32} {hp : mjH} {q : Option Value × mjH} (h : f_362 R a0 a1 a2 hp = some q) : mjM (d + 1) 0 0 362 [.ref a0, .int a1, .int a2] hp (mjEq q) :=
  mjM_of Ja_362 (Nat.le_of_ble_eq_true rfl) (mjG.fg (lo' := [some (.ref a0), some (.int a1), some (.int a2)]) (And.intro rfl (And.intro rfl (And.intro rfl True.intro))) ((t_362_0 hR (Nat.le_refl 0) (Nat.le_refl 0)) a0 a1 a2 hp q h))
def J_363 : mjI := (⟨"java/lang/String", "checkBoundsBeginEnd", "(III)V"⟩, 17, prog_17_method_158_code, 3, none, 3, true)
theorem Ja_363 : mjMt 363 = some J_363 := by rfl
theorem D_363_0 : decode J_363.2.2.1 0 = .ok (.iload_n 0, 1) := dzq_26 (by decide +kernel)
theorem D_363_1 : decode J_363.2.2.1 1 = .ok (.iload_n 1, 1) := dzq_27 (by decide +kernel)
theorem D_363_2 : decode J_363.2.2.1 2 = .ok (.iload_n 2, 1) := dzq_28 (by decide +kernel)
theorem D_363_3 : decode J_363.2.2.1 3 = .ok (.getstatic 1053, 3) := by decide +kernel
theorem D_363_6 : decode J_363.2.2.1 6 = .ok (.invokestatic 1062, 3) := dzq_184 (by decide +kernel)
theorem D_363_9 : decode J_363.2.2.1 9 = .ok (.pop, 1) := dzq_87 (by decide +kernel)
theorem D_363_10 : decode J_363.2.2.1 10 = .ok (.return_, 1) := dzq_177 (by decide +kernel)
def P_363_0 (X : mjX) (d C S kc ks : Nat) (k : Int32 → Int32 → Int32 → mjH → mjU) : Prop := ∀ (l0 : Int32) (l1 : Int32) (l2 : Int32) (hp : mjH) (q : Option Value × mjH), k l0 l1 l2 hp = some q → mjG X d C S J_363 (mjEq q) 0 [some (.int l0), some (.int l1), some (.int l2)] [] hp kc ks
noncomputable def b_363_0 (R : mjR) (l0 : Int32) (l1 : Int32) (l2 : Int32) (hp : mjH) : mjU := bI (R 382 [.int l0, .int l1, .int l2, (.retAddr 0)] hp) (fun v1 hp2 => some (none, hp2))
theorem t_363_0 {X : mjX} {d C S kc ks : Nat} {R : mjR} (hR : mjC R d) (h1 : kc ≤ C) (h2 : ks ≤ S) : P_363_0 X (d + 1) C S kc ks (b_363_0 R) := by
  intro l0 l1 l2 hp q h
  unfold b_363_0 at h
  refine mjr_iload_n (x := l0) D_363_0 rfl ?_
  refine mjr_iload_n (x := l1) D_363_1 rfl ?_
  refine mjr_iload_n (x := l2) D_363_2 rfl ?_
  refine mjr_gets2 rfl D_363_3 ?_
  refine mjq_scI (As := [.int l0, .int l1, .int l2, (.retAddr 0)]) (rest := []) D_363_6 mr_17_1062 V_382 rfl rfl rfl hR (Nat.le_refl _) h1 h2 h (fun v1 hp2 h => ?_)
  refine mjr_pop D_363_9 rfl ?_
  exact mjq_nret D_363_10 rfl h1 h2 h
noncomputable def f_363 (R : mjR) (a0 : Int32) (a1 : Int32) (a2 : Int32) (hp : mjH) : mjU := b_363_0 R a0 a1 a2 hp
theorem c_363 {R : mjR} {d : Nat} (hR : mjC R d) {a0 : Int32} {a1 : Int32} {a2 : Int32} {hp : mjH} {q : Option Value × mjH} (h : f_363 R a0 a1 a2 hp = some q) : mjM (d + 1) 0 0 363 [.int a0, .int a1, .int a2] hp (mjEq q) :=
  mjM_of Ja_363 (Nat.le_of_ble_eq_true rfl) (mjG.fg (lo' := [some (.int a0), some (.int a1), some (.int a2)]) (And.intro rfl (And.intro rfl (And.intro rfl True.intro))) ((t_363_0 hR (Nat.le_refl 0) (Nat.le_refl 0)) a0 a1 a2 hp q h))
def J_364 : mjI := (⟨"java/lang/StringLatin1", "charAt", "([BI)C"⟩, 18, prog_18_method_2_code, 2, (some .char), 2, true)
theorem Ja_364 : mjMt 364 = some J_364 := by rfl
theorem D_364_0 : decode J_364.2.2.1 0 = .ok (.iload_n 1, 1) := dzq_27 (by decide +kernel)
theorem D_364_1 : decode J_364.2.2.1 1 = .ok (.aload_n 0, 1) := dzq_42 (by decide +kernel)
theorem D_364_2 : decode J_364.2.2.1 2 = .ok (.arraylength, 1) := by decide +kernel
theorem D_364_3 : decode J_364.2.2.1 3 = .ok (.invokestatic 9, 3) := dzq_184 (by decide +kernel)
theorem D_364_6 : decode J_364.2.2.1 6 = .ok (.aload_n 0, 1) := dzq_42 (by decide +kernel)
theorem D_364_7 : decode J_364.2.2.1 7 = .ok (.iload_n 1, 1) := dzq_27 (by decide +kernel)
theorem D_364_8 : decode J_364.2.2.1 8 = .ok (.baload, 1) := dzq_51 (by decide +kernel)
theorem D_364_9 : decode J_364.2.2.1 9 = .ok (.sipush 255, 3) := dzq_17 (by decide +kernel)
theorem D_364_12 : decode J_364.2.2.1 12 = .ok (.iand, 1) := by decide +kernel
theorem D_364_13 : decode J_364.2.2.1 13 = .ok (.i2c, 1) := by decide +kernel
theorem D_364_14 : decode J_364.2.2.1 14 = .ok (.ireturn, 1) := dzq_172 (by decide +kernel)
def P_364_0 (X : mjX) (d C S kc ks : Nat) (k : Nat → Int32 → mjH → mjU) : Prop := ∀ (l0 : Nat) (l1 : Int32) (hp : mjH) (q : Option Value × mjH), k l0 l1 hp = some q → mjG X d C S J_364 (mjEq q) 0 [some (.ref l0), some (.int l1)] [] hp kc ks
noncomputable def b_364_0 (R : mjR) (l0 : Nat) (l1 : Int32) (hp : mjH) : mjU := aN hp l0 (fun v1 => bN (R 360 [.int l1, .int v1] hp) (fun  hp2 => aB hp2 l0 l1 (fun v3 => (if narrow .char (.int (((v3 &&& (255 : Int32))).toUInt32 % 65536).toInt32) = .int (((v3 &&& (255 : Int32))).toUInt32 % 65536).toInt32 then some (some (.int (((v3 &&& (255 : Int32))).toUInt32 % 65536).toInt32), hp2) else none))))
theorem t_364_0 {X : mjX} {d C S kc ks : Nat} {R : mjR} (hR : mjC R d) (h1 : kc ≤ C) (h2 : ks ≤ S) : P_364_0 X (d + 1) C S kc ks (b_364_0 R) := by
  intro l0 l1 hp q h
  unfold b_364_0 at h
  refine mjr_iload_n (x := l1) D_364_0 rfl ?_
  refine mjr_aload_n (x := l0) D_364_1 rfl ?_
  refine mjq_aN D_364_2 h (fun v1 h => ?_)
  refine mjq_scN (As := [.int l1, .int v1]) (rest := []) D_364_3 mr_18_9 V_360 rfl rfl rfl hR (Nat.le_refl _) h1 h2 h (fun  hp2 h => ?_)
  refine mjr_aload_n (x := l0) D_364_6 rfl ?_
  refine mjr_iload_n (x := l1) D_364_7 rfl ?_
  refine mjq_aB D_364_8 h (fun v3 h => ?_)
  refine mjq_si (v := (255 : Int32)) D_364_9 rfl ?_
  refine mjr_iand D_364_12 ?_
  refine mjr_i2c D_364_13 ?_
  exact mjq_retZ (ty := .char) D_364_14 rfl h1 h2 h
noncomputable def f_364 (R : mjR) (a0 : Nat) (a1 : Int32) (hp : mjH) : mjU := b_364_0 R a0 a1 hp
theorem c_364 {R : mjR} {d : Nat} (hR : mjC R d) {a0 : Nat} {a1 : Int32} {hp : mjH} {q : Option Value × mjH} (h : f_364 R a0 a1 hp = some q) : mjM (d + 1) 0 0 364 [.ref a0, .int a1] hp (mjEq q) :=
  mjM_of Ja_364 (Nat.le_of_ble_eq_true rfl) (mjG.fg (lo' := [some (.ref a0), some (.int a1)]) (And.intro rfl (And.intro rfl True.intro)) ((t_364_0 hR (Nat.le_refl 0) (Nat.le_refl 0)) a0 a1 hp q h))
def J_365 : mjI := (⟨"java/lang/StringLatin1", "indexOf", "([BIII)I"⟩, 18, prog_18_method_22_code, 4, (some .int), 4, true)
theorem Ja_365 : mjMt 365 = some J_365 := by rfl
theorem D_365_0 : decode J_365.2.2.1 0 = .ok (.iload_n 1, 1) := dzq_27 (by decide +kernel)
theorem D_365_1 : decode J_365.2.2.1 1 = .ok (.invokestatic 88, 3) := dzq_184 (by decide +kernel)
theorem D_365_4 : decode J_365.2.2.1 4 = .ok (.ifCond .ne 5, 3) := dzq_154 (by decide +kernel)
theorem D_365_7 : decode J_365.2.2.1 7 = .ok (.iconst (-1), 1) := dzq_2 (by decide +kernel)
theorem D_365_8 : decode J_365.2.2.1 8 = .ok (.ireturn, 1) := dzq_172 (by decide +kernel)
theorem D_365_9 : decode J_365.2.2.1 9 = .ok (.iload_n 2, 1) := dzq_28 (by decide +kernel)
theorem D_365_10 : decode J_365.2.2.1 10 = .ok (.iconst 0, 1) := dzq_3 (by decide +kernel)
theorem D_365_11 : decode J_365.2.2.1 11 = .ok (.invokestatic 92, 3) := dzq_184 (by decide +kernel)
theorem D_365_14 : decode J_365.2.2.1 14 = .ok (.istore_n 2, 1) := dzq_61 (by decide +kernel)
theorem D_365_15 : decode J_365.2.2.1 15 = .ok (.iload_n 3, 1) := dzq_29 (by decide +kernel)
theorem D_365_16 : decode J_365.2.2.1 16 = .ok (.aload_n 0, 1) := dzq_42 (by decide +kernel)
theorem D_365_17 : decode J_365.2.2.1 17 = .ok (.arraylength, 1) := by decide +kernel
theorem D_365_18 : decode J_365.2.2.1 18 = .ok (.invokestatic 38, 3) := dzq_184 (by decide +kernel)
theorem D_365_21 : decode J_365.2.2.1 21 = .ok (.istore_n 3, 1) := dzq_62 (by decide +kernel)
theorem D_365_22 : decode J_365.2.2.1 22 = .ok (.iload_n 2, 1) := dzq_28 (by decide +kernel)
theorem D_365_23 : decode J_365.2.2.1 23 = .ok (.iload_n 3, 1) := dzq_29 (by decide +kernel)
theorem D_365_24 : decode J_365.2.2.1 24 = .ok (.if_icmp .lt 5, 3) := dzq_161 (by decide +kernel)
theorem D_365_27 : decode J_365.2.2.1 27 = .ok (.iconst (-1), 1) := dzq_2 (by decide +kernel)
theorem D_365_28 : decode J_365.2.2.1 28 = .ok (.ireturn, 1) := dzq_172 (by decide +kernel)
theorem D_365_29 : decode J_365.2.2.1 29 = .ok (.aload_n 0, 1) := dzq_42 (by decide +kernel)
theorem D_365_30 : decode J_365.2.2.1 30 = .ok (.iload_n 1, 1) := dzq_27 (by decide +kernel)
theorem D_365_31 : decode J_365.2.2.1 31 = .ok (.iload_n 2, 1) := dzq_28 (by decide +kernel)
theorem D_365_32 : decode J_365.2.2.1 32 = .ok (.iload_n 3, 1) := dzq_29 (by decide +kernel)
theorem D_365_33 : decode J_365.2.2.1 33 = .ok (.invokestatic 95, 3) := dzq_184 (by decide +kernel)
theorem D_365_36 : decode J_365.2.2.1 36 = .ok (.ireturn, 1) := dzq_172 (by decide +kernel)
def P_365_0 (X : mjX) (d C S kc ks : Nat) (k : Nat → Int32 → Int32 → Int32 → mjH → mjU) : Prop := ∀ (l0 : Nat) (l1 : Int32) (l2 : Int32) (l3 : Int32) (hp : mjH) (q : Option Value × mjH), k l0 l1 l2 l3 hp = some q → mjG X d C S J_365 (mjEq q) 0 [some (.ref l0), some (.int l1), some (.int l2), some (.int l3)] [] hp kc ks
noncomputable def b_365_0 (R : mjR) (l0 : Nat) (l1 : Int32) (l2 : Int32) (l3 : Int32) (hp : mjH) : mjU := bI (R 366 [.int l1] hp) (fun v1 hp2 => (if v1 = 0 then some (some (.int (-1 : Int32)), hp2) else bI (R 354 [.int l2, .int (0 : Int32)] hp2) (fun v3 hp4 => aN hp4 l0 (fun v5 => bI (R 355 [.int l3, .int v5] hp4) (fun v6 hp7 => (if v3 < v6 then bI (R 367 [.ref l0, .int l1, .int v3, .int v6] hp7) (fun v8 hp9 => some (some (.int v8), hp9)) else some (some (.int (-1 : Int32)), hp7)))))))
theorem t_365_0 {X : mjX} {d C S kc ks : Nat} {R : mjR} (hR : mjC R d) (h1 : kc ≤ C) (h2 : ks ≤ S) : P_365_0 X (d + 1) C S kc ks (b_365_0 R) := by
  intro l0 l1 l2 l3 hp q h
  unfold b_365_0 at h
  refine mjr_iload_n (x := l1) D_365_0 rfl ?_
  refine mjq_scI (As := [.int l1]) (rest := []) D_365_1 mr_18_88 V_366 rfl rfl rfl hR (Nat.le_refl _) h1 h2 h (fun v1 hp2 h => ?_)
  refine mjq_if_ne (tgt := 9) D_365_4 rfl h (fun h => ?_) (fun h => ?_)
  · refine mjr_iload_n (x := l2) D_365_9 rfl ?_
    refine mjq_ic (v := (0 : Int32)) D_365_10 rfl ?_
    refine mjq_scI (As := [.int l2, .int (0 : Int32)]) (rest := []) D_365_11 mr_18_92 V_354 rfl rfl rfl hR (Nat.le_refl _) h1 h2 h (fun v3 hp4 h => ?_)
    refine mjq_istore_n (lo' := [some (.ref l0), some (.int l1), some (.int v3), some (.int l3)]) D_365_14 (Nat.le_of_ble_eq_true rfl) rfl ?_
    refine mjr_iload_n (x := l3) D_365_15 rfl ?_
    refine mjr_aload_n (x := l0) D_365_16 rfl ?_
    refine mjq_aN D_365_17 h (fun v5 h => ?_)
    refine mjq_scI (As := [.int l3, .int v5]) (rest := []) D_365_18 mr_18_38 V_355 rfl rfl rfl hR (Nat.le_refl _) h1 h2 h (fun v6 hp7 h => ?_)
    refine mjq_istore_n (lo' := [some (.ref l0), some (.int l1), some (.int v3), some (.int v6)]) D_365_21 (Nat.le_of_ble_eq_true rfl) rfl ?_
    refine mjr_iload_n (x := v3) D_365_22 rfl ?_
    refine mjr_iload_n (x := v6) D_365_23 rfl ?_
    refine mjq_icmp_lt (tgt := 29) D_365_24 rfl h (fun h => ?_) (fun h => ?_)
    · refine mjr_aload_n (x := l0) D_365_29 rfl ?_
      refine mjr_iload_n (x := l1) D_365_30 rfl ?_
      refine mjr_iload_n (x := v3) D_365_31 rfl ?_
      refine mjr_iload_n (x := v6) D_365_32 rfl ?_
      refine mjq_scI (As := [.ref l0, .int l1, .int v3, .int v6]) (rest := []) D_365_33 mr_18_95 V_367 rfl rfl rfl hR (Nat.le_refl _) h1 h2 h (fun v8 hp9 h => ?_)
      exact mjq_ret D_365_36 rfl h1 h2 h
    · refine mjq_ic (v := (-1 : Int32)) D_365_27 rfl ?_
      exact mjq_ret D_365_28 rfl h1 h2 h
  · refine mjq_ic (v := (-1 : Int32)) D_365_7 rfl ?_
    exact mjq_ret D_365_8 rfl h1 h2 h
noncomputable def f_365 (R : mjR) (a0 : Nat) (a1 : Int32) (a2 : Int32) (a3 : Int32) (hp : mjH) : mjU := b_365_0 R a0 a1 a2 a3 hp
theorem c_365 {R : mjR} {d : Nat} (hR : mjC R d) {a0 : Nat} {a1 : Int32} {a2 : Int32} {a3 : Int32} {hp : mjH} {q : Option Value × mjH} (h : f_365 R a0 a1 a2 a3 hp = some q) : mjM (d + 1) 0 0 365 [.ref a0, .int a1, .int a2, .int a3] hp (mjEq q) :=
  mjM_of Ja_365 (Nat.le_of_ble_eq_true rfl) (mjG.fg (lo' := [some (.ref a0), some (.int a1), some (.int a2), some (.int a3)]) (And.intro rfl (And.intro rfl (And.intro rfl (And.intro rfl True.intro)))) ((t_365_0 hR (Nat.le_refl 0) (Nat.le_refl 0)) a0 a1 a2 a3 hp q h))
def J_366 : mjI := (⟨"java/lang/StringLatin1", "canEncode", "(I)Z"⟩, 18, prog_18_method_4_code, 1, (some .boolean), 1, true)
theorem Ja_366 : mjMt 366 = some J_366 := by rfl
theorem D_366_0 : decode J_366.2.2.1 0 = .ok (.iload_n 0, 1) := dzq_26 (by decide +kernel)
theorem D_366_1 : decode J_366.2.2.1 1 = .ok (.ifCond .lt 14, 3) := dzq_155 (by decide +kernel)
theorem D_366_4 : decode J_366.2.2.1 4 = .ok (.iload_n 0, 1) := dzq_26 (by decide +kernel)
theorem D_366_5 : decode J_366.2.2.1 5 = .ok (.sipush 255, 3) := dzq_17 (by decide +kernel)
theorem D_366_8 : decode J_366.2.2.1 8 = .ok (.if_icmp .gt 7, 3) := dzq_163 (by decide +kernel)
theorem D_366_11 : decode J_366.2.2.1 11 = .ok (.iconst 1, 1) := dzq_4 (by decide +kernel)
theorem D_366_12 : decode J_366.2.2.1 12 = .ok (.goto 4, 3) := dzq_167 (by decide +kernel)
theorem D_366_15 : decode J_366.2.2.1 15 = .ok (.iconst 0, 1) := dzq_3 (by decide +kernel)
theorem D_366_16 : decode J_366.2.2.1 16 = .ok (.ireturn, 1) := dzq_172 (by decide +kernel)
def P_366_15 (X : mjX) (d C S kc ks : Nat) (k : mjH → mjU) : Prop := ∀  (hp : mjH) (q : Option Value × mjH), k  hp = some q → mjG X d C S J_366 (mjEq q) 15 [none] [] hp kc ks
def P_366_0 (X : mjX) (d C S kc ks : Nat) (k : Int32 → mjH → mjU) : Prop := ∀ (l0 : Int32) (hp : mjH) (q : Option Value × mjH), k l0 hp = some q → mjG X d C S J_366 (mjEq q) 0 [some (.int l0)] [] hp kc ks
noncomputable def b_366_15 (R : mjR)  (hp : mjH) : mjU := some (some (.int (0 : Int32)), hp)
theorem t_366_15 {X : mjX} {d C S kc ks : Nat} {R : mjR} (hR : mjC R d) (h1 : kc ≤ C) (h2 : ks ≤ S) : P_366_15 X (d + 1) C S kc ks (b_366_15 R) := by
  intro  hp q h
  unfold b_366_15 at h
  refine mjq_ic (v := (0 : Int32)) D_366_15 rfl ?_
  exact mjr_ireturn D_366_16 rfl rfl h1 h2 (Option.some.inj h)
noncomputable def b_366_0 (R : mjR) (l0 : Int32) (hp : mjH) : mjU := (if l0 < 0 then b_366_15 R hp else (if (255 : Int32) < l0 then b_366_15 R hp else some (some (.int (1 : Int32)), hp)))
theorem t_366_0 {X : mjX} {d C S kc ks : Nat} {R : mjR} (hR : mjC R d) (h1 : kc ≤ C) (h2 : ks ≤ S) : P_366_0 X (d + 1) C S kc ks (b_366_0 R) := by
  intro l0 hp q h
  unfold b_366_0 at h
  refine mjr_iload_n (x := l0) D_366_0 rfl ?_
  refine mjq_if_lt (tgt := 15) D_366_1 rfl h (fun h => ?_) (fun h => ?_)
  · exact mjG.fg (lo' := [none]) True.intro ((t_366_15 hR h1 h2) _ _ h)
  · refine mjr_iload_n (x := l0) D_366_4 rfl ?_
    refine mjq_si (v := (255 : Int32)) D_366_5 rfl ?_
    refine mjq_icmp_gt (tgt := 15) D_366_8 rfl h (fun h => ?_) (fun h => ?_)
    · exact mjG.fg (lo' := [none]) True.intro ((t_366_15 hR h1 h2) _ _ h)
    · refine mjq_ic (v := (1 : Int32)) D_366_11 rfl ?_
      refine mjr_goto (tgt := 16) D_366_12 rfl ?_
      exact mjr_ireturn D_366_16 rfl rfl h1 h2 (Option.some.inj h)
noncomputable def f_366 (R : mjR) (a0 : Int32) (hp : mjH) : mjU := b_366_0 R a0 hp
theorem c_366 {R : mjR} {d : Nat} (hR : mjC R d) {a0 : Int32} {hp : mjH} {q : Option Value × mjH} (h : f_366 R a0 hp = some q) : mjM (d + 1) 0 0 366 [.int a0] hp (mjEq q) :=
  mjM_of Ja_366 (Nat.le_of_ble_eq_true rfl) (mjG.fg (lo' := [some (.int a0)]) (And.intro rfl True.intro) ((t_366_0 hR (Nat.le_refl 0) (Nat.le_refl 0)) a0 hp q h))
def J_367 : mjI := (⟨"java/lang/StringLatin1", "indexOfChar", "([BIII)I"⟩, 18, prog_18_method_23_code, 6, (some .int), 4, true)
theorem Ja_367 : mjMt 367 = some J_367 := by rfl
theorem D_367_0 : decode J_367.2.2.1 0 = .ok (.iload_n 1, 1) := dzq_27 (by decide +kernel)
theorem D_367_1 : decode J_367.2.2.1 1 = .ok (.i2b, 1) := by decide +kernel
theorem D_367_2 : decode J_367.2.2.1 2 = .ok (.istore 4, 2) := dzq_54 (by decide +kernel)
theorem D_367_4 : decode J_367.2.2.1 4 = .ok (.iload_n 2, 1) := dzq_28 (by decide +kernel)
theorem D_367_5 : decode J_367.2.2.1 5 = .ok (.istore 5, 2) := dzq_54 (by decide +kernel)
theorem D_367_7 : decode J_367.2.2.1 7 = .ok (.iload 5, 2) := dzq_21 (by decide +kernel)
theorem D_367_9 : decode J_367.2.2.1 9 = .ok (.iload_n 3, 1) := dzq_29 (by decide +kernel)
theorem D_367_10 : decode J_367.2.2.1 10 = .ok (.if_icmp .ge 21, 3) := dzq_162 (by decide +kernel)
theorem D_367_13 : decode J_367.2.2.1 13 = .ok (.aload_n 0, 1) := dzq_42 (by decide +kernel)
theorem D_367_14 : decode J_367.2.2.1 14 = .ok (.iload 5, 2) := dzq_21 (by decide +kernel)
theorem D_367_16 : decode J_367.2.2.1 16 = .ok (.baload, 1) := dzq_51 (by decide +kernel)
theorem D_367_17 : decode J_367.2.2.1 17 = .ok (.iload 4, 2) := dzq_21 (by decide +kernel)
theorem D_367_19 : decode J_367.2.2.1 19 = .ok (.if_icmp .ne 6, 3) := dzq_160 (by decide +kernel)
theorem D_367_22 : decode J_367.2.2.1 22 = .ok (.iload 5, 2) := dzq_21 (by decide +kernel)
theorem D_367_24 : decode J_367.2.2.1 24 = .ok (.ireturn, 1) := dzq_172 (by decide +kernel)
theorem D_367_25 : decode J_367.2.2.1 25 = .ok (.iinc 5 1, 3) := dzq_132 (by decide +kernel)
theorem D_367_28 : decode J_367.2.2.1 28 = .ok (.goto (-21), 3) := dzq_167 (by decide +kernel)
theorem D_367_31 : decode J_367.2.2.1 31 = .ok (.iconst (-1), 1) := dzq_2 (by decide +kernel)
theorem D_367_32 : decode J_367.2.2.1 32 = .ok (.ireturn, 1) := dzq_172 (by decide +kernel)
def P_367_7 (X : mjX) (d C S kc ks : Nat) (k : Nat → Int32 → Int32 → Int32 → mjH → mjU) : Prop := ∀ (l0 : Nat) (l3 : Int32) (l4 : Int32) (l5 : Int32) (hp : mjH) (q : Option Value × mjH), k l0 l3 l4 l5 hp = some q → mjG X d C S J_367 (mjEq q) 7 [some (.ref l0), none, none, some (.int l3), some (.int l4), some (.int l5)] [] hp kc ks
def P_367_0 (X : mjX) (d C S kc ks : Nat) (k : Nat → Int32 → Int32 → Int32 → mjH → mjU) : Prop := ∀ (l0 : Nat) (l1 : Int32) (l2 : Int32) (l3 : Int32) (hp : mjH) (q : Option Value × mjH), k l0 l1 l2 l3 hp = some q → mjG X d C S J_367 (mjEq q) 0 [some (.ref l0), some (.int l1), some (.int l2), some (.int l3), none, none] [] hp kc ks
noncomputable def b_367_7 (R : mjR) (k7 : Nat → Int32 → Int32 → Int32 → mjH → mjU) (l0 : Nat) (l3 : Int32) (l4 : Int32) (l5 : Int32) (hp : mjH) : mjU := (if l3 ≤ l5 then some (some (.int (-1 : Int32)), hp) else aB hp l0 l5 (fun v1 => (if v1 = l4 then some (some (.int l5), hp) else k7 l0 l3 l4 (l5 + (1 : Int32)) hp)))
theorem t_367_7 {X : mjX} {d C S kc ks : Nat} {R : mjR} (hR : mjC R d) (h1 : kc ≤ C) (h2 : ks ≤ S) {k7 : Nat → Int32 → Int32 → Int32 → mjH → mjU} (hk7 : P_367_7 X (d + 1) C S kc ks k7) : P_367_7 X (d + 1) C S kc ks (b_367_7 R k7) := by
  intro l0 l3 l4 l5 hp q h
  unfold b_367_7 at h
  refine mjr_iload (x := l5) D_367_7 rfl ?_
  refine mjr_iload_n (x := l3) D_367_9 rfl ?_
  refine mjq_icmp_ge (tgt := 31) D_367_10 rfl h (fun h => ?_) (fun h => ?_)
  · refine mjq_ic (v := (-1 : Int32)) D_367_31 rfl ?_
    exact mjq_ret D_367_32 rfl h1 h2 h
  · refine mjr_aload_n (x := l0) D_367_13 rfl ?_
    refine mjr_iload (x := l5) D_367_14 rfl ?_
    refine mjq_aB D_367_16 h (fun v1 h => ?_)
    refine mjr_iload (x := l4) D_367_17 rfl ?_
    refine mjq_icmp_ne (tgt := 25) D_367_19 rfl h (fun h => ?_) (fun h => ?_)
    · refine mjq_iinc (x := l5) (c := (1 : Int32)) (lo' := [some (.ref l0), none, none, some (.int l3), some (.int l4), some (.int (l5 + (1 : Int32)))]) D_367_25 rfl (Nat.le_of_ble_eq_true rfl) rfl rfl ?_
      refine mjr_goto (tgt := 7) D_367_28 rfl ?_
      exact hk7 _ _ _ _ _ _ h
    · refine mjr_iload (x := l5) D_367_22 rfl ?_
      exact mjq_ret D_367_24 rfl h1 h2 h
noncomputable def L_367_7 (R : mjR) (n : Nat) : Nat → Int32 → Int32 → Int32 → mjH → mjU := Nat.rec (motive := fun _ => Nat → Int32 → Int32 → Int32 → mjH → mjU) (fun _ _ _ _ _ => none) (fun _ self => b_367_7 R self) n
theorem T_367_7 {X : mjX} {d C S kc ks : Nat} {R : mjR} (hR : mjC R d) (h1 : kc ≤ C) (h2 : ks ≤ S) (n : Nat) : P_367_7 X (d + 1) C S kc ks (L_367_7 R n) := by
  induction n with
  | zero => intro _ _ _ _ _ _ h; exact mj_no h
  | succ n ih => exact t_367_7 hR h1 h2 ih
noncomputable def b_367_0 (R : mjR) (l0 : Nat) (l1 : Int32) (l2 : Int32) (l3 : Int32) (hp : mjH) : mjU := L_367_7 R mjN l0 l3 (l1).toInt8.toInt32 l2 hp
theorem t_367_0 {X : mjX} {d C S kc ks : Nat} {R : mjR} (hR : mjC R d) (h1 : kc ≤ C) (h2 : ks ≤ S) : P_367_0 X (d + 1) C S kc ks (b_367_0 R) := by
  intro l0 l1 l2 l3 hp q h
  unfold b_367_0 at h
  refine mjr_iload_n (x := l1) D_367_0 rfl ?_
  refine mjr_i2b D_367_1 ?_
  refine mjq_istore (lo' := [some (.ref l0), some (.int l1), some (.int l2), some (.int l3), some (.int (l1).toInt8.toInt32), none]) D_367_2 (Nat.le_of_ble_eq_true rfl) rfl ?_
  refine mjr_iload_n (x := l2) D_367_4 rfl ?_
  refine mjq_istore (lo' := [some (.ref l0), some (.int l1), some (.int l2), some (.int l3), some (.int (l1).toInt8.toInt32), some (.int l2)]) D_367_5 (Nat.le_of_ble_eq_true rfl) rfl ?_
  exact mjG.fg (lo' := [some (.ref l0), none, none, some (.int l3), some (.int (l1).toInt8.toInt32), some (.int l2)]) (And.intro rfl (And.intro rfl (And.intro rfl (And.intro rfl True.intro)))) ((T_367_7 hR h1 h2 mjN) _ _ _ _ _ _ h)
noncomputable def f_367 (R : mjR) (a0 : Nat) (a1 : Int32) (a2 : Int32) (a3 : Int32) (hp : mjH) : mjU := b_367_0 R a0 a1 a2 a3 hp
theorem c_367 {R : mjR} {d : Nat} (hR : mjC R d) {a0 : Nat} {a1 : Int32} {a2 : Int32} {a3 : Int32} {hp : mjH} {q : Option Value × mjH} (h : f_367 R a0 a1 a2 a3 hp = some q) : mjM (d + 1) 0 0 367 [.ref a0, .int a1, .int a2, .int a3] hp (mjEq q) :=
  mjM_of Ja_367 (Nat.le_of_ble_eq_true rfl) (mjG.fg (lo' := [some (.ref a0), some (.int a1), some (.int a2), some (.int a3), none, none]) (And.intro rfl (And.intro rfl (And.intro rfl (And.intro rfl True.intro)))) ((t_367_0 hR (Nat.le_refl 0) (Nat.le_refl 0)) a0 a1 a2 a3 hp q h))
def J_368 : mjI := (⟨"java/lang/StringUTF16", "charAt", "([BI)C"⟩, 19, prog_19_method_83_code, 2, (some .char), 2, true)
theorem Ja_368 : mjMt 368 = some J_368 := by rfl
theorem D_368_0 : decode J_368.2.2.1 0 = .ok (.iload_n 1, 1) := dzq_27 (by decide +kernel)
theorem D_368_1 : decode J_368.2.2.1 1 = .ok (.aload_n 0, 1) := dzq_42 (by decide +kernel)
theorem D_368_2 : decode J_368.2.2.1 2 = .ok (.invokestatic 67, 3) := dzq_184 (by decide +kernel)
theorem D_368_5 : decode J_368.2.2.1 5 = .ok (.aload_n 0, 1) := dzq_42 (by decide +kernel)
theorem D_368_6 : decode J_368.2.2.1 6 = .ok (.iload_n 1, 1) := dzq_27 (by decide +kernel)
theorem D_368_7 : decode J_368.2.2.1 7 = .ok (.invokestatic 71, 3) := dzq_184 (by decide +kernel)
theorem D_368_10 : decode J_368.2.2.1 10 = .ok (.ireturn, 1) := dzq_172 (by decide +kernel)
def P_368_0 (X : mjX) (d C S kc ks : Nat) (k : Nat → Int32 → mjH → mjU) : Prop := ∀ (l0 : Nat) (l1 : Int32) (hp : mjH) (q : Option Value × mjH), k l0 l1 hp = some q → mjG X d C S J_368 (mjEq q) 0 [some (.ref l0), some (.int l1)] [] hp kc ks
noncomputable def b_368_0 (R : mjR) (l0 : Nat) (l1 : Int32) (hp : mjH) : mjU := bN (R 369 [.int l1, .ref l0] hp) (fun  hp1 => bI (R 371 [.ref l0, .int l1] hp1) (fun v2 hp3 => (if narrow .char (.int v2) = .int v2 then some (some (.int v2), hp3) else none)))
theorem t_368_0 {X : mjX} {d C S kc ks : Nat} {R : mjR} (hR : mjC R d) (h1 : kc ≤ C) (h2 : ks ≤ S) : P_368_0 X (d + 1) C S kc ks (b_368_0 R) := by
  intro l0 l1 hp q h
  unfold b_368_0 at h
  refine mjr_iload_n (x := l1) D_368_0 rfl ?_
  refine mjr_aload_n (x := l0) D_368_1 rfl ?_
  refine mjq_scN (As := [.int l1, .ref l0]) (rest := []) D_368_2 mr_19_67 V_369 rfl rfl rfl hR (Nat.le_refl _) h1 h2 h (fun  hp1 h => ?_)
  refine mjr_aload_n (x := l0) D_368_5 rfl ?_
  refine mjr_iload_n (x := l1) D_368_6 rfl ?_
  refine mjq_scI (As := [.ref l0, .int l1]) (rest := []) D_368_7 mr_19_71 V_371 rfl rfl rfl hR (Nat.le_refl _) h1 h2 h (fun v2 hp3 h => ?_)
  exact mjq_retZ (ty := .char) D_368_10 rfl h1 h2 h
noncomputable def f_368 (R : mjR) (a0 : Nat) (a1 : Int32) (hp : mjH) : mjU := b_368_0 R a0 a1 hp
theorem c_368 {R : mjR} {d : Nat} (hR : mjC R d) {a0 : Nat} {a1 : Int32} {hp : mjH} {q : Option Value × mjH} (h : f_368 R a0 a1 hp = some q) : mjM (d + 1) 0 0 368 [.ref a0, .int a1] hp (mjEq q) :=
  mjM_of Ja_368 (Nat.le_of_ble_eq_true rfl) (mjG.fg (lo' := [some (.ref a0), some (.int a1)]) (And.intro rfl (And.intro rfl True.intro)) ((t_368_0 hR (Nat.le_refl 0) (Nat.le_refl 0)) a0 a1 hp q h))
def J_369 : mjI := (⟨"java/lang/StringUTF16", "checkIndex", "(I[B)V"⟩, 19, prog_19_method_91_code, 2, none, 2, true)
theorem Ja_369 : mjMt 369 = some J_369 := by rfl
theorem D_369_0 : decode J_369.2.2.1 0 = .ok (.iload_n 0, 1) := dzq_26 (by decide +kernel)
theorem D_369_1 : decode J_369.2.2.1 1 = .ok (.aload_n 1, 1) := dzq_43 (by decide +kernel)
theorem D_369_2 : decode J_369.2.2.1 2 = .ok (.invokestatic 48, 3) := dzq_184 (by decide +kernel)
theorem D_369_5 : decode J_369.2.2.1 5 = .ok (.invokestatic 414, 3) := dzq_184 (by decide +kernel)
theorem D_369_8 : decode J_369.2.2.1 8 = .ok (.return_, 1) := dzq_177 (by decide +kernel)
def P_369_0 (X : mjX) (d C S kc ks : Nat) (k : Int32 → Nat → mjH → mjU) : Prop := ∀ (l0 : Int32) (l1 : Nat) (hp : mjH) (q : Option Value × mjH), k l0 l1 hp = some q → mjG X d C S J_369 (mjEq q) 0 [some (.int l0), some (.ref l1)] [] hp kc ks
noncomputable def b_369_0 (R : mjR) (l0 : Int32) (l1 : Nat) (hp : mjH) : mjU := bI (R 370 [.ref l1] hp) (fun v1 hp2 => bN (R 360 [.int l0, .int v1] hp2) (fun  hp3 => some (none, hp3)))
theorem t_369_0 {X : mjX} {d C S kc ks : Nat} {R : mjR} (hR : mjC R d) (h1 : kc ≤ C) (h2 : ks ≤ S) : P_369_0 X (d + 1) C S kc ks (b_369_0 R) := by
  intro l0 l1 hp q h
  unfold b_369_0 at h
  refine mjr_iload_n (x := l0) D_369_0 rfl ?_
  refine mjr_aload_n (x := l1) D_369_1 rfl ?_
  refine mjq_scI (As := [.ref l1]) (rest := [.int l0]) D_369_2 mr_19_48 V_370 rfl rfl rfl hR (Nat.le_refl _) h1 h2 h (fun v1 hp2 h => ?_)
  refine mjq_scN (As := [.int l0, .int v1]) (rest := []) D_369_5 mr_19_414 V_360 rfl rfl rfl hR (Nat.le_refl _) h1 h2 h (fun  hp3 h => ?_)
  exact mjq_nret D_369_8 rfl h1 h2 h
noncomputable def f_369 (R : mjR) (a0 : Int32) (a1 : Nat) (hp : mjH) : mjU := b_369_0 R a0 a1 hp
theorem c_369 {R : mjR} {d : Nat} (hR : mjC R d) {a0 : Int32} {a1 : Nat} {hp : mjH} {q : Option Value × mjH} (h : f_369 R a0 a1 hp = some q) : mjM (d + 1) 0 0 369 [.int a0, .ref a1] hp (mjEq q) :=
  mjM_of Ja_369 (Nat.le_of_ble_eq_true rfl) (mjG.fg (lo' := [some (.int a0), some (.ref a1)]) (And.intro rfl (And.intro rfl True.intro)) ((t_369_0 hR (Nat.le_refl 0) (Nat.le_refl 0)) a0 a1 hp q h))
def J_370 : mjI := (⟨"java/lang/StringUTF16", "length", "([B)I"⟩, 19, prog_19_method_6_code, 1, (some .int), 1, true)
theorem Ja_370 : mjMt 370 = some J_370 := by rfl
theorem D_370_0 : decode J_370.2.2.1 0 = .ok (.aload_n 0, 1) := dzq_42 (by decide +kernel)
theorem D_370_1 : decode J_370.2.2.1 1 = .ok (.arraylength, 1) := by decide +kernel
theorem D_370_2 : decode J_370.2.2.1 2 = .ok (.iconst 1, 1) := dzq_4 (by decide +kernel)
theorem D_370_3 : decode J_370.2.2.1 3 = .ok (.ishr, 1) := by decide +kernel
theorem D_370_4 : decode J_370.2.2.1 4 = .ok (.ireturn, 1) := dzq_172 (by decide +kernel)
def P_370_0 (X : mjX) (d C S kc ks : Nat) (k : Nat → mjH → mjU) : Prop := ∀ (l0 : Nat) (hp : mjH) (q : Option Value × mjH), k l0 hp = some q → mjG X d C S J_370 (mjEq q) 0 [some (.ref l0)] [] hp kc ks
noncomputable def b_370_0 (R : mjR) (l0 : Nat) (hp : mjH) : mjU := aN hp l0 (fun v1 => some (some (.int (v1 >>> ((1 : Int32) &&& 31))), hp))
theorem t_370_0 {X : mjX} {d C S kc ks : Nat} {R : mjR} (hR : mjC R d) (h1 : kc ≤ C) (h2 : ks ≤ S) : P_370_0 X (d + 1) C S kc ks (b_370_0 R) := by
  intro l0 hp q h
  unfold b_370_0 at h
  refine mjr_aload_n (x := l0) D_370_0 rfl ?_
  refine mjq_aN D_370_1 h (fun v1 h => ?_)
  refine mjq_ic (v := (1 : Int32)) D_370_2 rfl ?_
  refine mjr_ishr D_370_3 ?_
  exact mjq_ret D_370_4 rfl h1 h2 h
noncomputable def f_370 (R : mjR) (a0 : Nat) (hp : mjH) : mjU := b_370_0 R a0 hp
theorem c_370 {R : mjR} {d : Nat} (hR : mjC R d) {a0 : Nat} {hp : mjH} {q : Option Value × mjH} (h : f_370 R a0 hp = some q) : mjM (d + 1) 0 0 370 [.ref a0] hp (mjEq q) :=
  mjM_of Ja_370 (Nat.le_of_ble_eq_true rfl) (mjG.fg (lo' := [some (.ref a0)]) (And.intro rfl True.intro) ((t_370_0 hR (Nat.le_refl 0) (Nat.le_refl 0)) a0 hp q h))
def J_371 : mjI := (⟨"java/lang/StringUTF16", "getChar", "([BI)C"⟩, 19, prog_19_method_5_code, 2, (some .char), 2, true)
theorem Ja_371 : mjMt 371 = some J_371 := by rfl
def P_371_0 (X : mjX) (d C S kc ks : Nat) (k : mjH → mjU) : Prop := ∀  (hp : mjH) (q : Option Value × mjH), k  hp = some q → mjG X d C S J_371 (mjEq q) 0 [none, none] [] hp kc ks
noncomputable def b_371_0 (R : mjR)  (hp : mjH) : mjU := none
theorem t_371_0 {X : mjX} {d C S kc ks : Nat} {R : mjR} (hR : mjC R d) (h1 : kc ≤ C) (h2 : ks ≤ S) : P_371_0 X (d + 1) C S kc ks (b_371_0 R) := by
  intro  hp q h
  unfold b_371_0 at h
  exact mj_no h
noncomputable def f_371 (R : mjR) (a0 : Nat) (a1 : Int32) (hp : mjH) : mjU := b_371_0 R  hp
theorem c_371 {R : mjR} {d : Nat} (hR : mjC R d) {a0 : Nat} {a1 : Int32} {hp : mjH} {q : Option Value × mjH} (h : f_371 R a0 a1 hp = some q) : mjM (d + 1) 0 0 371 [.ref a0, .int a1] hp (mjEq q) :=
  mjM_of Ja_371 (Nat.le_of_ble_eq_true rfl) (mjG.fg (lo' := [none, none]) True.intro ((t_371_0 hR (Nat.le_refl 0) (Nat.le_refl 0))  hp q h))
def J_372 : mjI := (⟨"java/lang/StringUTF16", "indexOf", "([BIII)I"⟩, 19, prog_19_method_40_code, 4, (some .int), 4, true)
theorem Ja_372 : mjMt 372 = some J_372 := by rfl
theorem D_372_0 : decode J_372.2.2.1 0 = .ok (.iload_n 2, 1) := dzq_28 (by decide +kernel)
theorem D_372_1 : decode J_372.2.2.1 1 = .ok (.iconst 0, 1) := dzq_3 (by decide +kernel)
theorem D_372_2 : decode J_372.2.2.1 2 = .ok (.invokestatic 224, 3) := dzq_184 (by decide +kernel)
theorem D_372_5 : decode J_372.2.2.1 5 = .ok (.istore_n 2, 1) := dzq_61 (by decide +kernel)
theorem D_372_6 : decode J_372.2.2.1 6 = .ok (.iload_n 3, 1) := dzq_29 (by decide +kernel)
theorem D_372_7 : decode J_372.2.2.1 7 = .ok (.aload_n 0, 1) := dzq_42 (by decide +kernel)
theorem D_372_8 : decode J_372.2.2.1 8 = .ok (.arraylength, 1) := by decide +kernel
theorem D_372_9 : decode J_372.2.2.1 9 = .ok (.iconst 1, 1) := dzq_4 (by decide +kernel)
theorem D_372_10 : decode J_372.2.2.1 10 = .ok (.ishr, 1) := by decide +kernel
theorem D_372_11 : decode J_372.2.2.1 11 = .ok (.invokestatic 183, 3) := dzq_184 (by decide +kernel)
theorem D_372_14 : decode J_372.2.2.1 14 = .ok (.istore_n 3, 1) := dzq_62 (by decide +kernel)
theorem D_372_15 : decode J_372.2.2.1 15 = .ok (.iload_n 2, 1) := dzq_28 (by decide +kernel)
theorem D_372_16 : decode J_372.2.2.1 16 = .ok (.iload_n 3, 1) := dzq_29 (by decide +kernel)
theorem D_372_17 : decode J_372.2.2.1 17 = .ok (.if_icmp .lt 5, 3) := dzq_161 (by decide +kernel)
theorem D_372_20 : decode J_372.2.2.1 20 = .ok (.iconst (-1), 1) := dzq_2 (by decide +kernel)
theorem D_372_21 : decode J_372.2.2.1 21 = .ok (.ireturn, 1) := dzq_172 (by decide +kernel)
theorem D_372_22 : decode J_372.2.2.1 22 = .ok (.iload_n 1, 1) := dzq_27 (by decide +kernel)
theorem D_372_23 : decode J_372.2.2.1 23 = .ok (.ldc 227, 2) := by decide +kernel
theorem D_372_25 : decode J_372.2.2.1 25 = .ok (.if_icmp .ge 11, 3) := dzq_162 (by decide +kernel)
theorem D_372_28 : decode J_372.2.2.1 28 = .ok (.aload_n 0, 1) := dzq_42 (by decide +kernel)
theorem D_372_29 : decode J_372.2.2.1 29 = .ok (.iload_n 1, 1) := dzq_27 (by decide +kernel)
theorem D_372_30 : decode J_372.2.2.1 30 = .ok (.iload_n 2, 1) := dzq_28 (by decide +kernel)
theorem D_372_31 : decode J_372.2.2.1 31 = .ok (.iload_n 3, 1) := dzq_29 (by decide +kernel)
theorem D_372_32 : decode J_372.2.2.1 32 = .ok (.invokestatic 228, 3) := dzq_184 (by decide +kernel)
theorem D_372_35 : decode J_372.2.2.1 35 = .ok (.ireturn, 1) := dzq_172 (by decide +kernel)
theorem D_372_36 : decode J_372.2.2.1 36 = .ok (.aload_n 0, 1) := dzq_42 (by decide +kernel)
theorem D_372_37 : decode J_372.2.2.1 37 = .ok (.iload_n 1, 1) := dzq_27 (by decide +kernel)
theorem D_372_38 : decode J_372.2.2.1 38 = .ok (.iload_n 2, 1) := dzq_28 (by decide +kernel)
theorem D_372_39 : decode J_372.2.2.1 39 = .ok (.iload_n 3, 1) := dzq_29 (by decide +kernel)
theorem D_372_40 : decode J_372.2.2.1 40 = .ok (.invokestatic 232, 3) := dzq_184 (by decide +kernel)
theorem D_372_43 : decode J_372.2.2.1 43 = .ok (.ireturn, 1) := dzq_172 (by decide +kernel)
def P_372_0 (X : mjX) (d C S kc ks : Nat) (k : Nat → Int32 → Int32 → Int32 → mjH → mjU) : Prop := ∀ (l0 : Nat) (l1 : Int32) (l2 : Int32) (l3 : Int32) (hp : mjH) (q : Option Value × mjH), k l0 l1 l2 l3 hp = some q → mjG X d C S J_372 (mjEq q) 0 [some (.ref l0), some (.int l1), some (.int l2), some (.int l3)] [] hp kc ks
noncomputable def b_372_0 (R : mjR) (l0 : Nat) (l1 : Int32) (l2 : Int32) (l3 : Int32) (hp : mjH) : mjU := bI (R 354 [.int l2, .int (0 : Int32)] hp) (fun v1 hp2 => aN hp2 l0 (fun v3 => bI (R 355 [.int l3, .int (v3 >>> ((1 : Int32) &&& 31))] hp2) (fun v4 hp5 => (if v1 < v4 then (if (65536 : Int32) ≤ l1 then bI (R 376 [.ref l0, .int l1, .int v1, .int v4] hp5) (fun v6 hp7 => some (some (.int v6), hp7)) else bI (R 373 [.ref l0, .int l1, .int v1, .int v4] hp5) (fun v8 hp9 => some (some (.int v8), hp9))) else some (some (.int (-1 : Int32)), hp5)))))
theorem t_372_0 {X : mjX} {d C S kc ks : Nat} {R : mjR} (hR : mjC R d) (h1 : kc ≤ C) (h2 : ks ≤ S) : P_372_0 X (d + 1) C S kc ks (b_372_0 R) := by
  intro l0 l1 l2 l3 hp q h
  unfold b_372_0 at h
  refine mjr_iload_n (x := l2) D_372_0 rfl ?_
  refine mjq_ic (v := (0 : Int32)) D_372_1 rfl ?_
  refine mjq_scI (As := [.int l2, .int (0 : Int32)]) (rest := []) D_372_2 mr_19_224 V_354 rfl rfl rfl hR (Nat.le_refl _) h1 h2 h (fun v1 hp2 h => ?_)
  refine mjq_istore_n (lo' := [some (.ref l0), some (.int l1), some (.int v1), some (.int l3)]) D_372_5 (Nat.le_of_ble_eq_true rfl) rfl ?_
  refine mjr_iload_n (x := l3) D_372_6 rfl ?_
  refine mjr_aload_n (x := l0) D_372_7 rfl ?_
  refine mjq_aN D_372_8 h (fun v3 h => ?_)
  refine mjq_ic (v := (1 : Int32)) D_372_9 rfl ?_
  refine mjr_ishr D_372_10 ?_
  refine mjq_scI (As := [.int l3, .int (v3 >>> ((1 : Int32) &&& 31))]) (rest := []) D_372_11 mr_19_183 V_355 rfl rfl rfl hR (Nat.le_refl _) h1 h2 h (fun v4 hp5 h => ?_)
  refine mjq_istore_n (lo' := [some (.ref l0), some (.int l1), some (.int v1), some (.int v4)]) D_372_14 (Nat.le_of_ble_eq_true rfl) rfl ?_
  refine mjr_iload_n (x := v1) D_372_15 rfl ?_
  refine mjr_iload_n (x := v4) D_372_16 rfl ?_
  refine mjq_icmp_lt (tgt := 22) D_372_17 rfl h (fun h => ?_) (fun h => ?_)
  · refine mjr_iload_n (x := l1) D_372_22 rfl ?_
    refine mjr_ldc (v := (65536 : Int32)) D_372_23 (by decide +kernel) ?_
    refine mjq_icmp_ge (tgt := 36) D_372_25 rfl h (fun h => ?_) (fun h => ?_)
    · refine mjr_aload_n (x := l0) D_372_36 rfl ?_
      refine mjr_iload_n (x := l1) D_372_37 rfl ?_
      refine mjr_iload_n (x := v1) D_372_38 rfl ?_
      refine mjr_iload_n (x := v4) D_372_39 rfl ?_
      refine mjq_scI (As := [.ref l0, .int l1, .int v1, .int v4]) (rest := []) D_372_40 mr_19_232 V_376 rfl rfl rfl hR (Nat.le_refl _) h1 h2 h (fun v6 hp7 h => ?_)
      exact mjq_ret D_372_43 rfl h1 h2 h
    · refine mjr_aload_n (x := l0) D_372_28 rfl ?_
      refine mjr_iload_n (x := l1) D_372_29 rfl ?_
      refine mjr_iload_n (x := v1) D_372_30 rfl ?_
      refine mjr_iload_n (x := v4) D_372_31 rfl ?_
      refine mjq_scI (As := [.ref l0, .int l1, .int v1, .int v4]) (rest := []) D_372_32 mr_19_228 V_373 rfl rfl rfl hR (Nat.le_refl _) h1 h2 h (fun v8 hp9 h => ?_)
      exact mjq_ret D_372_35 rfl h1 h2 h
  · refine mjq_ic (v := (-1 : Int32)) D_372_20 rfl ?_
    exact mjq_ret D_372_21 rfl h1 h2 h
noncomputable def f_372 (R : mjR) (a0 : Nat) (a1 : Int32) (a2 : Int32) (a3 : Int32) (hp : mjH) : mjU := b_372_0 R a0 a1 a2 a3 hp
theorem c_372 {R : mjR} {d : Nat} (hR : mjC R d) {a0 : Nat} {a1 : Int32} {a2 : Int32} {a3 : Int32} {hp : mjH} {q : Option Value × mjH} (h : f_372 R a0 a1 a2 a3 hp = some q) : mjM (d + 1) 0 0 372 [.ref a0, .int a1, .int a2, .int a3] hp (mjEq q) :=
  mjM_of Ja_372 (Nat.le_of_ble_eq_true rfl) (mjG.fg (lo' := [some (.ref a0), some (.int a1), some (.int a2), some (.int a3)]) (And.intro rfl (And.intro rfl (And.intro rfl (And.intro rfl True.intro)))) ((t_372_0 hR (Nat.le_refl 0) (Nat.le_refl 0)) a0 a1 a2 a3 hp q h))
def J_373 : mjI := (⟨"java/lang/StringUTF16", "indexOfChar", "([BIII)I"⟩, 19, prog_19_method_47_code, 4, (some .int), 4, true)
theorem Ja_373 : mjMt 373 = some J_373 := by rfl
theorem D_373_0 : decode J_373.2.2.1 0 = .ok (.iload_n 2, 1) := dzq_28 (by decide +kernel)
theorem D_373_1 : decode J_373.2.2.1 1 = .ok (.iload_n 3, 1) := dzq_29 (by decide +kernel)
theorem D_373_2 : decode J_373.2.2.1 2 = .ok (.aload_n 0, 1) := dzq_42 (by decide +kernel)
theorem D_373_3 : decode J_373.2.2.1 3 = .ok (.invokestatic 96, 3) := dzq_184 (by decide +kernel)
theorem D_373_6 : decode J_373.2.2.1 6 = .ok (.aload_n 0, 1) := dzq_42 (by decide +kernel)
theorem D_373_7 : decode J_373.2.2.1 7 = .ok (.iload_n 1, 1) := dzq_27 (by decide +kernel)
theorem D_373_8 : decode J_373.2.2.1 8 = .ok (.iload_n 2, 1) := dzq_28 (by decide +kernel)
theorem D_373_9 : decode J_373.2.2.1 9 = .ok (.iload_n 3, 1) := dzq_29 (by decide +kernel)
theorem D_373_10 : decode J_373.2.2.1 10 = .ok (.invokestatic 244, 3) := dzq_184 (by decide +kernel)
theorem D_373_13 : decode J_373.2.2.1 13 = .ok (.ireturn, 1) := dzq_172 (by decide +kernel)
def P_373_0 (X : mjX) (d C S kc ks : Nat) (k : Nat → Int32 → Int32 → Int32 → mjH → mjU) : Prop := ∀ (l0 : Nat) (l1 : Int32) (l2 : Int32) (l3 : Int32) (hp : mjH) (q : Option Value × mjH), k l0 l1 l2 l3 hp = some q → mjG X d C S J_373 (mjEq q) 0 [some (.ref l0), some (.int l1), some (.int l2), some (.int l3)] [] hp kc ks
noncomputable def b_373_0 (R : mjR) (l0 : Nat) (l1 : Int32) (l2 : Int32) (l3 : Int32) (hp : mjH) : mjU := bN (R 374 [.int l2, .int l3, .ref l0] hp) (fun  hp1 => bI (R 375 [.ref l0, .int l1, .int l2, .int l3] hp1) (fun v2 hp3 => some (some (.int v2), hp3)))
theorem t_373_0 {X : mjX} {d C S kc ks : Nat} {R : mjR} (hR : mjC R d) (h1 : kc ≤ C) (h2 : ks ≤ S) : P_373_0 X (d + 1) C S kc ks (b_373_0 R) := by
  intro l0 l1 l2 l3 hp q h
  unfold b_373_0 at h
  refine mjr_iload_n (x := l2) D_373_0 rfl ?_
  refine mjr_iload_n (x := l3) D_373_1 rfl ?_
  refine mjr_aload_n (x := l0) D_373_2 rfl ?_
  refine mjq_scN (As := [.int l2, .int l3, .ref l0]) (rest := []) D_373_3 mr_19_96 V_374 rfl rfl rfl hR (Nat.le_refl _) h1 h2 h (fun  hp1 h => ?_)
  refine mjr_aload_n (x := l0) D_373_6 rfl ?_
  refine mjr_iload_n (x := l1) D_373_7 rfl ?_
  refine mjr_iload_n (x := l2) D_373_8 rfl ?_
  refine mjr_iload_n (x := l3) D_373_9 rfl ?_
  refine mjq_scI (As := [.ref l0, .int l1, .int l2, .int l3]) (rest := []) D_373_10 mr_19_244 V_375 rfl rfl rfl hR (Nat.le_refl _) h1 h2 h (fun v2 hp3 h => ?_)
  exact mjq_ret D_373_13 rfl h1 h2 h
noncomputable def f_373 (R : mjR) (a0 : Nat) (a1 : Int32) (a2 : Int32) (a3 : Int32) (hp : mjH) : mjU := b_373_0 R a0 a1 a2 a3 hp
theorem c_373 {R : mjR} {d : Nat} (hR : mjC R d) {a0 : Nat} {a1 : Int32} {a2 : Int32} {a3 : Int32} {hp : mjH} {q : Option Value × mjH} (h : f_373 R a0 a1 a2 a3 hp = some q) : mjM (d + 1) 0 0 373 [.ref a0, .int a1, .int a2, .int a3] hp (mjEq q) :=
  mjM_of Ja_373 (Nat.le_of_ble_eq_true rfl) (mjG.fg (lo' := [some (.ref a0), some (.int a1), some (.int a2), some (.int a3)]) (And.intro rfl (And.intro rfl (And.intro rfl (And.intro rfl True.intro)))) ((t_373_0 hR (Nat.le_refl 0) (Nat.le_refl 0)) a0 a1 a2 a3 hp q h))
def J_374 : mjI := (⟨"java/lang/StringUTF16", "checkBoundsBeginEnd", "(II[B)V"⟩, 19, prog_19_method_93_code, 3, none, 3, true)
theorem Ja_374 : mjMt 374 = some J_374 := by rfl
theorem D_374_0 : decode J_374.2.2.1 0 = .ok (.iload_n 0, 1) := dzq_26 (by decide +kernel)
theorem D_374_1 : decode J_374.2.2.1 1 = .ok (.iload_n 1, 1) := dzq_27 (by decide +kernel)
theorem D_374_2 : decode J_374.2.2.1 2 = .ok (.aload_n 2, 1) := dzq_44 (by decide +kernel)
theorem D_374_3 : decode J_374.2.2.1 3 = .ok (.invokestatic 48, 3) := dzq_184 (by decide +kernel)
theorem D_374_6 : decode J_374.2.2.1 6 = .ok (.invokestatic 241, 3) := dzq_184 (by decide +kernel)
theorem D_374_9 : decode J_374.2.2.1 9 = .ok (.return_, 1) := dzq_177 (by decide +kernel)
def P_374_0 (X : mjX) (d C S kc ks : Nat) (k : Int32 → Int32 → Nat → mjH → mjU) : Prop := ∀ (l0 : Int32) (l1 : Int32) (l2 : Nat) (hp : mjH) (q : Option Value × mjH), k l0 l1 l2 hp = some q → mjG X d C S J_374 (mjEq q) 0 [some (.int l0), some (.int l1), some (.ref l2)] [] hp kc ks
noncomputable def b_374_0 (R : mjR) (l0 : Int32) (l1 : Int32) (l2 : Nat) (hp : mjH) : mjU := bI (R 370 [.ref l2] hp) (fun v1 hp2 => bN (R 363 [.int l0, .int l1, .int v1] hp2) (fun  hp3 => some (none, hp3)))
theorem t_374_0 {X : mjX} {d C S kc ks : Nat} {R : mjR} (hR : mjC R d) (h1 : kc ≤ C) (h2 : ks ≤ S) : P_374_0 X (d + 1) C S kc ks (b_374_0 R) := by
  intro l0 l1 l2 hp q h
  unfold b_374_0 at h
  refine mjr_iload_n (x := l0) D_374_0 rfl ?_
  refine mjr_iload_n (x := l1) D_374_1 rfl ?_
  refine mjr_aload_n (x := l2) D_374_2 rfl ?_
  refine mjq_scI (As := [.ref l2]) (rest := [.int l1, .int l0]) D_374_3 mr_19_48 V_370 rfl rfl rfl hR (Nat.le_refl _) h1 h2 h (fun v1 hp2 h => ?_)
  refine mjq_scN (As := [.int l0, .int l1, .int v1]) (rest := []) D_374_6 mr_19_241 V_363 rfl rfl rfl hR (Nat.le_refl _) h1 h2 h (fun  hp3 h => ?_)
  exact mjq_nret D_374_9 rfl h1 h2 h
noncomputable def f_374 (R : mjR) (a0 : Int32) (a1 : Int32) (a2 : Nat) (hp : mjH) : mjU := b_374_0 R a0 a1 a2 hp
theorem c_374 {R : mjR} {d : Nat} (hR : mjC R d) {a0 : Int32} {a1 : Int32} {a2 : Nat} {hp : mjH} {q : Option Value × mjH} (h : f_374 R a0 a1 a2 hp = some q) : mjM (d + 1) 0 0 374 [.int a0, .int a1, .ref a2] hp (mjEq q) :=
  mjM_of Ja_374 (Nat.le_of_ble_eq_true rfl) (mjG.fg (lo' := [some (.int a0), some (.int a1), some (.ref a2)]) (And.intro rfl (And.intro rfl (And.intro rfl True.intro))) ((t_374_0 hR (Nat.le_refl 0) (Nat.le_refl 0)) a0 a1 a2 hp q h))
def J_375 : mjI := (⟨"java/lang/StringUTF16", "indexOfCharUnsafe", "([BIII)I"⟩, 19, prog_19_method_48_code, 5, (some .int), 4, true)
theorem Ja_375 : mjMt 375 = some J_375 := by rfl
theorem D_375_0 : decode J_375.2.2.1 0 = .ok (.iload_n 2, 1) := dzq_28 (by decide +kernel)
theorem D_375_1 : decode J_375.2.2.1 1 = .ok (.istore 4, 2) := dzq_54 (by decide +kernel)
theorem D_375_3 : decode J_375.2.2.1 3 = .ok (.iload 4, 2) := dzq_21 (by decide +kernel)
theorem D_375_5 : decode J_375.2.2.1 5 = .ok (.iload_n 3, 1) := dzq_29 (by decide +kernel)
theorem D_375_6 : decode J_375.2.2.1 6 = .ok (.if_icmp .ge 22, 3) := dzq_162 (by decide +kernel)
theorem D_375_9 : decode J_375.2.2.1 9 = .ok (.aload_n 0, 1) := dzq_42 (by decide +kernel)
theorem D_375_10 : decode J_375.2.2.1 10 = .ok (.iload 4, 2) := dzq_21 (by decide +kernel)
theorem D_375_12 : decode J_375.2.2.1 12 = .ok (.invokestatic 71, 3) := dzq_184 (by decide +kernel)
theorem D_375_15 : decode J_375.2.2.1 15 = .ok (.iload_n 1, 1) := dzq_27 (by decide +kernel)
theorem D_375_16 : decode J_375.2.2.1 16 = .ok (.if_icmp .ne 6, 3) := dzq_160 (by decide +kernel)
theorem D_375_19 : decode J_375.2.2.1 19 = .ok (.iload 4, 2) := dzq_21 (by decide +kernel)
theorem D_375_21 : decode J_375.2.2.1 21 = .ok (.ireturn, 1) := dzq_172 (by decide +kernel)
theorem D_375_22 : decode J_375.2.2.1 22 = .ok (.iinc 4 1, 3) := dzq_132 (by decide +kernel)
theorem D_375_25 : decode J_375.2.2.1 25 = .ok (.goto (-22), 3) := dzq_167 (by decide +kernel)
theorem D_375_28 : decode J_375.2.2.1 28 = .ok (.iconst (-1), 1) := dzq_2 (by decide +kernel)
theorem D_375_29 : decode J_375.2.2.1 29 = .ok (.ireturn, 1) := dzq_172 (by decide +kernel)
def P_375_3 (X : mjX) (d C S kc ks : Nat) (k : Nat → Int32 → Int32 → Int32 → mjH → mjU) : Prop := ∀ (l0 : Nat) (l1 : Int32) (l3 : Int32) (l4 : Int32) (hp : mjH) (q : Option Value × mjH), k l0 l1 l3 l4 hp = some q → mjG X d C S J_375 (mjEq q) 3 [some (.ref l0), some (.int l1), none, some (.int l3), some (.int l4)] [] hp kc ks
def P_375_0 (X : mjX) (d C S kc ks : Nat) (k : Nat → Int32 → Int32 → Int32 → mjH → mjU) : Prop := ∀ (l0 : Nat) (l1 : Int32) (l2 : Int32) (l3 : Int32) (hp : mjH) (q : Option Value × mjH), k l0 l1 l2 l3 hp = some q → mjG X d C S J_375 (mjEq q) 0 [some (.ref l0), some (.int l1), some (.int l2), some (.int l3), none] [] hp kc ks
noncomputable def b_375_3 (R : mjR) (k3 : Nat → Int32 → Int32 → Int32 → mjH → mjU) (l0 : Nat) (l1 : Int32) (l3 : Int32) (l4 : Int32) (hp : mjH) : mjU := (if l3 ≤ l4 then some (some (.int (-1 : Int32)), hp) else bI (R 371 [.ref l0, .int l4] hp) (fun v1 hp2 => (if v1 = l1 then some (some (.int l4), hp2) else k3 l0 l1 l3 (l4 + (1 : Int32)) hp2)))
theorem t_375_3 {X : mjX} {d C S kc ks : Nat} {R : mjR} (hR : mjC R d) (h1 : kc ≤ C) (h2 : ks ≤ S) {k3 : Nat → Int32 → Int32 → Int32 → mjH → mjU} (hk3 : P_375_3 X (d + 1) C S kc ks k3) : P_375_3 X (d + 1) C S kc ks (b_375_3 R k3) := by
  intro l0 l1 l3 l4 hp q h
  unfold b_375_3 at h
  refine mjr_iload (x := l4) D_375_3 rfl ?_
  refine mjr_iload_n (x := l3) D_375_5 rfl ?_
  refine mjq_icmp_ge (tgt := 28) D_375_6 rfl h (fun h => ?_) (fun h => ?_)
  · refine mjq_ic (v := (-1 : Int32)) D_375_28 rfl ?_
    exact mjq_ret D_375_29 rfl h1 h2 h
  · refine mjr_aload_n (x := l0) D_375_9 rfl ?_
    refine mjr_iload (x := l4) D_375_10 rfl ?_
    refine mjq_scI (As := [.ref l0, .int l4]) (rest := []) D_375_12 mr_19_71 V_371 rfl rfl rfl hR (Nat.le_refl _) h1 h2 h (fun v1 hp2 h => ?_)
    refine mjr_iload_n (x := l1) D_375_15 rfl ?_
    refine mjq_icmp_ne (tgt := 22) D_375_16 rfl h (fun h => ?_) (fun h => ?_)
    · refine mjq_iinc (x := l4) (c := (1 : Int32)) (lo' := [some (.ref l0), some (.int l1), none, some (.int l3), some (.int (l4 + (1 : Int32)))]) D_375_22 rfl (Nat.le_of_ble_eq_true rfl) rfl rfl ?_
      refine mjr_goto (tgt := 3) D_375_25 rfl ?_
      exact hk3 _ _ _ _ _ _ h
    · refine mjr_iload (x := l4) D_375_19 rfl ?_
      exact mjq_ret D_375_21 rfl h1 h2 h
noncomputable def L_375_3 (R : mjR) (n : Nat) : Nat → Int32 → Int32 → Int32 → mjH → mjU := Nat.rec (motive := fun _ => Nat → Int32 → Int32 → Int32 → mjH → mjU) (fun _ _ _ _ _ => none) (fun _ self => b_375_3 R self) n
theorem T_375_3 {X : mjX} {d C S kc ks : Nat} {R : mjR} (hR : mjC R d) (h1 : kc ≤ C) (h2 : ks ≤ S) (n : Nat) : P_375_3 X (d + 1) C S kc ks (L_375_3 R n) := by
  induction n with
  | zero => intro _ _ _ _ _ _ h; exact mj_no h
  | succ n ih => exact t_375_3 hR h1 h2 ih
noncomputable def b_375_0 (R : mjR) (l0 : Nat) (l1 : Int32) (l2 : Int32) (l3 : Int32) (hp : mjH) : mjU := L_375_3 R mjN l0 l1 l3 l2 hp
theorem t_375_0 {X : mjX} {d C S kc ks : Nat} {R : mjR} (hR : mjC R d) (h1 : kc ≤ C) (h2 : ks ≤ S) : P_375_0 X (d + 1) C S kc ks (b_375_0 R) := by
  intro l0 l1 l2 l3 hp q h
  unfold b_375_0 at h
  refine mjr_iload_n (x := l2) D_375_0 rfl ?_
  refine mjq_istore (lo' := [some (.ref l0), some (.int l1), some (.int l2), some (.int l3), some (.int l2)]) D_375_1 (Nat.le_of_ble_eq_true rfl) rfl ?_
  exact mjG.fg (lo' := [some (.ref l0), some (.int l1), none, some (.int l3), some (.int l2)]) (And.intro rfl (And.intro rfl (And.intro rfl (And.intro rfl True.intro)))) ((T_375_3 hR h1 h2 mjN) _ _ _ _ _ _ h)
noncomputable def f_375 (R : mjR) (a0 : Nat) (a1 : Int32) (a2 : Int32) (a3 : Int32) (hp : mjH) : mjU := b_375_0 R a0 a1 a2 a3 hp
theorem c_375 {R : mjR} {d : Nat} (hR : mjC R d) {a0 : Nat} {a1 : Int32} {a2 : Int32} {a3 : Int32} {hp : mjH} {q : Option Value × mjH} (h : f_375 R a0 a1 a2 a3 hp = some q) : mjM (d + 1) 0 0 375 [.ref a0, .int a1, .int a2, .int a3] hp (mjEq q) :=
  mjM_of Ja_375 (Nat.le_of_ble_eq_true rfl) (mjG.fg (lo' := [some (.ref a0), some (.int a1), some (.int a2), some (.int a3), none]) (And.intro rfl (And.intro rfl (And.intro rfl (And.intro rfl True.intro)))) ((t_375_0 hR (Nat.le_refl 0) (Nat.le_refl 0)) a0 a1 a2 a3 hp q h))
def J_376 : mjI := (⟨"java/lang/StringUTF16", "indexOfSupplementary", "([BIII)I"⟩, 19, prog_19_method_49_code, 7, (some .int), 4, true)
theorem Ja_376 : mjMt 376 = some J_376 := by rfl
theorem D_376_0 : decode J_376.2.2.1 0 = .ok (.iload_n 1, 1) := dzq_27 (by decide +kernel)
theorem D_376_1 : decode J_376.2.2.1 1 = .ok (.invokestatic 164, 3) := dzq_184 (by decide +kernel)
theorem D_376_4 : decode J_376.2.2.1 4 = .ok (.ifCond .eq 65, 3) := dzq_153 (by decide +kernel)
theorem D_376_7 : decode J_376.2.2.1 7 = .ok (.iload_n 1, 1) := dzq_27 (by decide +kernel)
theorem D_376_8 : decode J_376.2.2.1 8 = .ok (.invokestatic 157, 3) := dzq_184 (by decide +kernel)
theorem D_376_11 : decode J_376.2.2.1 11 = .ok (.istore 4, 2) := dzq_54 (by decide +kernel)
theorem D_376_13 : decode J_376.2.2.1 13 = .ok (.iload_n 1, 1) := dzq_27 (by decide +kernel)
theorem D_376_14 : decode J_376.2.2.1 14 = .ok (.invokestatic 161, 3) := dzq_184 (by decide +kernel)
theorem D_376_17 : decode J_376.2.2.1 17 = .ok (.istore 5, 2) := dzq_54 (by decide +kernel)
theorem D_376_19 : decode J_376.2.2.1 19 = .ok (.iload_n 2, 1) := dzq_28 (by decide +kernel)
theorem D_376_20 : decode J_376.2.2.1 20 = .ok (.iload_n 3, 1) := dzq_29 (by decide +kernel)
theorem D_376_21 : decode J_376.2.2.1 21 = .ok (.aload_n 0, 1) := dzq_42 (by decide +kernel)
theorem D_376_22 : decode J_376.2.2.1 22 = .ok (.invokestatic 96, 3) := dzq_184 (by decide +kernel)
theorem D_376_25 : decode J_376.2.2.1 25 = .ok (.iload_n 2, 1) := dzq_28 (by decide +kernel)
theorem D_376_26 : decode J_376.2.2.1 26 = .ok (.istore 6, 2) := dzq_54 (by decide +kernel)
theorem D_376_28 : decode J_376.2.2.1 28 = .ok (.iload 6, 2) := dzq_21 (by decide +kernel)
theorem D_376_30 : decode J_376.2.2.1 30 = .ok (.iload_n 3, 1) := dzq_29 (by decide +kernel)
theorem D_376_31 : decode J_376.2.2.1 31 = .ok (.iconst 1, 1) := dzq_4 (by decide +kernel)
theorem D_376_32 : decode J_376.2.2.1 32 = .ok (.isub, 1) := dzq_100 (by decide +kernel)
theorem D_376_33 : decode J_376.2.2.1 33 = .ok (.if_icmp .ge 36, 3) := dzq_162 (by decide +kernel)
theorem D_376_36 : decode J_376.2.2.1 36 = .ok (.aload_n 0, 1) := dzq_42 (by decide +kernel)
theorem D_376_37 : decode J_376.2.2.1 37 = .ok (.iload 6, 2) := dzq_21 (by decide +kernel)
theorem D_376_39 : decode J_376.2.2.1 39 = .ok (.invokestatic 71, 3) := dzq_184 (by decide +kernel)
theorem D_376_42 : decode J_376.2.2.1 42 = .ok (.iload 4, 2) := dzq_21 (by decide +kernel)
theorem D_376_44 : decode J_376.2.2.1 44 = .ok (.if_icmp .ne 19, 3) := dzq_160 (by decide +kernel)
theorem D_376_47 : decode J_376.2.2.1 47 = .ok (.aload_n 0, 1) := dzq_42 (by decide +kernel)
theorem D_376_48 : decode J_376.2.2.1 48 = .ok (.iload 6, 2) := dzq_21 (by decide +kernel)
theorem D_376_50 : decode J_376.2.2.1 50 = .ok (.iconst 1, 1) := dzq_4 (by decide +kernel)
theorem D_376_51 : decode J_376.2.2.1 51 = .ok (.iadd, 1) := dzq_96 (by decide +kernel)
theorem D_376_52 : decode J_376.2.2.1 52 = .ok (.invokestatic 71, 3) := dzq_184 (by decide +kernel)
theorem D_376_55 : decode J_376.2.2.1 55 = .ok (.iload 5, 2) := dzq_21 (by decide +kernel)
theorem D_376_57 : decode J_376.2.2.1 57 = .ok (.if_icmp .ne 6, 3) := dzq_160 (by decide +kernel)
theorem D_376_60 : decode J_376.2.2.1 60 = .ok (.iload 6, 2) := dzq_21 (by decide +kernel)
theorem D_376_62 : decode J_376.2.2.1 62 = .ok (.ireturn, 1) := dzq_172 (by decide +kernel)
theorem D_376_63 : decode J_376.2.2.1 63 = .ok (.iinc 6 1, 3) := dzq_132 (by decide +kernel)
theorem D_376_66 : decode J_376.2.2.1 66 = .ok (.goto (-38), 3) := dzq_167 (by decide +kernel)
theorem D_376_69 : decode J_376.2.2.1 69 = .ok (.iconst (-1), 1) := dzq_2 (by decide +kernel)
theorem D_376_70 : decode J_376.2.2.1 70 = .ok (.ireturn, 1) := dzq_172 (by decide +kernel)
def P_376_69 (X : mjX) (d C S kc ks : Nat) (k : mjH → mjU) : Prop := ∀  (hp : mjH) (q : Option Value × mjH), k  hp = some q → mjG X d C S J_376 (mjEq q) 69 [none, none, none, none, none, none, none] [] hp kc ks
def P_376_63 (X : mjX) (d C S kc ks : Nat) (k : Nat → Int32 → Int32 → Int32 → Int32 → mjH → mjU) : Prop := ∀ (l0 : Nat) (l3 : Int32) (l4 : Int32) (l5 : Int32) (l6 : Int32) (hp : mjH) (q : Option Value × mjH), k l0 l3 l4 l5 l6 hp = some q → mjG X d C S J_376 (mjEq q) 63 [some (.ref l0), none, none, some (.int l3), some (.int l4), some (.int l5), some (.int l6)] [] hp kc ks
def P_376_28 (X : mjX) (d C S kc ks : Nat) (k : Nat → Int32 → Int32 → Int32 → Int32 → mjH → mjU) : Prop := ∀ (l0 : Nat) (l3 : Int32) (l4 : Int32) (l5 : Int32) (l6 : Int32) (hp : mjH) (q : Option Value × mjH), k l0 l3 l4 l5 l6 hp = some q → mjG X d C S J_376 (mjEq q) 28 [some (.ref l0), none, none, some (.int l3), some (.int l4), some (.int l5), some (.int l6)] [] hp kc ks
def P_376_0 (X : mjX) (d C S kc ks : Nat) (k : Nat → Int32 → Int32 → Int32 → mjH → mjU) : Prop := ∀ (l0 : Nat) (l1 : Int32) (l2 : Int32) (l3 : Int32) (hp : mjH) (q : Option Value × mjH), k l0 l1 l2 l3 hp = some q → mjG X d C S J_376 (mjEq q) 0 [some (.ref l0), some (.int l1), some (.int l2), some (.int l3), none, none, none] [] hp kc ks
noncomputable def b_376_69 (R : mjR)  (hp : mjH) : mjU := some (some (.int (-1 : Int32)), hp)
theorem t_376_69 {X : mjX} {d C S kc ks : Nat} {R : mjR} (hR : mjC R d) (h1 : kc ≤ C) (h2 : ks ≤ S) : P_376_69 X (d + 1) C S kc ks (b_376_69 R) := by
  intro  hp q h
  unfold b_376_69 at h
  refine mjq_ic (v := (-1 : Int32)) D_376_69 rfl ?_
  exact mjq_ret D_376_70 rfl h1 h2 h
noncomputable def b_376_63 (R : mjR) (k28 : Nat → Int32 → Int32 → Int32 → Int32 → mjH → mjU) (l0 : Nat) (l3 : Int32) (l4 : Int32) (l5 : Int32) (l6 : Int32) (hp : mjH) : mjU := k28 l0 l3 l4 l5 (l6 + (1 : Int32)) hp
theorem t_376_63 {X : mjX} {d C S kc ks : Nat} {R : mjR} (hR : mjC R d) (h1 : kc ≤ C) (h2 : ks ≤ S) {k28 : Nat → Int32 → Int32 → Int32 → Int32 → mjH → mjU} (hk28 : P_376_28 X (d + 1) C S kc ks k28) : P_376_63 X (d + 1) C S kc ks (b_376_63 R k28) := by
  intro l0 l3 l4 l5 l6 hp q h
  unfold b_376_63 at h
  refine mjq_iinc (x := l6) (c := (1 : Int32)) (lo' := [some (.ref l0), none, none, some (.int l3), some (.int l4), some (.int l5), some (.int (l6 + (1 : Int32)))]) D_376_63 rfl (Nat.le_of_ble_eq_true rfl) rfl rfl ?_
  refine mjr_goto (tgt := 28) D_376_66 rfl ?_
  exact hk28 _ _ _ _ _ _ _ h
noncomputable def b_376_28 (R : mjR) (k28 : Nat → Int32 → Int32 → Int32 → Int32 → mjH → mjU) (l0 : Nat) (l3 : Int32) (l4 : Int32) (l5 : Int32) (l6 : Int32) (hp : mjH) : mjU := (if (l3 - (1 : Int32)) ≤ l6 then b_376_69 R hp else bI (R 371 [.ref l0, .int l6] hp) (fun v1 hp2 => (if v1 = l4 then bI (R 371 [.ref l0, .int (l6 + (1 : Int32))] hp2) (fun v3 hp4 => (if v3 = l5 then some (some (.int l6), hp4) else b_376_63 R k28 l0 l3 l4 l5 l6 hp4)) else b_376_63 R k28 l0 l3 l4 l5 l6 hp2)))
theorem t_376_28 {X : mjX} {d C S kc ks : Nat} {R : mjR} (hR : mjC R d) (h1 : kc ≤ C) (h2 : ks ≤ S) {k28 : Nat → Int32 → Int32 → Int32 → Int32 → mjH → mjU} (hk28 : P_376_28 X (d + 1) C S kc ks k28) : P_376_28 X (d + 1) C S kc ks (b_376_28 R k28) := by
  intro l0 l3 l4 l5 l6 hp q h
  unfold b_376_28 at h
  refine mjr_iload (x := l6) D_376_28 rfl ?_
  refine mjr_iload_n (x := l3) D_376_30 rfl ?_
  refine mjq_ic (v := (1 : Int32)) D_376_31 rfl ?_
  refine mjr_isub D_376_32 ?_
  refine mjq_icmp_ge (tgt := 69) D_376_33 rfl h (fun h => ?_) (fun h => ?_)
  · exact mjG.fg (lo' := [none, none, none, none, none, none, none]) True.intro ((t_376_69 hR h1 h2) _ _ h)
  · refine mjr_aload_n (x := l0) D_376_36 rfl ?_
    refine mjr_iload (x := l6) D_376_37 rfl ?_
    refine mjq_scI (As := [.ref l0, .int l6]) (rest := []) D_376_39 mr_19_71 V_371 rfl rfl rfl hR (Nat.le_refl _) h1 h2 h (fun v1 hp2 h => ?_)
    refine mjr_iload (x := l4) D_376_42 rfl ?_
    refine mjq_icmp_ne (tgt := 63) D_376_44 rfl h (fun h => ?_) (fun h => ?_)
    · exact (t_376_63 hR h1 h2 hk28) _ _ _ _ _ _ _ h
    · refine mjr_aload_n (x := l0) D_376_47 rfl ?_
      refine mjr_iload (x := l6) D_376_48 rfl ?_
      refine mjq_ic (v := (1 : Int32)) D_376_50 rfl ?_
      refine mjr_iadd D_376_51 ?_
      refine mjq_scI (As := [.ref l0, .int (l6 + (1 : Int32))]) (rest := []) D_376_52 mr_19_71 V_371 rfl rfl rfl hR (Nat.le_refl _) h1 h2 h (fun v3 hp4 h => ?_)
      refine mjr_iload (x := l5) D_376_55 rfl ?_
      refine mjq_icmp_ne (tgt := 63) D_376_57 rfl h (fun h => ?_) (fun h => ?_)
      · exact (t_376_63 hR h1 h2 hk28) _ _ _ _ _ _ _ h
      · refine mjr_iload (x := l6) D_376_60 rfl ?_
        exact mjq_ret D_376_62 rfl h1 h2 h
noncomputable def L_376_28 (R : mjR) (n : Nat) : Nat → Int32 → Int32 → Int32 → Int32 → mjH → mjU := Nat.rec (motive := fun _ => Nat → Int32 → Int32 → Int32 → Int32 → mjH → mjU) (fun _ _ _ _ _ _ => none) (fun _ self => b_376_28 R self) n
theorem T_376_28 {X : mjX} {d C S kc ks : Nat} {R : mjR} (hR : mjC R d) (h1 : kc ≤ C) (h2 : ks ≤ S) (n : Nat) : P_376_28 X (d + 1) C S kc ks (L_376_28 R n) := by
  induction n with
  | zero => intro _ _ _ _ _ _ _ h; exact mj_no h
  | succ n ih => exact t_376_28 hR h1 h2 ih
noncomputable def b_376_0 (R : mjR) (l0 : Nat) (l1 : Int32) (l2 : Int32) (l3 : Int32) (hp : mjH) : mjU := bI (R 351 [.int l1] hp) (fun v1 hp2 => (if v1 = 0 then b_376_69 R hp2 else bI (R 352 [.int l1] hp2) (fun v3 hp4 => bI (R 353 [.int l1] hp4) (fun v5 hp6 => bN (R 374 [.int l2, .int l3, .ref l0] hp6) (fun  hp7 => L_376_28 R mjN l0 l3 v3 v5 l2 hp7)))))
theorem t_376_0 {X : mjX} {d C S kc ks : Nat} {R : mjR} (hR : mjC R d) (h1 : kc ≤ C) (h2 : ks ≤ S) : P_376_0 X (d + 1) C S kc ks (b_376_0 R) := by
  intro l0 l1 l2 l3 hp q h
  unfold b_376_0 at h
  refine mjr_iload_n (x := l1) D_376_0 rfl ?_
  refine mjq_scI (As := [.int l1]) (rest := []) D_376_1 mr_19_164 V_351 rfl rfl rfl hR (Nat.le_refl _) h1 h2 h (fun v1 hp2 h => ?_)
  refine mjq_if_eq (tgt := 69) D_376_4 rfl h (fun h => ?_) (fun h => ?_)
  · exact mjG.fg (lo' := [none, none, none, none, none, none, none]) True.intro ((t_376_69 hR h1 h2) _ _ h)
  · refine mjr_iload_n (x := l1) D_376_7 rfl ?_
    refine mjq_scI (As := [.int l1]) (rest := []) D_376_8 mr_19_157 V_352 rfl rfl rfl hR (Nat.le_refl _) h1 h2 h (fun v3 hp4 h => ?_)
    refine mjq_istore (lo' := [some (.ref l0), some (.int l1), some (.int l2), some (.int l3), some (.int v3), none, none]) D_376_11 (Nat.le_of_ble_eq_true rfl) rfl ?_
    refine mjr_iload_n (x := l1) D_376_13 rfl ?_
    refine mjq_scI (As := [.int l1]) (rest := []) D_376_14 mr_19_161 V_353 rfl rfl rfl hR (Nat.le_refl _) h1 h2 h (fun v5 hp6 h => ?_)
    refine mjq_istore (lo' := [some (.ref l0), some (.int l1), some (.int l2), some (.int l3), some (.int v3), some (.int v5), none]) D_376_17 (Nat.le_of_ble_eq_true rfl) rfl ?_
    refine mjr_iload_n (x := l2) D_376_19 rfl ?_
    refine mjr_iload_n (x := l3) D_376_20 rfl ?_
    refine mjr_aload_n (x := l0) D_376_21 rfl ?_
    refine mjq_scN (As := [.int l2, .int l3, .ref l0]) (rest := []) D_376_22 mr_19_96 V_374 rfl rfl rfl hR (Nat.le_refl _) h1 h2 h (fun  hp7 h => ?_)
    refine mjr_iload_n (x := l2) D_376_25 rfl ?_
    refine mjq_istore (lo' := [some (.ref l0), some (.int l1), some (.int l2), some (.int l3), some (.int v3), some (.int v5), some (.int l2)]) D_376_26 (Nat.le_of_ble_eq_true rfl) rfl ?_
    exact mjG.fg (lo' := [some (.ref l0), none, none, some (.int l3), some (.int v3), some (.int v5), some (.int l2)]) (And.intro rfl (And.intro rfl (And.intro rfl (And.intro rfl (And.intro rfl True.intro))))) ((T_376_28 hR h1 h2 mjN) _ _ _ _ _ _ _ h)
noncomputable def f_376 (R : mjR) (a0 : Nat) (a1 : Int32) (a2 : Int32) (a3 : Int32) (hp : mjH) : mjU := b_376_0 R a0 a1 a2 a3 hp
theorem c_376 {R : mjR} {d : Nat} (hR : mjC R d) {a0 : Nat} {a1 : Int32} {a2 : Int32} {a3 : Int32} {hp : mjH} {q : Option Value × mjH} (h : f_376 R a0 a1 a2 a3 hp = some q) : mjM (d + 1) 0 0 376 [.ref a0, .int a1, .int a2, .int a3] hp (mjEq q) :=
  mjM_of Ja_376 (Nat.le_of_ble_eq_true rfl) (mjG.fg (lo' := [some (.ref a0), some (.int a1), some (.int a2), some (.int a3), none, none, none]) (And.intro rfl (And.intro rfl (And.intro rfl (And.intro rfl True.intro)))) ((t_376_0 hR (Nat.le_refl 0) (Nat.le_refl 0)) a0 a1 a2 a3 hp q h))
def J_377 : mjI := (⟨"java/util/Arrays", "fill", "([II)V"⟩, 20, prog_21_method_103_code, 4, none, 2, true)
theorem Ja_377 : mjMt 377 = some J_377 := by rfl
theorem D_377_0 : decode J_377.2.2.1 0 = .ok (.iconst 0, 1) := dzq_3 (by decide +kernel)
theorem D_377_1 : decode J_377.2.2.1 1 = .ok (.istore_n 2, 1) := dzq_61 (by decide +kernel)
theorem D_377_2 : decode J_377.2.2.1 2 = .ok (.aload_n 0, 1) := dzq_42 (by decide +kernel)
theorem D_377_3 : decode J_377.2.2.1 3 = .ok (.arraylength, 1) := by decide +kernel
theorem D_377_4 : decode J_377.2.2.1 4 = .ok (.istore_n 3, 1) := dzq_62 (by decide +kernel)
theorem D_377_5 : decode J_377.2.2.1 5 = .ok (.iload_n 2, 1) := dzq_28 (by decide +kernel)
theorem D_377_6 : decode J_377.2.2.1 6 = .ok (.iload_n 3, 1) := dzq_29 (by decide +kernel)
theorem D_377_7 : decode J_377.2.2.1 7 = .ok (.if_icmp .ge 13, 3) := dzq_162 (by decide +kernel)
theorem D_377_10 : decode J_377.2.2.1 10 = .ok (.aload_n 0, 1) := dzq_42 (by decide +kernel)
theorem D_377_11 : decode J_377.2.2.1 11 = .ok (.iload_n 2, 1) := dzq_28 (by decide +kernel)
theorem D_377_12 : decode J_377.2.2.1 12 = .ok (.iload_n 1, 1) := dzq_27 (by decide +kernel)
theorem D_377_13 : decode J_377.2.2.1 13 = .ok (.iastore, 1) := dzq_79 (by decide +kernel)
theorem D_377_14 : decode J_377.2.2.1 14 = .ok (.iinc 2 1, 3) := dzq_132 (by decide +kernel)
theorem D_377_17 : decode J_377.2.2.1 17 = .ok (.goto (-12), 3) := dzq_167 (by decide +kernel)
theorem D_377_20 : decode J_377.2.2.1 20 = .ok (.return_, 1) := dzq_177 (by decide +kernel)
def P_377_5 (X : mjX) (d C S kc ks : Nat) (k : Nat → Int32 → Int32 → Int32 → mjH → mjU) : Prop := ∀ (l0 : Nat) (l1 : Int32) (l2 : Int32) (l3 : Int32) (hp : mjH) (q : Option Value × mjH), k l0 l1 l2 l3 hp = some q → mjG X d C S J_377 (mjEq q) 5 [some (.ref l0), some (.int l1), some (.int l2), some (.int l3)] [] hp kc ks
def P_377_0 (X : mjX) (d C S kc ks : Nat) (k : Nat → Int32 → mjH → mjU) : Prop := ∀ (l0 : Nat) (l1 : Int32) (hp : mjH) (q : Option Value × mjH), k l0 l1 hp = some q → mjG X d C S J_377 (mjEq q) 0 [some (.ref l0), some (.int l1), none, none] [] hp kc ks
noncomputable def b_377_5 (R : mjR) (k5 : Nat → Int32 → Int32 → Int32 → mjH → mjU) (l0 : Nat) (l1 : Int32) (l2 : Int32) (l3 : Int32) (hp : mjH) : mjU := (if l3 ≤ l2 then some (none, hp) else sI hp l0 l2 l1 (fun hp1 => k5 l0 l1 (l2 + (1 : Int32)) l3 hp1))
theorem t_377_5 {X : mjX} {d C S kc ks : Nat} {R : mjR} (hR : mjC R d) (h1 : kc ≤ C) (h2 : ks ≤ S) {k5 : Nat → Int32 → Int32 → Int32 → mjH → mjU} (hk5 : P_377_5 X (d + 1) C S kc ks k5) : P_377_5 X (d + 1) C S kc ks (b_377_5 R k5) := by
  intro l0 l1 l2 l3 hp q h
  unfold b_377_5 at h
  refine mjr_iload_n (x := l2) D_377_5 rfl ?_
  refine mjr_iload_n (x := l3) D_377_6 rfl ?_
  refine mjq_icmp_ge (tgt := 20) D_377_7 rfl h (fun h => ?_) (fun h => ?_)
  · exact mjq_nret D_377_20 rfl h1 h2 h
  · refine mjr_aload_n (x := l0) D_377_10 rfl ?_
    refine mjr_iload_n (x := l2) D_377_11 rfl ?_
    refine mjr_iload_n (x := l1) D_377_12 rfl ?_
    refine mjq_sI D_377_13 h (fun hp1 h => ?_)
    refine mjq_iinc (x := l2) (c := (1 : Int32)) (lo' := [some (.ref l0), some (.int l1), some (.int (l2 + (1 : Int32))), some (.int l3)]) D_377_14 rfl (Nat.le_of_ble_eq_true rfl) rfl rfl ?_
    refine mjr_goto (tgt := 5) D_377_17 rfl ?_
    exact hk5 _ _ _ _ _ _ h
noncomputable def L_377_5 (R : mjR) (n : Nat) : Nat → Int32 → Int32 → Int32 → mjH → mjU := Nat.rec (motive := fun _ => Nat → Int32 → Int32 → Int32 → mjH → mjU) (fun _ _ _ _ _ => none) (fun _ self => b_377_5 R self) n
theorem T_377_5 {X : mjX} {d C S kc ks : Nat} {R : mjR} (hR : mjC R d) (h1 : kc ≤ C) (h2 : ks ≤ S) (n : Nat) : P_377_5 X (d + 1) C S kc ks (L_377_5 R n) := by
  induction n with
  | zero => intro _ _ _ _ _ _ h; exact mj_no h
  | succ n ih => exact t_377_5 hR h1 h2 ih
noncomputable def b_377_0 (R : mjR) (l0 : Nat) (l1 : Int32) (hp : mjH) : mjU := aN hp l0 (fun v1 => L_377_5 R mjN l0 l1 (0 : Int32) v1 hp)
theorem t_377_0 {X : mjX} {d C S kc ks : Nat} {R : mjR} (hR : mjC R d) (h1 : kc ≤ C) (h2 : ks ≤ S) : P_377_0 X (d + 1) C S kc ks (b_377_0 R) := by
  intro l0 l1 hp q h
  unfold b_377_0 at h
  refine mjq_ic (v := (0 : Int32)) D_377_0 rfl ?_
  refine mjq_istore_n (lo' := [some (.ref l0), some (.int l1), some (.int (0 : Int32)), none]) D_377_1 (Nat.le_of_ble_eq_true rfl) rfl ?_
  refine mjr_aload_n (x := l0) D_377_2 rfl ?_
  refine mjq_aN D_377_3 h (fun v1 h => ?_)
  refine mjq_istore_n (lo' := [some (.ref l0), some (.int l1), some (.int (0 : Int32)), some (.int v1)]) D_377_4 (Nat.le_of_ble_eq_true rfl) rfl ?_
  exact (T_377_5 hR h1 h2 mjN) _ _ _ _ _ _ h
noncomputable def f_377 (R : mjR) (a0 : Nat) (a1 : Int32) (hp : mjH) : mjU := b_377_0 R a0 a1 hp
theorem c_377 {R : mjR} {d : Nat} (hR : mjC R d) {a0 : Nat} {a1 : Int32} {hp : mjH} {q : Option Value × mjH} (h : f_377 R a0 a1 hp = some q) : mjM (d + 1) 0 0 377 [.ref a0, .int a1] hp (mjEq q) :=
  mjM_of Ja_377 (Nat.le_of_ble_eq_true rfl) (mjG.fg (lo' := [some (.ref a0), some (.int a1), none, none]) (And.intro rfl (And.intro rfl True.intro)) ((t_377_0 hR (Nat.le_refl 0) (Nat.le_refl 0)) a0 a1 hp q h))
def J_378 : mjI := (⟨"java/util/Arrays", "fill", "([JJ)V"⟩, 20, prog_21_method_101_code, 5, none, 2, true)
theorem Ja_378 : mjMt 378 = some J_378 := by rfl
theorem D_378_0 : decode J_378.2.2.1 0 = .ok (.iconst 0, 1) := dzq_3 (by decide +kernel)
theorem D_378_1 : decode J_378.2.2.1 1 = .ok (.istore_n 3, 1) := dzq_62 (by decide +kernel)
theorem D_378_2 : decode J_378.2.2.1 2 = .ok (.aload_n 0, 1) := dzq_42 (by decide +kernel)
theorem D_378_3 : decode J_378.2.2.1 3 = .ok (.arraylength, 1) := by decide +kernel
theorem D_378_4 : decode J_378.2.2.1 4 = .ok (.istore 4, 2) := dzq_54 (by decide +kernel)
theorem D_378_6 : decode J_378.2.2.1 6 = .ok (.iload_n 3, 1) := dzq_29 (by decide +kernel)
theorem D_378_7 : decode J_378.2.2.1 7 = .ok (.iload 4, 2) := dzq_21 (by decide +kernel)
theorem D_378_9 : decode J_378.2.2.1 9 = .ok (.if_icmp .ge 13, 3) := dzq_162 (by decide +kernel)
theorem D_378_12 : decode J_378.2.2.1 12 = .ok (.aload_n 0, 1) := dzq_42 (by decide +kernel)
theorem D_378_13 : decode J_378.2.2.1 13 = .ok (.iload_n 3, 1) := dzq_29 (by decide +kernel)
theorem D_378_14 : decode J_378.2.2.1 14 = .ok (.lload_n 1, 1) := dzq_31 (by decide +kernel)
theorem D_378_15 : decode J_378.2.2.1 15 = .ok (.lastore, 1) := by decide +kernel
theorem D_378_16 : decode J_378.2.2.1 16 = .ok (.iinc 3 1, 3) := dzq_132 (by decide +kernel)
theorem D_378_19 : decode J_378.2.2.1 19 = .ok (.goto (-13), 3) := dzq_167 (by decide +kernel)
theorem D_378_22 : decode J_378.2.2.1 22 = .ok (.return_, 1) := dzq_177 (by decide +kernel)
def P_378_6 (X : mjX) (d C S kc ks : Nat) (k : Nat → Int64 → Int32 → Int32 → mjH → mjU) : Prop := ∀ (l0 : Nat) (l1 : Int64) (l3 : Int32) (l4 : Int32) (hp : mjH) (q : Option Value × mjH), k l0 l1 l3 l4 hp = some q → mjG X d C S J_378 (mjEq q) 6 [some (.ref l0), some (.long l1), none, some (.int l3), some (.int l4)] [] hp kc ks
def P_378_0 (X : mjX) (d C S kc ks : Nat) (k : Nat → Int64 → mjH → mjU) : Prop := ∀ (l0 : Nat) (l1 : Int64) (hp : mjH) (q : Option Value × mjH), k l0 l1 hp = some q → mjG X d C S J_378 (mjEq q) 0 [some (.ref l0), some (.long l1), none, none, none] [] hp kc ks
noncomputable def b_378_6 (R : mjR) (k6 : Nat → Int64 → Int32 → Int32 → mjH → mjU) (l0 : Nat) (l1 : Int64) (l3 : Int32) (l4 : Int32) (hp : mjH) : mjU := (if l4 ≤ l3 then some (none, hp) else sL hp l0 l3 l1 (fun hp1 => k6 l0 l1 (l3 + (1 : Int32)) l4 hp1))
theorem t_378_6 {X : mjX} {d C S kc ks : Nat} {R : mjR} (hR : mjC R d) (h1 : kc ≤ C) (h2 : ks ≤ S) {k6 : Nat → Int64 → Int32 → Int32 → mjH → mjU} (hk6 : P_378_6 X (d + 1) C S kc ks k6) : P_378_6 X (d + 1) C S kc ks (b_378_6 R k6) := by
  intro l0 l1 l3 l4 hp q h
  unfold b_378_6 at h
  refine mjr_iload_n (x := l3) D_378_6 rfl ?_
  refine mjr_iload (x := l4) D_378_7 rfl ?_
  refine mjq_icmp_ge (tgt := 22) D_378_9 rfl h (fun h => ?_) (fun h => ?_)
  · exact mjq_nret D_378_22 rfl h1 h2 h
  · refine mjr_aload_n (x := l0) D_378_12 rfl ?_
    refine mjr_iload_n (x := l3) D_378_13 rfl ?_
    refine mjr_lload_n (x := l1) D_378_14 rfl ?_
    refine mjq_sL D_378_15 h (fun hp1 h => ?_)
    refine mjq_iinc (x := l3) (c := (1 : Int32)) (lo' := [some (.ref l0), some (.long l1), none, some (.int (l3 + (1 : Int32))), some (.int l4)]) D_378_16 rfl (Nat.le_of_ble_eq_true rfl) rfl rfl ?_
    refine mjr_goto (tgt := 6) D_378_19 rfl ?_
    exact hk6 _ _ _ _ _ _ h
noncomputable def L_378_6 (R : mjR) (n : Nat) : Nat → Int64 → Int32 → Int32 → mjH → mjU := Nat.rec (motive := fun _ => Nat → Int64 → Int32 → Int32 → mjH → mjU) (fun _ _ _ _ _ => none) (fun _ self => b_378_6 R self) n
theorem T_378_6 {X : mjX} {d C S kc ks : Nat} {R : mjR} (hR : mjC R d) (h1 : kc ≤ C) (h2 : ks ≤ S) (n : Nat) : P_378_6 X (d + 1) C S kc ks (L_378_6 R n) := by
  induction n with
  | zero => intro _ _ _ _ _ _ h; exact mj_no h
  | succ n ih => exact t_378_6 hR h1 h2 ih
noncomputable def b_378_0 (R : mjR) (l0 : Nat) (l1 : Int64) (hp : mjH) : mjU := aN hp l0 (fun v1 => L_378_6 R mjN l0 l1 (0 : Int32) v1 hp)
theorem t_378_0 {X : mjX} {d C S kc ks : Nat} {R : mjR} (hR : mjC R d) (h1 : kc ≤ C) (h2 : ks ≤ S) : P_378_0 X (d + 1) C S kc ks (b_378_0 R) := by
  intro l0 l1 hp q h
  unfold b_378_0 at h
  refine mjq_ic (v := (0 : Int32)) D_378_0 rfl ?_
  refine mjq_istore_n (lo' := [some (.ref l0), some (.long l1), none, some (.int (0 : Int32)), none]) D_378_1 (Nat.le_of_ble_eq_true rfl) rfl ?_
  refine mjr_aload_n (x := l0) D_378_2 rfl ?_
  refine mjq_aN D_378_3 h (fun v1 h => ?_)
  refine mjq_istore (lo' := [some (.ref l0), some (.long l1), none, some (.int (0 : Int32)), some (.int v1)]) D_378_4 (Nat.le_of_ble_eq_true rfl) rfl ?_
  exact (T_378_6 hR h1 h2 mjN) _ _ _ _ _ _ h
noncomputable def f_378 (R : mjR) (a0 : Nat) (a1 : Int64) (hp : mjH) : mjU := b_378_0 R a0 a1 hp
theorem c_378 {R : mjR} {d : Nat} (hR : mjC R d) {a0 : Nat} {a1 : Int64} {hp : mjH} {q : Option Value × mjH} (h : f_378 R a0 a1 hp = some q) : mjM (d + 1) 0 0 378 [.ref a0, .long a1] hp (mjEq q) :=
  mjM_of Ja_378 (Nat.le_of_ble_eq_true rfl) (mjG.fg (lo' := [some (.ref a0), some (.long a1), none, none, none]) (And.intro rfl (And.intro rfl True.intro)) ((t_378_0 hR (Nat.le_refl 0) (Nat.le_refl 0)) a0 a1 hp q h))
def J_379 : mjI := (⟨"java/util/Arrays", "fill", "([IIII)V"⟩, 20, prog_21_method_104_code, 5, none, 4, true)
theorem Ja_379 : mjMt 379 = some J_379 := by rfl
theorem D_379_0 : decode J_379.2.2.1 0 = .ok (.aload_n 0, 1) := dzq_42 (by decide +kernel)
theorem D_379_1 : decode J_379.2.2.1 1 = .ok (.arraylength, 1) := by decide +kernel
theorem D_379_2 : decode J_379.2.2.1 2 = .ok (.iload_n 1, 1) := dzq_27 (by decide +kernel)
theorem D_379_3 : decode J_379.2.2.1 3 = .ok (.iload_n 2, 1) := dzq_28 (by decide +kernel)
theorem D_379_4 : decode J_379.2.2.1 4 = .ok (.invokestatic 13, 3) := dzq_184 (by decide +kernel)
theorem D_379_7 : decode J_379.2.2.1 7 = .ok (.iload_n 1, 1) := dzq_27 (by decide +kernel)
theorem D_379_8 : decode J_379.2.2.1 8 = .ok (.istore 4, 2) := dzq_54 (by decide +kernel)
theorem D_379_10 : decode J_379.2.2.1 10 = .ok (.iload 4, 2) := dzq_21 (by decide +kernel)
theorem D_379_12 : decode J_379.2.2.1 12 = .ok (.iload_n 2, 1) := dzq_28 (by decide +kernel)
theorem D_379_13 : decode J_379.2.2.1 13 = .ok (.if_icmp .ge 14, 3) := dzq_162 (by decide +kernel)
theorem D_379_16 : decode J_379.2.2.1 16 = .ok (.aload_n 0, 1) := dzq_42 (by decide +kernel)
theorem D_379_17 : decode J_379.2.2.1 17 = .ok (.iload 4, 2) := dzq_21 (by decide +kernel)
theorem D_379_19 : decode J_379.2.2.1 19 = .ok (.iload_n 3, 1) := dzq_29 (by decide +kernel)
theorem D_379_20 : decode J_379.2.2.1 20 = .ok (.iastore, 1) := dzq_79 (by decide +kernel)
theorem D_379_21 : decode J_379.2.2.1 21 = .ok (.iinc 4 1, 3) := dzq_132 (by decide +kernel)
theorem D_379_24 : decode J_379.2.2.1 24 = .ok (.goto (-14), 3) := dzq_167 (by decide +kernel)
theorem D_379_27 : decode J_379.2.2.1 27 = .ok (.return_, 1) := dzq_177 (by decide +kernel)
def P_379_10 (X : mjX) (d C S kc ks : Nat) (k : Nat → Int32 → Int32 → Int32 → mjH → mjU) : Prop := ∀ (l0 : Nat) (l2 : Int32) (l3 : Int32) (l4 : Int32) (hp : mjH) (q : Option Value × mjH), k l0 l2 l3 l4 hp = some q → mjG X d C S J_379 (mjEq q) 10 [some (.ref l0), none, some (.int l2), some (.int l3), some (.int l4)] [] hp kc ks
def P_379_0 (X : mjX) (d C S kc ks : Nat) (k : Nat → Int32 → Int32 → Int32 → mjH → mjU) : Prop := ∀ (l0 : Nat) (l1 : Int32) (l2 : Int32) (l3 : Int32) (hp : mjH) (q : Option Value × mjH), k l0 l1 l2 l3 hp = some q → mjG X d C S J_379 (mjEq q) 0 [some (.ref l0), some (.int l1), some (.int l2), some (.int l3), none] [] hp kc ks
noncomputable def b_379_10 (R : mjR) (k10 : Nat → Int32 → Int32 → Int32 → mjH → mjU) (l0 : Nat) (l2 : Int32) (l3 : Int32) (l4 : Int32) (hp : mjH) : mjU := (if l2 ≤ l4 then some (none, hp) else sI hp l0 l4 l3 (fun hp1 => k10 l0 l2 l3 (l4 + (1 : Int32)) hp1))
theorem t_379_10 {X : mjX} {d C S kc ks : Nat} {R : mjR} (hR : mjC R d) (h1 : kc ≤ C) (h2 : ks ≤ S) {k10 : Nat → Int32 → Int32 → Int32 → mjH → mjU} (hk10 : P_379_10 X (d + 1) C S kc ks k10) : P_379_10 X (d + 1) C S kc ks (b_379_10 R k10) := by
  intro l0 l2 l3 l4 hp q h
  unfold b_379_10 at h
  refine mjr_iload (x := l4) D_379_10 rfl ?_
  refine mjr_iload_n (x := l2) D_379_12 rfl ?_
  refine mjq_icmp_ge (tgt := 27) D_379_13 rfl h (fun h => ?_) (fun h => ?_)
  · exact mjq_nret D_379_27 rfl h1 h2 h
  · refine mjr_aload_n (x := l0) D_379_16 rfl ?_
    refine mjr_iload (x := l4) D_379_17 rfl ?_
    refine mjr_iload_n (x := l3) D_379_19 rfl ?_
    refine mjq_sI D_379_20 h (fun hp1 h => ?_)
    refine mjq_iinc (x := l4) (c := (1 : Int32)) (lo' := [some (.ref l0), none, some (.int l2), some (.int l3), some (.int (l4 + (1 : Int32)))]) D_379_21 rfl (Nat.le_of_ble_eq_true rfl) rfl rfl ?_
    refine mjr_goto (tgt := 10) D_379_24 rfl ?_
    exact hk10 _ _ _ _ _ _ h
noncomputable def L_379_10 (R : mjR) (n : Nat) : Nat → Int32 → Int32 → Int32 → mjH → mjU := Nat.rec (motive := fun _ => Nat → Int32 → Int32 → Int32 → mjH → mjU) (fun _ _ _ _ _ => none) (fun _ self => b_379_10 R self) n
theorem T_379_10 {X : mjX} {d C S kc ks : Nat} {R : mjR} (hR : mjC R d) (h1 : kc ≤ C) (h2 : ks ≤ S) (n : Nat) : P_379_10 X (d + 1) C S kc ks (L_379_10 R n) := by
  induction n with
  | zero => intro _ _ _ _ _ _ h; exact mj_no h
  | succ n ih => exact t_379_10 hR h1 h2 ih
noncomputable def b_379_0 (R : mjR) (l0 : Nat) (l1 : Int32) (l2 : Int32) (l3 : Int32) (hp : mjH) : mjU := aN hp l0 (fun v1 => bN (R 380 [.int v1, .int l1, .int l2] hp) (fun  hp2 => L_379_10 R mjN l0 l2 l3 l1 hp2))
theorem t_379_0 {X : mjX} {d C S kc ks : Nat} {R : mjR} (hR : mjC R d) (h1 : kc ≤ C) (h2 : ks ≤ S) : P_379_0 X (d + 1) C S kc ks (b_379_0 R) := by
  intro l0 l1 l2 l3 hp q h
  unfold b_379_0 at h
  refine mjr_aload_n (x := l0) D_379_0 rfl ?_
  refine mjq_aN D_379_1 h (fun v1 h => ?_)
  refine mjr_iload_n (x := l1) D_379_2 rfl ?_
  refine mjr_iload_n (x := l2) D_379_3 rfl ?_
  refine mjq_scN (As := [.int v1, .int l1, .int l2]) (rest := []) D_379_4 mr_20_13 V_380 rfl rfl rfl hR (Nat.le_refl _) h1 h2 h (fun  hp2 h => ?_)
  refine mjr_iload_n (x := l1) D_379_7 rfl ?_
  refine mjq_istore (lo' := [some (.ref l0), some (.int l1), some (.int l2), some (.int l3), some (.int l1)]) D_379_8 (Nat.le_of_ble_eq_true rfl) rfl ?_
  exact mjG.fg (lo' := [some (.ref l0), none, some (.int l2), some (.int l3), some (.int l1)]) (And.intro rfl (And.intro rfl (And.intro rfl (And.intro rfl True.intro)))) ((T_379_10 hR h1 h2 mjN) _ _ _ _ _ _ h)
noncomputable def f_379 (R : mjR) (a0 : Nat) (a1 : Int32) (a2 : Int32) (a3 : Int32) (hp : mjH) : mjU := b_379_0 R a0 a1 a2 a3 hp
theorem c_379 {R : mjR} {d : Nat} (hR : mjC R d) {a0 : Nat} {a1 : Int32} {a2 : Int32} {a3 : Int32} {hp : mjH} {q : Option Value × mjH} (h : f_379 R a0 a1 a2 a3 hp = some q) : mjM (d + 1) 0 0 379 [.ref a0, .int a1, .int a2, .int a3] hp (mjEq q) :=
  mjM_of Ja_379 (Nat.le_of_ble_eq_true rfl) (mjG.fg (lo' := [some (.ref a0), some (.int a1), some (.int a2), some (.int a3), none]) (And.intro rfl (And.intro rfl (And.intro rfl (And.intro rfl True.intro)))) ((t_379_0 hR (Nat.le_refl 0) (Nat.le_refl 0)) a0 a1 a2 a3 hp q h))
def J_380 : mjI := (⟨"java/util/Arrays", "rangeCheck", "(III)V"⟩, 20, prog_21_method_30_code, 3, none, 3, true)
theorem Ja_380 : mjMt 380 = some J_380 := by rfl
theorem D_380_0 : decode J_380.2.2.1 0 = .ok (.iload_n 1, 1) := dzq_27 (by decide +kernel)
theorem D_380_1 : decode J_380.2.2.1 1 = .ok (.iload_n 2, 1) := dzq_28 (by decide +kernel)
theorem D_380_2 : decode J_380.2.2.1 2 = .ok (.if_icmp .le 44, 3) := dzq_164 (by decide +kernel)
theorem D_380_46 : decode J_380.2.2.1 46 = .ok (.iload_n 1, 1) := dzq_27 (by decide +kernel)
theorem D_380_47 : decode J_380.2.2.1 47 = .ok (.ifCond .ge 12, 3) := dzq_156 (by decide +kernel)
theorem D_380_59 : decode J_380.2.2.1 59 = .ok (.iload_n 2, 1) := dzq_28 (by decide +kernel)
theorem D_380_60 : decode J_380.2.2.1 60 = .ok (.iload_n 0, 1) := dzq_26 (by decide +kernel)
theorem D_380_61 : decode J_380.2.2.1 61 = .ok (.if_icmp .le 12, 3) := dzq_164 (by decide +kernel)
theorem D_380_73 : decode J_380.2.2.1 73 = .ok (.return_, 1) := dzq_177 (by decide +kernel)
def P_380_0 (X : mjX) (d C S kc ks : Nat) (k : Int32 → Int32 → Int32 → mjH → mjU) : Prop := ∀ (l0 : Int32) (l1 : Int32) (l2 : Int32) (hp : mjH) (q : Option Value × mjH), k l0 l1 l2 hp = some q → mjG X d C S J_380 (mjEq q) 0 [some (.int l0), some (.int l1), some (.int l2)] [] hp kc ks
noncomputable def b_380_0 (R : mjR) (l0 : Int32) (l1 : Int32) (l2 : Int32) (hp : mjH) : mjU := (if l1 ≤ l2 then (if 0 ≤ l1 then (if l2 ≤ l0 then some (none, hp) else none) else none) else none)
theorem t_380_0 {X : mjX} {d C S kc ks : Nat} {R : mjR} (hR : mjC R d) (h1 : kc ≤ C) (h2 : ks ≤ S) : P_380_0 X (d + 1) C S kc ks (b_380_0 R) := by
  intro l0 l1 l2 hp q h
  unfold b_380_0 at h
  refine mjr_iload_n (x := l1) D_380_0 rfl ?_
  refine mjr_iload_n (x := l2) D_380_1 rfl ?_
  refine mjq_icmp_le (tgt := 46) D_380_2 rfl h (fun h => ?_) (fun h => ?_)
  · refine mjr_iload_n (x := l1) D_380_46 rfl ?_
    refine mjq_if_ge (tgt := 59) D_380_47 rfl h (fun h => ?_) (fun h => ?_)
    · refine mjr_iload_n (x := l2) D_380_59 rfl ?_
      refine mjr_iload_n (x := l0) D_380_60 rfl ?_
      refine mjq_icmp_le (tgt := 73) D_380_61 rfl h (fun h => ?_) (fun h => ?_)
      · exact mjq_nret D_380_73 rfl h1 h2 h
      · exact mj_no h
    · exact mj_no h
  · exact mj_no h
noncomputable def f_380 (R : mjR) (a0 : Int32) (a1 : Int32) (a2 : Int32) (hp : mjH) : mjU := b_380_0 R a0 a1 a2 hp
theorem c_380 {R : mjR} {d : Nat} (hR : mjC R d) {a0 : Int32} {a1 : Int32} {a2 : Int32} {hp : mjH} {q : Option Value × mjH} (h : f_380 R a0 a1 a2 hp = some q) : mjM (d + 1) 0 0 380 [.int a0, .int a1, .int a2] hp (mjEq q) :=
  mjM_of Ja_380 (Nat.le_of_ble_eq_true rfl) (mjG.fg (lo' := [some (.int a0), some (.int a1), some (.int a2)]) (And.intro rfl (And.intro rfl (And.intro rfl True.intro))) ((t_380_0 hR (Nat.le_refl 0) (Nat.le_refl 0)) a0 a1 a2 hp q h))
def J_381 : mjI := (⟨"jdk/internal/util/Preconditions", "checkIndex", "(IILjava/util/function/BiFunction;)I"⟩, 21, prog_22_method_11_code, 3, (some .int), 3, true)
theorem Ja_381 : mjMt 381 = some J_381 := by rfl
theorem D_381_0 : decode J_381.2.2.1 0 = .ok (.iload_n 0, 1) := dzq_26 (by decide +kernel)
theorem D_381_1 : decode J_381.2.2.1 1 = .ok (.ifCond .lt 8, 3) := dzq_155 (by decide +kernel)
theorem D_381_4 : decode J_381.2.2.1 4 = .ok (.iload_n 0, 1) := dzq_26 (by decide +kernel)
theorem D_381_5 : decode J_381.2.2.1 5 = .ok (.iload_n 1, 1) := dzq_27 (by decide +kernel)
theorem D_381_6 : decode J_381.2.2.1 6 = .ok (.if_icmp .lt 10, 3) := dzq_161 (by decide +kernel)
theorem D_381_16 : decode J_381.2.2.1 16 = .ok (.iload_n 0, 1) := dzq_26 (by decide +kernel)
theorem D_381_17 : decode J_381.2.2.1 17 = .ok (.ireturn, 1) := dzq_172 (by decide +kernel)
def P_381_0 (X : mjX) (d C S kc ks : Nat) (k : Int32 → Int32 → mjH → mjU) : Prop := ∀ (l0 : Int32) (l1 : Int32) (hp : mjH) (q : Option Value × mjH), k l0 l1 hp = some q → mjG X d C S J_381 (mjEq q) 0 [some (.int l0), some (.int l1), none] [] hp kc ks
noncomputable def b_381_0 (R : mjR) (l0 : Int32) (l1 : Int32) (hp : mjH) : mjU := (if l0 < 0 then none else (if l0 < l1 then some (some (.int l0), hp) else none))
theorem t_381_0 {X : mjX} {d C S kc ks : Nat} {R : mjR} (hR : mjC R d) (h1 : kc ≤ C) (h2 : ks ≤ S) : P_381_0 X (d + 1) C S kc ks (b_381_0 R) := by
  intro l0 l1 hp q h
  unfold b_381_0 at h
  refine mjr_iload_n (x := l0) D_381_0 rfl ?_
  refine mjq_if_lt (tgt := 9) D_381_1 rfl h (fun h => ?_) (fun h => ?_)
  · exact mj_no h
  · refine mjr_iload_n (x := l0) D_381_4 rfl ?_
    refine mjr_iload_n (x := l1) D_381_5 rfl ?_
    refine mjq_icmp_lt (tgt := 16) D_381_6 rfl h (fun h => ?_) (fun h => ?_)
    · refine mjr_iload_n (x := l0) D_381_16 rfl ?_
      exact mjq_ret D_381_17 rfl h1 h2 h
    · exact mj_no h
noncomputable def f_381 (R : mjR) (a0 : Int32) (a1 : Int32) (hp : mjH) : mjU := b_381_0 R a0 a1 hp
theorem c_381 {R : mjR} {d : Nat} (hR : mjC R d) {a0 : Int32} {a1 : Int32} {hp : mjH} {q : Option Value × mjH} (h : f_381 R a0 a1 hp = some q) : mjM (d + 1) 0 0 381 [.int a0, .int a1, .retAddr 0] hp (mjEq q) :=
  mjM_of Ja_381 (Nat.le_of_ble_eq_true rfl) (mjG.fg (lo' := [some (.int a0), some (.int a1), none]) (And.intro rfl (And.intro rfl True.intro)) ((t_381_0 hR (Nat.le_refl 0) (Nat.le_refl 0)) a0 a1 hp q h))
def J_382 : mjI := (⟨"jdk/internal/util/Preconditions", "checkFromToIndex", "(IIILjava/util/function/BiFunction;)I"⟩, 21, prog_22_method_12_code, 4, (some .int), 4, true)
theorem Ja_382 : mjMt 382 = some J_382 := by rfl
theorem D_382_0 : decode J_382.2.2.1 0 = .ok (.iload_n 0, 1) := dzq_26 (by decide +kernel)
theorem D_382_1 : decode J_382.2.2.1 1 = .ok (.ifCond .lt 13, 3) := dzq_155 (by decide +kernel)
theorem D_382_4 : decode J_382.2.2.1 4 = .ok (.iload_n 0, 1) := dzq_26 (by decide +kernel)
theorem D_382_5 : decode J_382.2.2.1 5 = .ok (.iload_n 1, 1) := dzq_27 (by decide +kernel)
theorem D_382_6 : decode J_382.2.2.1 6 = .ok (.if_icmp .gt 8, 3) := dzq_163 (by decide +kernel)
theorem D_382_9 : decode J_382.2.2.1 9 = .ok (.iload_n 1, 1) := dzq_27 (by decide +kernel)
theorem D_382_10 : decode J_382.2.2.1 10 = .ok (.iload_n 2, 1) := dzq_28 (by decide +kernel)
theorem D_382_11 : decode J_382.2.2.1 11 = .ok (.if_icmp .le 11, 3) := dzq_164 (by decide +kernel)
theorem D_382_22 : decode J_382.2.2.1 22 = .ok (.iload_n 0, 1) := dzq_26 (by decide +kernel)
theorem D_382_23 : decode J_382.2.2.1 23 = .ok (.ireturn, 1) := dzq_172 (by decide +kernel)
def P_382_0 (X : mjX) (d C S kc ks : Nat) (k : Int32 → Int32 → Int32 → mjH → mjU) : Prop := ∀ (l0 : Int32) (l1 : Int32) (l2 : Int32) (hp : mjH) (q : Option Value × mjH), k l0 l1 l2 hp = some q → mjG X d C S J_382 (mjEq q) 0 [some (.int l0), some (.int l1), some (.int l2), none] [] hp kc ks
noncomputable def b_382_0 (R : mjR) (l0 : Int32) (l1 : Int32) (l2 : Int32) (hp : mjH) : mjU := (if l0 < 0 then none else (if l1 < l0 then none else (if l1 ≤ l2 then some (some (.int l0), hp) else none)))
theorem t_382_0 {X : mjX} {d C S kc ks : Nat} {R : mjR} (hR : mjC R d) (h1 : kc ≤ C) (h2 : ks ≤ S) : P_382_0 X (d + 1) C S kc ks (b_382_0 R) := by
  intro l0 l1 l2 hp q h
  unfold b_382_0 at h
  refine mjr_iload_n (x := l0) D_382_0 rfl ?_
  refine mjq_if_lt (tgt := 14) D_382_1 rfl h (fun h => ?_) (fun h => ?_)
  · exact mj_no h
  · refine mjr_iload_n (x := l0) D_382_4 rfl ?_
    refine mjr_iload_n (x := l1) D_382_5 rfl ?_
    refine mjq_icmp_gt (tgt := 14) D_382_6 rfl h (fun h => ?_) (fun h => ?_)
    · exact mj_no h
    · refine mjr_iload_n (x := l1) D_382_9 rfl ?_
      refine mjr_iload_n (x := l2) D_382_10 rfl ?_
      refine mjq_icmp_le (tgt := 22) D_382_11 rfl h (fun h => ?_) (fun h => ?_)
      · refine mjr_iload_n (x := l0) D_382_22 rfl ?_
        exact mjq_ret D_382_23 rfl h1 h2 h
      · exact mj_no h
noncomputable def f_382 (R : mjR) (a0 : Int32) (a1 : Int32) (a2 : Int32) (hp : mjH) : mjU := b_382_0 R a0 a1 a2 hp
theorem c_382 {R : mjR} {d : Nat} (hR : mjC R d) {a0 : Int32} {a1 : Int32} {a2 : Int32} {hp : mjH} {q : Option Value × mjH} (h : f_382 R a0 a1 a2 hp = some q) : mjM (d + 1) 0 0 382 [.int a0, .int a1, .int a2, .retAddr 0] hp (mjEq q) :=
  mjM_of Ja_382 (Nat.le_of_ble_eq_true rfl) (mjG.fg (lo' := [some (.int a0), some (.int a1), some (.int a2), none]) (And.intro rfl (And.intro rfl (And.intro rfl True.intro))) ((t_382_0 hR (Nat.le_refl 0) (Nat.le_refl 0)) a0 a1 a2 hp q h))
