def J_120 : mjI := (⟨"OwnerHeap$Program", "fillObjectFields", "()V"⟩, 7, prog_9_method_14_code, 4, none, 0, false)
theorem Ja_120 : mjMt 120 = some J_120 := by rfl
theorem D_120_0 : decode J_120.2.2.1 0 = .ok (.iconst 0, 1) := dzq_3 (by decide +kernel)
theorem D_120_1 : decode J_120.2.2.1 1 = .ok (.istore_n 1, 1) := dzq_60 (by decide +kernel)
theorem D_120_2 : decode J_120.2.2.1 2 = .ok (.iload_n 1, 1) := dzq_27 (by decide +kernel)
theorem D_120_3 : decode J_120.2.2.1 3 = .ok (.aload_n 0, 1) := dzq_42 (by decide +kernel)
theorem D_120_4 : decode J_120.2.2.1 4 = .ok (.getfield 55, 3) := dzq_180 (by decide +kernel)
theorem D_120_7 : decode J_120.2.2.1 7 = .ok (.getfield 109, 3) := dzq_180 (by decide +kernel)
theorem D_120_10 : decode J_120.2.2.1 10 = .ok (.if_icmp .ge 99, 3) := dzq_162 (by decide +kernel)
theorem D_120_13 : decode J_120.2.2.1 13 = .ok (.iconst 0, 1) := dzq_3 (by decide +kernel)
theorem D_120_14 : decode J_120.2.2.1 14 = .ok (.istore_n 2, 1) := dzq_61 (by decide +kernel)
theorem D_120_15 : decode J_120.2.2.1 15 = .ok (.iload_n 2, 1) := dzq_28 (by decide +kernel)
theorem D_120_16 : decode J_120.2.2.1 16 = .ok (.aload_n 0, 1) := dzq_42 (by decide +kernel)
theorem D_120_17 : decode J_120.2.2.1 17 = .ok (.getfield 66, 3) := dzq_180 (by decide +kernel)
theorem D_120_20 : decode J_120.2.2.1 20 = .ok (.if_icmp .ge 83, 3) := dzq_162 (by decide +kernel)
theorem D_120_23 : decode J_120.2.2.1 23 = .ok (.aload_n 0, 1) := dzq_42 (by decide +kernel)
theorem D_120_24 : decode J_120.2.2.1 24 = .ok (.getfield 55, 3) := dzq_180 (by decide +kernel)
theorem D_120_27 : decode J_120.2.2.1 27 = .ok (.getfield 118, 3) := dzq_180 (by decide +kernel)
theorem D_120_30 : decode J_120.2.2.1 30 = .ok (.iload_n 1, 1) := dzq_27 (by decide +kernel)
theorem D_120_31 : decode J_120.2.2.1 31 = .ok (.baload, 1) := dzq_51 (by decide +kernel)
theorem D_120_32 : decode J_120.2.2.1 32 = .ok (.ifCond .ne 71, 3) := dzq_154 (by decide +kernel)
theorem D_120_35 : decode J_120.2.2.1 35 = .ok (.aload_n 0, 1) := dzq_42 (by decide +kernel)
theorem D_120_36 : decode J_120.2.2.1 36 = .ok (.getfield 55, 3) := dzq_180 (by decide +kernel)
theorem D_120_39 : decode J_120.2.2.1 39 = .ok (.getfield 122, 3) := dzq_180 (by decide +kernel)
theorem D_120_42 : decode J_120.2.2.1 42 = .ok (.iload_n 1, 1) := dzq_27 (by decide +kernel)
theorem D_120_43 : decode J_120.2.2.1 43 = .ok (.iaload, 1) := dzq_46 (by decide +kernel)
theorem D_120_44 : decode J_120.2.2.1 44 = .ok (.ifCond .lt 59, 3) := dzq_155 (by decide +kernel)
theorem D_120_47 : decode J_120.2.2.1 47 = .ok (.aload_n 0, 1) := dzq_42 (by decide +kernel)
theorem D_120_48 : decode J_120.2.2.1 48 = .ok (.iload_n 2, 1) := dzq_28 (by decide +kernel)
theorem D_120_49 : decode J_120.2.2.1 49 = .ok (.aload_n 0, 1) := dzq_42 (by decide +kernel)
theorem D_120_50 : decode J_120.2.2.1 50 = .ok (.getfield 55, 3) := dzq_180 (by decide +kernel)
theorem D_120_53 : decode J_120.2.2.1 53 = .ok (.getfield 112, 3) := dzq_180 (by decide +kernel)
theorem D_120_56 : decode J_120.2.2.1 56 = .ok (.iload_n 1, 1) := dzq_27 (by decide +kernel)
theorem D_120_57 : decode J_120.2.2.1 57 = .ok (.iaload, 1) := dzq_46 (by decide +kernel)
theorem D_120_58 : decode J_120.2.2.1 58 = .ok (.invokevirtual 106, 3) := dzq_182 (by decide +kernel)
theorem D_120_61 : decode J_120.2.2.1 61 = .ok (.ifCond .lt 36, 3) := dzq_155 (by decide +kernel)
theorem D_120_64 : decode J_120.2.2.1 64 = .ok (.aload_n 0, 1) := dzq_42 (by decide +kernel)
theorem D_120_65 : decode J_120.2.2.1 65 = .ok (.getfield 55, 3) := dzq_180 (by decide +kernel)
theorem D_120_68 : decode J_120.2.2.1 68 = .ok (.getfield 115, 3) := dzq_180 (by decide +kernel)
theorem D_120_71 : decode J_120.2.2.1 71 = .ok (.iload_n 1, 1) := dzq_27 (by decide +kernel)
theorem D_120_72 : decode J_120.2.2.1 72 = .ok (.iaload, 1) := dzq_46 (by decide +kernel)
theorem D_120_73 : decode J_120.2.2.1 73 = .ok (.istore_n 3, 1) := dzq_62 (by decide +kernel)
theorem D_120_74 : decode J_120.2.2.1 74 = .ok (.aload_n 0, 1) := dzq_42 (by decide +kernel)
theorem D_120_75 : decode J_120.2.2.1 75 = .ok (.getfield 48, 3) := dzq_180 (by decide +kernel)
theorem D_120_78 : decode J_120.2.2.1 78 = .ok (.iload_n 2, 1) := dzq_28 (by decide +kernel)
theorem D_120_79 : decode J_120.2.2.1 79 = .ok (.bipush 6, 2) := dzq_16 (by decide +kernel)
theorem D_120_81 : decode J_120.2.2.1 81 = .ok (.imul, 1) := dzq_104 (by decide +kernel)
theorem D_120_82 : decode J_120.2.2.1 82 = .ok (.iload_n 3, 1) := dzq_29 (by decide +kernel)
theorem D_120_83 : decode J_120.2.2.1 83 = .ok (.bipush 64, 2) := dzq_16 (by decide +kernel)
theorem D_120_85 : decode J_120.2.2.1 85 = .ok (.idiv, 1) := by decide +kernel
theorem D_120_86 : decode J_120.2.2.1 86 = .ok (.iadd, 1) := dzq_96 (by decide +kernel)
theorem D_120_87 : decode J_120.2.2.1 87 = .ok (.dup2, 1) := by decide +kernel
theorem D_120_88 : decode J_120.2.2.1 88 = .ok (.laload, 1) := dzq_47 (by decide +kernel)
theorem D_120_89 : decode J_120.2.2.1 89 = .ok (.lconst 1, 1) := by decide +kernel
theorem D_120_90 : decode J_120.2.2.1 90 = .ok (.iload_n 3, 1) := dzq_29 (by decide +kernel)
theorem D_120_91 : decode J_120.2.2.1 91 = .ok (.bipush 64, 2) := dzq_16 (by decide +kernel)
theorem D_120_93 : decode J_120.2.2.1 93 = .ok (.irem, 1) := by decide +kernel
theorem D_120_94 : decode J_120.2.2.1 94 = .ok (.lshl, 1) := by decide +kernel
theorem D_120_95 : decode J_120.2.2.1 95 = .ok (.lor, 1) := by decide +kernel
theorem D_120_96 : decode J_120.2.2.1 96 = .ok (.lastore, 1) := by decide +kernel
theorem D_120_97 : decode J_120.2.2.1 97 = .ok (.iinc 2 1, 3) := dzq_132 (by decide +kernel)
theorem D_120_100 : decode J_120.2.2.1 100 = .ok (.goto (-85), 3) := dzq_167 (by decide +kernel)
theorem D_120_103 : decode J_120.2.2.1 103 = .ok (.iinc 1 1, 3) := dzq_132 (by decide +kernel)
theorem D_120_106 : decode J_120.2.2.1 106 = .ok (.goto (-104), 3) := dzq_167 (by decide +kernel)
theorem D_120_109 : decode J_120.2.2.1 109 = .ok (.return_, 1) := dzq_177 (by decide +kernel)
def P_120_103 (X : mjX) (d C S kc ks : Nat) (k : Nat → Int32 → mjH → mjU) : Prop := ∀ (l0 : Nat) (l1 : Int32) (hp : mjH) (q : Option Value × mjH), k l0 l1 hp = some q → mjG X d C S J_120 (mjEq q) 103 [some (.ref l0), some (.int l1), none, none] [] hp kc ks
def P_120_97 (X : mjX) (d C S kc ks : Nat) (k : Nat → Int32 → Int32 → mjH → mjU) : Prop := ∀ (l0 : Nat) (l1 : Int32) (l2 : Int32) (hp : mjH) (q : Option Value × mjH), k l0 l1 l2 hp = some q → mjG X d C S J_120 (mjEq q) 97 [some (.ref l0), some (.int l1), some (.int l2), none] [] hp kc ks
def P_120_15 (X : mjX) (d C S kc ks : Nat) (k : Nat → Int32 → Int32 → mjH → mjU) : Prop := ∀ (l0 : Nat) (l1 : Int32) (l2 : Int32) (hp : mjH) (q : Option Value × mjH), k l0 l1 l2 hp = some q → mjG X d C S J_120 (mjEq q) 15 [some (.ref l0), some (.int l1), some (.int l2), none] [] hp kc ks
def P_120_2 (X : mjX) (d C S kc ks : Nat) (k : Nat → Int32 → mjH → mjU) : Prop := ∀ (l0 : Nat) (l1 : Int32) (hp : mjH) (q : Option Value × mjH), k l0 l1 hp = some q → mjG X d C S J_120 (mjEq q) 2 [some (.ref l0), some (.int l1), none, none] [] hp kc ks
def P_120_0 (X : mjX) (d C S kc ks : Nat) (k : Nat → mjH → mjU) : Prop := ∀ (l0 : Nat) (hp : mjH) (q : Option Value × mjH), k l0 hp = some q → mjG X d C S J_120 (mjEq q) 0 [some (.ref l0), none, none, none] [] hp kc ks
noncomputable def b_120_103 (R : mjR) (k2 : Nat → Int32 → mjH → mjU) (l0 : Nat) (l1 : Int32) (hp : mjH) : mjU := k2 l0 (l1 + (1 : Int32)) hp
theorem t_120_103 {X : mjX} {d C S kc ks : Nat} {R : mjR} (hR : mjC R d) (h1 : kc ≤ C) (h2 : ks ≤ S) {k2 : Nat → Int32 → mjH → mjU} (hk2 : P_120_2 X (d + 1) C S kc ks k2) : P_120_103 X (d + 1) C S kc ks (b_120_103 R k2) := by
  intro l0 l1 hp q h
  unfold b_120_103 at h
  refine mjq_iinc (x := l1) (c := (1 : Int32)) (lo' := [some (.ref l0), some (.int (l1 + (1 : Int32))), none, none]) D_120_103 rfl (Nat.le_of_ble_eq_true rfl) rfl rfl ?_
  refine mjr_goto (tgt := 2) D_120_106 rfl ?_
  exact hk2 _ _ _ _ h
noncomputable def b_120_97 (R : mjR) (k2 : Nat → Int32 → mjH → mjU) (k15 : Nat → Int32 → Int32 → mjH → mjU) (l0 : Nat) (l1 : Int32) (l2 : Int32) (hp : mjH) : mjU := k15 l0 l1 (l2 + (1 : Int32)) hp
theorem t_120_97 {X : mjX} {d C S kc ks : Nat} {R : mjR} (hR : mjC R d) (h1 : kc ≤ C) (h2 : ks ≤ S) {k2 : Nat → Int32 → mjH → mjU} (hk2 : P_120_2 X (d + 1) C S kc ks k2) {k15 : Nat → Int32 → Int32 → mjH → mjU} (hk15 : P_120_15 X (d + 1) C S kc ks k15) : P_120_97 X (d + 1) C S kc ks (b_120_97 R k2 k15) := by
  intro l0 l1 l2 hp q h
  unfold b_120_97 at h
  refine mjq_iinc (x := l2) (c := (1 : Int32)) (lo' := [some (.ref l0), some (.int l1), some (.int (l2 + (1 : Int32))), none]) D_120_97 rfl (Nat.le_of_ble_eq_true rfl) rfl rfl ?_
  refine mjr_goto (tgt := 15) D_120_100 rfl ?_
  exact hk15 _ _ _ _ _ h
noncomputable def b_120_15 (R : mjR) (k2 : Nat → Int32 → mjH → mjU) (k15 : Nat → Int32 → Int32 → mjH → mjU) (l0 : Nat) (l1 : Int32) (l2 : Int32) (hp : mjH) : mjU := gI hp l0 7 0 (fun v1 => (if v1 ≤ l2 then b_120_103 R k2 l0 l1 hp else gR hp l0 7 14 (fun v2 => gR hp v2 6 4 (fun v3 => aB hp v3 l1 (fun v4 => (if v4 = 0 then gR hp l0 7 14 (fun v5 => gR hp v5 6 3 (fun v6 => aI hp v6 l1 (fun v7 => (if v7 < 0 then b_120_103 R k2 l0 l1 hp else gR hp l0 7 14 (fun v8 => gR hp v8 6 2 (fun v9 => aI hp v9 l1 (fun v10 => rV hp l0 7 (bI (R 114 [.ref l0, .int l2, .int v10] hp) (fun v11 hp12 => (if v11 < 0 then b_120_97 R k2 k15 l0 l1 l2 hp12 else gR hp12 l0 7 14 (fun v13 => gR hp12 v13 6 5 (fun v14 => aI hp12 v14 l1 (fun v15 => gR hp12 l0 7 13 (fun v16 => aL hp12 v16 ((l2 * (6 : Int32)) + (v15 / (64 : Int32))) (fun v17 => sL hp12 v16 ((l2 * (6 : Int32)) + (v15 / (64 : Int32))) (v17 ||| ((1 : Int64) <<< ((v15 - v15 / (64 : Int32) * (64 : Int32)).toInt64 &&& 63))) (fun hp18 => b_120_97 R k2 k15 l0 l1 l2 hp18)))))))))))))))) else b_120_103 R k2 l0 l1 hp))))))
theorem t_120_15 {X : mjX} {d C S kc ks : Nat} {R : mjR} (hR : mjC R d) (h1 : kc ≤ C) (h2 : ks ≤ S) {k2 : Nat → Int32 → mjH → mjU} (hk2 : P_120_2 X (d + 1) C S kc ks k2) {k15 : Nat → Int32 → Int32 → mjH → mjU} (hk15 : P_120_15 X (d + 1) C S kc ks k15) : P_120_15 X (d + 1) C S kc ks (b_120_15 R k2 k15) := by
  intro l0 l1 l2 hp q h
  unfold b_120_15 at h
  refine mjr_iload_n (x := l2) D_120_15 rfl ?_
  refine mjr_aload_n (x := l0) D_120_16 rfl ?_
  refine mjq_gI D_120_17 fr_7_66 h (fun v1 h => ?_)
  refine mjq_icmp_ge (tgt := 103) D_120_20 rfl h (fun h => ?_) (fun h => ?_)
  · exact mjG.fg (lo' := [some (.ref l0), some (.int l1), none, none]) (And.intro rfl (And.intro rfl True.intro)) ((t_120_103 hR h1 h2 hk2) _ _ _ _ h)
  · refine mjr_aload_n (x := l0) D_120_23 rfl ?_
    refine mjq_gR D_120_24 fr_7_55 h (fun v2 h => ?_)
    refine mjq_gR D_120_27 fr_7_118 h (fun v3 h => ?_)
    refine mjr_iload_n (x := l1) D_120_30 rfl ?_
    refine mjq_aB D_120_31 h (fun v4 h => ?_)
    refine mjq_if_ne (tgt := 103) D_120_32 rfl h (fun h => ?_) (fun h => ?_)
    · exact mjG.fg (lo' := [some (.ref l0), some (.int l1), none, none]) (And.intro rfl (And.intro rfl True.intro)) ((t_120_103 hR h1 h2 hk2) _ _ _ _ h)
    · refine mjr_aload_n (x := l0) D_120_35 rfl ?_
      refine mjq_gR D_120_36 fr_7_55 h (fun v5 h => ?_)
      refine mjq_gR D_120_39 fr_7_122 h (fun v6 h => ?_)
      refine mjr_iload_n (x := l1) D_120_42 rfl ?_
      refine mjq_aI D_120_43 h (fun v7 h => ?_)
      refine mjq_if_lt (tgt := 103) D_120_44 rfl h (fun h => ?_) (fun h => ?_)
      · exact mjG.fg (lo' := [some (.ref l0), some (.int l1), none, none]) (And.intro rfl (And.intro rfl True.intro)) ((t_120_103 hR h1 h2 hk2) _ _ _ _ h)
      · refine mjr_aload_n (x := l0) D_120_47 rfl ?_
        refine mjr_iload_n (x := l2) D_120_48 rfl ?_
        refine mjr_aload_n (x := l0) D_120_49 rfl ?_
        refine mjq_gR D_120_50 fr_7_55 h (fun v8 h => ?_)
        refine mjq_gR D_120_53 fr_7_112 h (fun v9 h => ?_)
        refine mjr_iload_n (x := l1) D_120_56 rfl ?_
        refine mjq_aI D_120_57 h (fun v10 h => ?_)
        refine mjq_vI (As := [.int l2, .int v10]) (rest := []) D_120_58 mr_7_106 V_114 rfl rfl rfl hR (Nat.le_refl _) h1 h2 h (fun v11 hp12 h => ?_)
        refine mjq_if_lt (tgt := 97) D_120_61 rfl h (fun h => ?_) (fun h => ?_)
        · exact (t_120_97 hR h1 h2 hk2 hk15) _ _ _ _ _ h
        · refine mjr_aload_n (x := l0) D_120_64 rfl ?_
          refine mjq_gR D_120_65 fr_7_55 h (fun v13 h => ?_)
          refine mjq_gR D_120_68 fr_7_115 h (fun v14 h => ?_)
          refine mjr_iload_n (x := l1) D_120_71 rfl ?_
          refine mjq_aI D_120_72 h (fun v15 h => ?_)
          refine mjq_istore_n (lo' := [some (.ref l0), some (.int l1), some (.int l2), some (.int v15)]) D_120_73 (Nat.le_of_ble_eq_true rfl) rfl ?_
          refine mjr_aload_n (x := l0) D_120_74 rfl ?_
          refine mjq_gR D_120_75 fr_7_48 h (fun v16 h => ?_)
          refine mjr_iload_n (x := l2) D_120_78 rfl ?_
          refine mjq_bi (v := (6 : Int32)) D_120_79 rfl ?_
          refine mjr_imul D_120_81 ?_
          refine mjr_iload_n (x := v15) D_120_82 rfl ?_
          refine mjq_bi (v := (64 : Int32)) D_120_83 rfl ?_
          refine mjr_idiv D_120_85 (by decide) ?_
          refine mjr_iadd D_120_86 ?_
          refine mjr_dup2 D_120_87 rfl rfl ?_
          refine mjq_aL D_120_88 h (fun v17 h => ?_)
          refine mjq_lc (v := (1 : Int64)) D_120_89 rfl ?_
          refine mjr_iload_n (x := v15) D_120_90 rfl ?_
          refine mjq_bi (v := (64 : Int32)) D_120_91 rfl ?_
          refine mjr_irem D_120_93 (by decide) ?_
          refine mjr_lshl D_120_94 ?_
          refine mjr_lor D_120_95 ?_
          refine mjq_sL D_120_96 h (fun hp18 h => ?_)
          exact mjG.fg (lo' := [some (.ref l0), some (.int l1), some (.int l2), none]) (And.intro rfl (And.intro rfl (And.intro rfl True.intro))) ((t_120_97 hR h1 h2 hk2 hk15) _ _ _ _ _ h)
noncomputable def L_120_15 (R : mjR) (k2 : Nat → Int32 → mjH → mjU) (n : Nat) : Nat → Int32 → Int32 → mjH → mjU := Nat.rec (motive := fun _ => Nat → Int32 → Int32 → mjH → mjU) (fun _ _ _ _ => none) (fun _ self => b_120_15 R k2 self) n
theorem T_120_15 {X : mjX} {d C S kc ks : Nat} {R : mjR} (hR : mjC R d) (h1 : kc ≤ C) (h2 : ks ≤ S) {k2 : Nat → Int32 → mjH → mjU} (hk2 : P_120_2 X (d + 1) C S kc ks k2) (n : Nat) : P_120_15 X (d + 1) C S kc ks (L_120_15 R k2 n) := by
  induction n with
  | zero => intro _ _ _ _ _ h; exact mj_no h
  | succ n ih => exact t_120_15 hR h1 h2 hk2 ih
noncomputable def b_120_2 (R : mjR) (k2 : Nat → Int32 → mjH → mjU) (l0 : Nat) (l1 : Int32) (hp : mjH) : mjU := gR hp l0 7 14 (fun v1 => gI hp v1 6 0 (fun v2 => (if v2 ≤ l1 then some (none, hp) else L_120_15 R k2 mjN l0 l1 (0 : Int32) hp)))
theorem t_120_2 {X : mjX} {d C S kc ks : Nat} {R : mjR} (hR : mjC R d) (h1 : kc ≤ C) (h2 : ks ≤ S) {k2 : Nat → Int32 → mjH → mjU} (hk2 : P_120_2 X (d + 1) C S kc ks k2) : P_120_2 X (d + 1) C S kc ks (b_120_2 R k2) := by
  intro l0 l1 hp q h
  unfold b_120_2 at h
  refine mjr_iload_n (x := l1) D_120_2 rfl ?_
  refine mjr_aload_n (x := l0) D_120_3 rfl ?_
  refine mjq_gR D_120_4 fr_7_55 h (fun v1 h => ?_)
  refine mjq_gI D_120_7 fr_7_109 h (fun v2 h => ?_)
  refine mjq_icmp_ge (tgt := 109) D_120_10 rfl h (fun h => ?_) (fun h => ?_)
  · exact mjq_nret D_120_109 rfl h1 h2 h
  · refine mjq_ic (v := (0 : Int32)) D_120_13 rfl ?_
    refine mjq_istore_n (lo' := [some (.ref l0), some (.int l1), some (.int (0 : Int32)), none]) D_120_14 (Nat.le_of_ble_eq_true rfl) rfl ?_
    exact (T_120_15 hR h1 h2 hk2 mjN) _ _ _ _ _ h
noncomputable def L_120_2 (R : mjR) (n : Nat) : Nat → Int32 → mjH → mjU := Nat.rec (motive := fun _ => Nat → Int32 → mjH → mjU) (fun _ _ _ => none) (fun _ self => b_120_2 R self) n
theorem T_120_2 {X : mjX} {d C S kc ks : Nat} {R : mjR} (hR : mjC R d) (h1 : kc ≤ C) (h2 : ks ≤ S) (n : Nat) : P_120_2 X (d + 1) C S kc ks (L_120_2 R n) := by
  induction n with
  | zero => intro _ _ _ _ h; exact mj_no h
  | succ n ih => exact t_120_2 hR h1 h2 ih
noncomputable def b_120_0 (R : mjR) (l0 : Nat) (hp : mjH) : mjU := L_120_2 R mjN l0 (0 : Int32) hp
theorem t_120_0 {X : mjX} {d C S kc ks : Nat} {R : mjR} (hR : mjC R d) (h1 : kc ≤ C) (h2 : ks ≤ S) : P_120_0 X (d + 1) C S kc ks (b_120_0 R) := by
  intro l0 hp q h
  unfold b_120_0 at h
  refine mjq_ic (v := (0 : Int32)) D_120_0 rfl ?_
  refine mjq_istore_n (lo' := [some (.ref l0), some (.int (0 : Int32)), none, none]) D_120_1 (Nat.le_of_ble_eq_true rfl) rfl ?_
  exact (T_120_2 hR h1 h2 mjN) _ _ _ _ h
noncomputable def f_120 (R : mjR) (a0 : Nat) (hp : mjH) : mjU := b_120_0 R a0 hp
theorem c_120 {R : mjR} {d : Nat} (hR : mjC R d) {a0 : Nat} {hp : mjH} {q : Option Value × mjH} (h : f_120 R a0 hp = some q) : mjM (d + 1) 0 0 120 [.ref a0] hp (mjEq q) :=
  mjM_of Ja_120 (Nat.le_of_ble_eq_true rfl) (mjG.fg (lo' := [some (.ref a0), none, none, none]) (And.intro rfl True.intro) ((t_120_0 hR (Nat.le_refl 0) (Nat.le_refl 0)) a0 hp q h))
def J_121 : mjI := (⟨"OwnerHeap$Program", "memberNamed", "(IJZ)I"⟩, 7, prog_9_method_24_code, 8, (some .int), 3, false)
theorem Ja_121 : mjMt 121 = some J_121 := by rfl
theorem D_121_0 : decode J_121.2.2.1 0 = .ok (.iload_n 1, 1) := dzq_27 (by decide +kernel)
theorem D_121_1 : decode J_121.2.2.1 1 = .ok (.istore 5, 2) := dzq_54 (by decide +kernel)
theorem D_121_3 : decode J_121.2.2.1 3 = .ok (.iconst 0, 1) := dzq_3 (by decide +kernel)
theorem D_121_4 : decode J_121.2.2.1 4 = .ok (.istore 6, 2) := dzq_54 (by decide +kernel)
theorem D_121_6 : decode J_121.2.2.1 6 = .ok (.iload 6, 2) := dzq_21 (by decide +kernel)
theorem D_121_8 : decode J_121.2.2.1 8 = .ok (.bipush 16, 2) := dzq_16 (by decide +kernel)
theorem D_121_10 : decode J_121.2.2.1 10 = .ok (.if_icmp .ge 56, 3) := dzq_162 (by decide +kernel)
theorem D_121_13 : decode J_121.2.2.1 13 = .ok (.iload 5, 2) := dzq_21 (by decide +kernel)
theorem D_121_15 : decode J_121.2.2.1 15 = .ok (.iconst (-1), 1) := dzq_2 (by decide +kernel)
theorem D_121_16 : decode J_121.2.2.1 16 = .ok (.if_icmp .eq 50, 3) := dzq_159 (by decide +kernel)
theorem D_121_19 : decode J_121.2.2.1 19 = .ok (.aload_n 0, 1) := dzq_42 (by decide +kernel)
theorem D_121_20 : decode J_121.2.2.1 20 = .ok (.iload 5, 2) := dzq_21 (by decide +kernel)
theorem D_121_22 : decode J_121.2.2.1 22 = .ok (.lload_n 2, 1) := dzq_32 (by decide +kernel)
theorem D_121_23 : decode J_121.2.2.1 23 = .ok (.invokevirtual 140, 3) := dzq_182 (by decide +kernel)
theorem D_121_26 : decode J_121.2.2.1 26 = .ok (.istore 7, 2) := dzq_54 (by decide +kernel)
theorem D_121_28 : decode J_121.2.2.1 28 = .ok (.iload 7, 2) := dzq_21 (by decide +kernel)
theorem D_121_30 : decode J_121.2.2.1 30 = .ok (.iconst (-1), 1) := dzq_2 (by decide +kernel)
theorem D_121_31 : decode J_121.2.2.1 31 = .ok (.if_icmp .eq 21, 3) := dzq_159 (by decide +kernel)
theorem D_121_34 : decode J_121.2.2.1 34 = .ok (.aload_n 0, 1) := dzq_42 (by decide +kernel)
theorem D_121_35 : decode J_121.2.2.1 35 = .ok (.getfield 55, 3) := dzq_180 (by decide +kernel)
theorem D_121_38 : decode J_121.2.2.1 38 = .ok (.getfield 118, 3) := dzq_180 (by decide +kernel)
theorem D_121_41 : decode J_121.2.2.1 41 = .ok (.iload 7, 2) := dzq_21 (by decide +kernel)
theorem D_121_43 : decode J_121.2.2.1 43 = .ok (.baload, 1) := dzq_51 (by decide +kernel)
theorem D_121_44 : decode J_121.2.2.1 44 = .ok (.iload 4, 2) := dzq_21 (by decide +kernel)
theorem D_121_46 : decode J_121.2.2.1 46 = .ok (.if_icmp .ne 6, 3) := dzq_160 (by decide +kernel)
theorem D_121_49 : decode J_121.2.2.1 49 = .ok (.iload 7, 2) := dzq_21 (by decide +kernel)
theorem D_121_51 : decode J_121.2.2.1 51 = .ok (.ireturn, 1) := dzq_172 (by decide +kernel)
theorem D_121_52 : decode J_121.2.2.1 52 = .ok (.aload_n 0, 1) := dzq_42 (by decide +kernel)
theorem D_121_53 : decode J_121.2.2.1 53 = .ok (.iload 5, 2) := dzq_21 (by decide +kernel)
theorem D_121_55 : decode J_121.2.2.1 55 = .ok (.invokevirtual 144, 3) := dzq_182 (by decide +kernel)
theorem D_121_58 : decode J_121.2.2.1 58 = .ok (.istore 5, 2) := dzq_54 (by decide +kernel)
theorem D_121_60 : decode J_121.2.2.1 60 = .ok (.iinc 6 1, 3) := dzq_132 (by decide +kernel)
theorem D_121_63 : decode J_121.2.2.1 63 = .ok (.goto (-57), 3) := dzq_167 (by decide +kernel)
theorem D_121_66 : decode J_121.2.2.1 66 = .ok (.iconst (-1), 1) := dzq_2 (by decide +kernel)
theorem D_121_67 : decode J_121.2.2.1 67 = .ok (.ireturn, 1) := dzq_172 (by decide +kernel)
def P_121_66 (X : mjX) (d C S kc ks : Nat) (k : mjH → mjU) : Prop := ∀  (hp : mjH) (q : Option Value × mjH), k  hp = some q → mjG X d C S J_121 (mjEq q) 66 [none, none, none, none, none, none, none, none] [] hp kc ks
def P_121_52 (X : mjX) (d C S kc ks : Nat) (k : Nat → Int64 → Int32 → Int32 → Int32 → mjH → mjU) : Prop := ∀ (l0 : Nat) (l2 : Int64) (l4 : Int32) (l5 : Int32) (l6 : Int32) (hp : mjH) (q : Option Value × mjH), k l0 l2 l4 l5 l6 hp = some q → mjG X d C S J_121 (mjEq q) 52 [some (.ref l0), none, some (.long l2), none, some (.int l4), some (.int l5), some (.int l6), none] [] hp kc ks
def P_121_6 (X : mjX) (d C S kc ks : Nat) (k : Nat → Int64 → Int32 → Int32 → Int32 → mjH → mjU) : Prop := ∀ (l0 : Nat) (l2 : Int64) (l4 : Int32) (l5 : Int32) (l6 : Int32) (hp : mjH) (q : Option Value × mjH), k l0 l2 l4 l5 l6 hp = some q → mjG X d C S J_121 (mjEq q) 6 [some (.ref l0), none, some (.long l2), none, some (.int l4), some (.int l5), some (.int l6), none] [] hp kc ks
def P_121_0 (X : mjX) (d C S kc ks : Nat) (k : Nat → Int32 → Int64 → Int32 → mjH → mjU) : Prop := ∀ (l0 : Nat) (l1 : Int32) (l2 : Int64) (l4 : Int32) (hp : mjH) (q : Option Value × mjH), k l0 l1 l2 l4 hp = some q → mjG X d C S J_121 (mjEq q) 0 [some (.ref l0), some (.int l1), some (.long l2), none, some (.int l4), none, none, none] [] hp kc ks
noncomputable def b_121_66 (R : mjR)  (hp : mjH) : mjU := some (some (.int (-1 : Int32)), hp)
theorem t_121_66 {X : mjX} {d C S kc ks : Nat} {R : mjR} (hR : mjC R d) (h1 : kc ≤ C) (h2 : ks ≤ S) : P_121_66 X (d + 1) C S kc ks (b_121_66 R) := by
  intro  hp q h
  unfold b_121_66 at h
  refine mjq_ic (v := (-1 : Int32)) D_121_66 rfl ?_
  exact mjq_ret D_121_67 rfl h1 h2 h
noncomputable def b_121_52 (R : mjR) (k6 : Nat → Int64 → Int32 → Int32 → Int32 → mjH → mjU) (l0 : Nat) (l2 : Int64) (l4 : Int32) (l5 : Int32) (l6 : Int32) (hp : mjH) : mjU := rV hp l0 7 (bI (R 108 [.ref l0, .int l5] hp) (fun v1 hp2 => k6 l0 l2 l4 v1 (l6 + (1 : Int32)) hp2))
theorem t_121_52 {X : mjX} {d C S kc ks : Nat} {R : mjR} (hR : mjC R d) (h1 : kc ≤ C) (h2 : ks ≤ S) {k6 : Nat → Int64 → Int32 → Int32 → Int32 → mjH → mjU} (hk6 : P_121_6 X (d + 1) C S kc ks k6) : P_121_52 X (d + 1) C S kc ks (b_121_52 R k6) := by
  intro l0 l2 l4 l5 l6 hp q h
  unfold b_121_52 at h
  refine mjr_aload_n (x := l0) D_121_52 rfl ?_
  refine mjr_iload (x := l5) D_121_53 rfl ?_
  refine mjq_vI (As := [.int l5]) (rest := []) D_121_55 mr_7_144 V_108 rfl rfl rfl hR (Nat.le_refl _) h1 h2 h (fun v1 hp2 h => ?_)
  refine mjq_istore (lo' := [some (.ref l0), none, some (.long l2), none, some (.int l4), some (.int v1), some (.int l6), none]) D_121_58 (Nat.le_of_ble_eq_true rfl) rfl ?_
  refine mjq_iinc (x := l6) (c := (1 : Int32)) (lo' := [some (.ref l0), none, some (.long l2), none, some (.int l4), some (.int v1), some (.int (l6 + (1 : Int32))), none]) D_121_60 rfl (Nat.le_of_ble_eq_true rfl) rfl rfl ?_
  refine mjr_goto (tgt := 6) D_121_63 rfl ?_
  exact hk6 _ _ _ _ _ _ _ h
noncomputable def b_121_6 (R : mjR) (k6 : Nat → Int64 → Int32 → Int32 → Int32 → mjH → mjU) (l0 : Nat) (l2 : Int64) (l4 : Int32) (l5 : Int32) (l6 : Int32) (hp : mjH) : mjU := (if (16 : Int32) ≤ l6 then b_121_66 R hp else (if l5 = (-1 : Int32) then b_121_66 R hp else rV hp l0 7 (bI (R 119 [.ref l0, .int l5, .long l2] hp) (fun v1 hp2 => (if v1 = (-1 : Int32) then b_121_52 R k6 l0 l2 l4 l5 l6 hp2 else gR hp2 l0 7 14 (fun v3 => gR hp2 v3 6 4 (fun v4 => aB hp2 v4 v1 (fun v5 => (if v5 = l4 then some (some (.int v1), hp2) else b_121_52 R k6 l0 l2 l4 l5 l6 hp2)))))))))
theorem t_121_6 {X : mjX} {d C S kc ks : Nat} {R : mjR} (hR : mjC R d) (h1 : kc ≤ C) (h2 : ks ≤ S) {k6 : Nat → Int64 → Int32 → Int32 → Int32 → mjH → mjU} (hk6 : P_121_6 X (d + 1) C S kc ks k6) : P_121_6 X (d + 1) C S kc ks (b_121_6 R k6) := by
  intro l0 l2 l4 l5 l6 hp q h
  unfold b_121_6 at h
  refine mjr_iload (x := l6) D_121_6 rfl ?_
  refine mjq_bi (v := (16 : Int32)) D_121_8 rfl ?_
  refine mjq_icmp_ge (tgt := 66) D_121_10 rfl h (fun h => ?_) (fun h => ?_)
  · exact mjG.fg (lo' := [none, none, none, none, none, none, none, none]) True.intro ((t_121_66 hR h1 h2) _ _ h)
  · refine mjr_iload (x := l5) D_121_13 rfl ?_
    refine mjq_ic (v := (-1 : Int32)) D_121_15 rfl ?_
    refine mjq_icmp_eq (tgt := 66) D_121_16 rfl h (fun h => ?_) (fun h => ?_)
    · exact mjG.fg (lo' := [none, none, none, none, none, none, none, none]) True.intro ((t_121_66 hR h1 h2) _ _ h)
    · refine mjr_aload_n (x := l0) D_121_19 rfl ?_
      refine mjr_iload (x := l5) D_121_20 rfl ?_
      refine mjr_lload_n (x := l2) D_121_22 rfl ?_
      refine mjq_vI (As := [.int l5, .long l2]) (rest := []) D_121_23 mr_7_140 V_119 rfl rfl rfl hR (Nat.le_refl _) h1 h2 h (fun v1 hp2 h => ?_)
      refine mjq_istore (lo' := [some (.ref l0), none, some (.long l2), none, some (.int l4), some (.int l5), some (.int l6), some (.int v1)]) D_121_26 (Nat.le_of_ble_eq_true rfl) rfl ?_
      refine mjr_iload (x := v1) D_121_28 rfl ?_
      refine mjq_ic (v := (-1 : Int32)) D_121_30 rfl ?_
      refine mjq_icmp_eq (tgt := 52) D_121_31 rfl h (fun h => ?_) (fun h => ?_)
      · exact mjG.fg (lo' := [some (.ref l0), none, some (.long l2), none, some (.int l4), some (.int l5), some (.int l6), none]) (And.intro rfl (And.intro rfl (And.intro rfl (And.intro rfl (And.intro rfl True.intro))))) ((t_121_52 hR h1 h2 hk6) _ _ _ _ _ _ _ h)
      · refine mjr_aload_n (x := l0) D_121_34 rfl ?_
        refine mjq_gR D_121_35 fr_7_55 h (fun v3 h => ?_)
        refine mjq_gR D_121_38 fr_7_118 h (fun v4 h => ?_)
        refine mjr_iload (x := v1) D_121_41 rfl ?_
        refine mjq_aB D_121_43 h (fun v5 h => ?_)
        refine mjr_iload (x := l4) D_121_44 rfl ?_
        refine mjq_icmp_ne (tgt := 52) D_121_46 rfl h (fun h => ?_) (fun h => ?_)
        · exact mjG.fg (lo' := [some (.ref l0), none, some (.long l2), none, some (.int l4), some (.int l5), some (.int l6), none]) (And.intro rfl (And.intro rfl (And.intro rfl (And.intro rfl (And.intro rfl True.intro))))) ((t_121_52 hR h1 h2 hk6) _ _ _ _ _ _ _ h)
        · refine mjr_iload (x := v1) D_121_49 rfl ?_
          exact mjq_ret D_121_51 rfl h1 h2 h
noncomputable def L_121_6 (R : mjR) (n : Nat) : Nat → Int64 → Int32 → Int32 → Int32 → mjH → mjU := Nat.rec (motive := fun _ => Nat → Int64 → Int32 → Int32 → Int32 → mjH → mjU) (fun _ _ _ _ _ _ => none) (fun _ self => b_121_6 R self) n
theorem T_121_6 {X : mjX} {d C S kc ks : Nat} {R : mjR} (hR : mjC R d) (h1 : kc ≤ C) (h2 : ks ≤ S) (n : Nat) : P_121_6 X (d + 1) C S kc ks (L_121_6 R n) := by
  induction n with
  | zero => intro _ _ _ _ _ _ _ h; exact mj_no h
  | succ n ih => exact t_121_6 hR h1 h2 ih
noncomputable def b_121_0 (R : mjR) (l0 : Nat) (l1 : Int32) (l2 : Int64) (l4 : Int32) (hp : mjH) : mjU := L_121_6 R mjN l0 l2 l4 l1 (0 : Int32) hp
theorem t_121_0 {X : mjX} {d C S kc ks : Nat} {R : mjR} (hR : mjC R d) (h1 : kc ≤ C) (h2 : ks ≤ S) : P_121_0 X (d + 1) C S kc ks (b_121_0 R) := by
  intro l0 l1 l2 l4 hp q h
  unfold b_121_0 at h
  refine mjr_iload_n (x := l1) D_121_0 rfl ?_
  refine mjq_istore (lo' := [some (.ref l0), some (.int l1), some (.long l2), none, some (.int l4), some (.int l1), none, none]) D_121_1 (Nat.le_of_ble_eq_true rfl) rfl ?_
  refine mjq_ic (v := (0 : Int32)) D_121_3 rfl ?_
  refine mjq_istore (lo' := [some (.ref l0), some (.int l1), some (.long l2), none, some (.int l4), some (.int l1), some (.int (0 : Int32)), none]) D_121_4 (Nat.le_of_ble_eq_true rfl) rfl ?_
  exact mjG.fg (lo' := [some (.ref l0), none, some (.long l2), none, some (.int l4), some (.int l1), some (.int (0 : Int32)), none]) (And.intro rfl (And.intro rfl (And.intro rfl (And.intro rfl (And.intro rfl True.intro))))) ((T_121_6 hR h1 h2 mjN) _ _ _ _ _ _ _ h)
noncomputable def f_121 (R : mjR) (a0 : Nat) (a1 : Int32) (a2 : Int64) (a3 : Int32) (hp : mjH) : mjU := b_121_0 R a0 a1 a2 a3 hp
theorem c_121 {R : mjR} {d : Nat} (hR : mjC R d) {a0 : Nat} {a1 : Int32} {a2 : Int64} {a3 : Int32} {hp : mjH} {q : Option Value × mjH} (h : f_121 R a0 a1 a2 a3 hp = some q) : mjM (d + 1) 0 0 121 [.ref a0, .int a1, .long a2, .int a3] hp (mjEq q) :=
  mjM_of Ja_121 (Nat.le_of_ble_eq_true rfl) (mjG.fg (lo' := [some (.ref a0), some (.int a1), some (.long a2), none, some (.int a3), none, none, none]) (And.intro rfl (And.intro rfl (And.intro rfl (And.intro rfl True.intro)))) ((t_121_0 hR (Nat.le_refl 0) (Nat.le_refl 0)) a0 a1 a2 a3 hp q h))
def J_122 : mjI := (⟨"OwnerHeap$Program", "hasThis", "(I)Z"⟩, 7, prog_9_method_7_code, 3, (some .boolean), 1, true)
theorem Ja_122 : mjMt 122 = some J_122 := by rfl
theorem D_122_0 : decode J_122.2.2.1 0 = .ok (.iconst 0, 1) := dzq_3 (by decide +kernel)
theorem D_122_1 : decode J_122.2.2.1 1 = .ok (.istore_n 1, 1) := dzq_60 (by decide +kernel)
theorem D_122_2 : decode J_122.2.2.1 2 = .ok (.iconst 0, 1) := dzq_3 (by decide +kernel)
theorem D_122_3 : decode J_122.2.2.1 3 = .ok (.istore_n 2, 1) := dzq_61 (by decide +kernel)
theorem D_122_4 : decode J_122.2.2.1 4 = .ok (.iload_n 2, 1) := dzq_28 (by decide +kernel)
theorem D_122_5 : decode J_122.2.2.1 5 = .ok (.iconst 5, 1) := dzq_8 (by decide +kernel)
theorem D_122_6 : decode J_122.2.2.1 6 = .ok (.if_icmp .ge 33, 3) := dzq_162 (by decide +kernel)
theorem D_122_9 : decode J_122.2.2.1 9 = .ok (.iload_n 0, 1) := dzq_26 (by decide +kernel)
theorem D_122_10 : decode J_122.2.2.1 10 = .ok (.ifCond .lt 29, 3) := dzq_155 (by decide +kernel)
theorem D_122_13 : decode J_122.2.2.1 13 = .ok (.iload_n 1, 1) := dzq_27 (by decide +kernel)
theorem D_122_14 : decode J_122.2.2.1 14 = .ok (.ifCond .ne 13, 3) := dzq_154 (by decide +kernel)
theorem D_122_17 : decode J_122.2.2.1 17 = .ok (.iload_n 0, 1) := dzq_26 (by decide +kernel)
theorem D_122_18 : decode J_122.2.2.1 18 = .ok (.iload_n 2, 1) := dzq_28 (by decide +kernel)
theorem D_122_19 : decode J_122.2.2.1 19 = .ok (.invokestatic 85, 3) := dzq_184 (by decide +kernel)
theorem D_122_22 : decode J_122.2.2.1 22 = .ok (.bipush 6, 2) := dzq_16 (by decide +kernel)
theorem D_122_24 : decode J_122.2.2.1 24 = .ok (.if_icmp .ne 7, 3) := dzq_160 (by decide +kernel)
theorem D_122_27 : decode J_122.2.2.1 27 = .ok (.iconst 1, 1) := dzq_4 (by decide +kernel)
theorem D_122_28 : decode J_122.2.2.1 28 = .ok (.goto 4, 3) := dzq_167 (by decide +kernel)
theorem D_122_31 : decode J_122.2.2.1 31 = .ok (.iconst 0, 1) := dzq_3 (by decide +kernel)
theorem D_122_32 : decode J_122.2.2.1 32 = .ok (.istore_n 1, 1) := dzq_60 (by decide +kernel)
theorem D_122_33 : decode J_122.2.2.1 33 = .ok (.iinc 2 1, 3) := dzq_132 (by decide +kernel)
theorem D_122_36 : decode J_122.2.2.1 36 = .ok (.goto (-32), 3) := dzq_167 (by decide +kernel)
theorem D_122_39 : decode J_122.2.2.1 39 = .ok (.iload_n 1, 1) := dzq_27 (by decide +kernel)
theorem D_122_40 : decode J_122.2.2.1 40 = .ok (.ireturn, 1) := dzq_172 (by decide +kernel)
def P_122_39 (X : mjX) (d C S kc ks : Nat) (k : Int32 → mjH → mjU) : Prop := ∀ (l1 : Int32) (hp : mjH) (q : Option Value × mjH), k l1 hp = some q → mjG X d C S J_122 (mjEq q) 39 [none, some (.int l1), none] [] hp kc ks
def P_122_32 (X : mjX) (d C S kc ks : Nat) (k : Int32 → Int32 → Int32 → mjH → mjU) : Prop := ∀ (l0 : Int32) (l2 : Int32) (s0 : Int32) (hp : mjH) (q : Option Value × mjH), k l0 l2 s0 hp = some q → mjG X d C S J_122 (mjEq q) 32 [some (.int l0), none, some (.int l2)] [.int s0] hp kc ks
def P_122_27 (X : mjX) (d C S kc ks : Nat) (k : Int32 → Int32 → mjH → mjU) : Prop := ∀ (l0 : Int32) (l2 : Int32) (hp : mjH) (q : Option Value × mjH), k l0 l2 hp = some q → mjG X d C S J_122 (mjEq q) 27 [some (.int l0), none, some (.int l2)] [] hp kc ks
def P_122_4 (X : mjX) (d C S kc ks : Nat) (k : Int32 → Int32 → Int32 → mjH → mjU) : Prop := ∀ (l0 : Int32) (l1 : Int32) (l2 : Int32) (hp : mjH) (q : Option Value × mjH), k l0 l1 l2 hp = some q → mjG X d C S J_122 (mjEq q) 4 [some (.int l0), some (.int l1), some (.int l2)] [] hp kc ks
def P_122_0 (X : mjX) (d C S kc ks : Nat) (k : Int32 → mjH → mjU) : Prop := ∀ (l0 : Int32) (hp : mjH) (q : Option Value × mjH), k l0 hp = some q → mjG X d C S J_122 (mjEq q) 0 [some (.int l0), none, none] [] hp kc ks
noncomputable def b_122_39 (R : mjR) (l1 : Int32) (hp : mjH) : mjU := (if narrow .boolean (.int l1) = .int l1 then some (some (.int l1), hp) else none)
theorem t_122_39 {X : mjX} {d C S kc ks : Nat} {R : mjR} (hR : mjC R d) (h1 : kc ≤ C) (h2 : ks ≤ S) : P_122_39 X (d + 1) C S kc ks (b_122_39 R) := by
  intro l1 hp q h
  unfold b_122_39 at h
  refine mjr_iload_n (x := l1) D_122_39 rfl ?_
  exact mjq_retZ (ty := .boolean) D_122_40 rfl h1 h2 h
noncomputable def b_122_32 (R : mjR) (k4 : Int32 → Int32 → Int32 → mjH → mjU) (l0 : Int32) (l2 : Int32) (s0 : Int32) (hp : mjH) : mjU := k4 l0 s0 (l2 + (1 : Int32)) hp
theorem t_122_32 {X : mjX} {d C S kc ks : Nat} {R : mjR} (hR : mjC R d) (h1 : kc ≤ C) (h2 : ks ≤ S) {k4 : Int32 → Int32 → Int32 → mjH → mjU} (hk4 : P_122_4 X (d + 1) C S kc ks k4) : P_122_32 X (d + 1) C S kc ks (b_122_32 R k4) := by
  intro l0 l2 s0 hp q h
  unfold b_122_32 at h
  refine mjq_istore_n (lo' := [some (.int l0), some (.int s0), some (.int l2)]) D_122_32 (Nat.le_of_ble_eq_true rfl) rfl ?_
  refine mjq_iinc (x := l2) (c := (1 : Int32)) (lo' := [some (.int l0), some (.int s0), some (.int (l2 + (1 : Int32)))]) D_122_33 rfl (Nat.le_of_ble_eq_true rfl) rfl rfl ?_
  refine mjr_goto (tgt := 4) D_122_36 rfl ?_
  exact hk4 _ _ _ _ _ h
noncomputable def b_122_27 (R : mjR) (k4 : Int32 → Int32 → Int32 → mjH → mjU) (l0 : Int32) (l2 : Int32) (hp : mjH) : mjU := b_122_32 R k4 l0 l2 (1 : Int32) hp
theorem t_122_27 {X : mjX} {d C S kc ks : Nat} {R : mjR} (hR : mjC R d) (h1 : kc ≤ C) (h2 : ks ≤ S) {k4 : Int32 → Int32 → Int32 → mjH → mjU} (hk4 : P_122_4 X (d + 1) C S kc ks k4) : P_122_27 X (d + 1) C S kc ks (b_122_27 R k4) := by
  intro l0 l2 hp q h
  unfold b_122_27 at h
  refine mjq_ic (v := (1 : Int32)) D_122_27 rfl ?_
  refine mjr_goto (tgt := 32) D_122_28 rfl ?_
  exact (t_122_32 hR h1 h2 hk4) _ _ _ _ _ h
noncomputable def b_122_4 (R : mjR) (k4 : Int32 → Int32 → Int32 → mjH → mjU) (l0 : Int32) (l1 : Int32) (l2 : Int32) (hp : mjH) : mjU := (if (5 : Int32) ≤ l2 then b_122_39 R l1 hp else (if l0 < 0 then b_122_39 R l1 hp else (if l1 = 0 then bI (R 106 [.int l0, .int l2] hp) (fun v1 hp2 => (if v1 = (6 : Int32) then b_122_27 R k4 l0 l2 hp2 else b_122_32 R k4 l0 l2 (0 : Int32) hp2)) else b_122_27 R k4 l0 l2 hp)))
theorem t_122_4 {X : mjX} {d C S kc ks : Nat} {R : mjR} (hR : mjC R d) (h1 : kc ≤ C) (h2 : ks ≤ S) {k4 : Int32 → Int32 → Int32 → mjH → mjU} (hk4 : P_122_4 X (d + 1) C S kc ks k4) : P_122_4 X (d + 1) C S kc ks (b_122_4 R k4) := by
  intro l0 l1 l2 hp q h
  unfold b_122_4 at h
  refine mjr_iload_n (x := l2) D_122_4 rfl ?_
  refine mjq_ic (v := (5 : Int32)) D_122_5 rfl ?_
  refine mjq_icmp_ge (tgt := 39) D_122_6 rfl h (fun h => ?_) (fun h => ?_)
  · exact mjG.fg (lo' := [none, some (.int l1), none]) (And.intro rfl True.intro) ((t_122_39 hR h1 h2) _ _ _ h)
  · refine mjr_iload_n (x := l0) D_122_9 rfl ?_
    refine mjq_if_lt (tgt := 39) D_122_10 rfl h (fun h => ?_) (fun h => ?_)
    · exact mjG.fg (lo' := [none, some (.int l1), none]) (And.intro rfl True.intro) ((t_122_39 hR h1 h2) _ _ _ h)
    · refine mjr_iload_n (x := l1) D_122_13 rfl ?_
      refine mjq_if_ne (tgt := 27) D_122_14 rfl h (fun h => ?_) (fun h => ?_)
      · exact mjG.fg (lo' := [some (.int l0), none, some (.int l2)]) (And.intro rfl (And.intro rfl True.intro)) ((t_122_27 hR h1 h2 hk4) _ _ _ _ h)
      · refine mjr_iload_n (x := l0) D_122_17 rfl ?_
        refine mjr_iload_n (x := l2) D_122_18 rfl ?_
        refine mjq_scI (As := [.int l0, .int l2]) (rest := []) D_122_19 mr_7_85 V_106 rfl rfl rfl hR (Nat.le_refl _) h1 h2 h (fun v1 hp2 h => ?_)
        refine mjq_bi (v := (6 : Int32)) D_122_22 rfl ?_
        refine mjq_icmp_ne (tgt := 31) D_122_24 rfl h (fun h => ?_) (fun h => ?_)
        · refine mjq_ic (v := (0 : Int32)) D_122_31 rfl ?_
          exact mjG.fg (lo' := [some (.int l0), none, some (.int l2)]) (And.intro rfl (And.intro rfl True.intro)) ((t_122_32 hR h1 h2 hk4) _ _ _ _ _ h)
        · exact mjG.fg (lo' := [some (.int l0), none, some (.int l2)]) (And.intro rfl (And.intro rfl True.intro)) ((t_122_27 hR h1 h2 hk4) _ _ _ _ h)
noncomputable def L_122_4 (R : mjR) (n : Nat) : Int32 → Int32 → Int32 → mjH → mjU := Nat.rec (motive := fun _ => Int32 → Int32 → Int32 → mjH → mjU) (fun _ _ _ _ => none) (fun _ self => b_122_4 R self) n
theorem T_122_4 {X : mjX} {d C S kc ks : Nat} {R : mjR} (hR : mjC R d) (h1 : kc ≤ C) (h2 : ks ≤ S) (n : Nat) : P_122_4 X (d + 1) C S kc ks (L_122_4 R n) := by
  induction n with
  | zero => intro _ _ _ _ _ h; exact mj_no h
  | succ n ih => exact t_122_4 hR h1 h2 ih
noncomputable def b_122_0 (R : mjR) (l0 : Int32) (hp : mjH) : mjU := L_122_4 R mjN l0 (0 : Int32) (0 : Int32) hp
theorem t_122_0 {X : mjX} {d C S kc ks : Nat} {R : mjR} (hR : mjC R d) (h1 : kc ≤ C) (h2 : ks ≤ S) : P_122_0 X (d + 1) C S kc ks (b_122_0 R) := by
  intro l0 hp q h
  unfold b_122_0 at h
  refine mjq_ic (v := (0 : Int32)) D_122_0 rfl ?_
  refine mjq_istore_n (lo' := [some (.int l0), some (.int (0 : Int32)), none]) D_122_1 (Nat.le_of_ble_eq_true rfl) rfl ?_
  refine mjq_ic (v := (0 : Int32)) D_122_2 rfl ?_
  refine mjq_istore_n (lo' := [some (.int l0), some (.int (0 : Int32)), some (.int (0 : Int32))]) D_122_3 (Nat.le_of_ble_eq_true rfl) rfl ?_
  exact (T_122_4 hR h1 h2 mjN) _ _ _ _ _ h
noncomputable def f_122 (R : mjR) (a0 : Int32) (hp : mjH) : mjU := b_122_0 R a0 hp
theorem c_122 {R : mjR} {d : Nat} (hR : mjC R d) {a0 : Int32} {hp : mjH} {q : Option Value × mjH} (h : f_122 R a0 hp = some q) : mjM (d + 1) 0 0 122 [.int a0] hp (mjEq q) :=
  mjM_of Ja_122 (Nat.le_of_ble_eq_true rfl) (mjG.fg (lo' := [some (.int a0), none, none]) (And.intro rfl True.intro) ((t_122_0 hR (Nat.le_refl 0) (Nat.le_refl 0)) a0 hp q h))
def J_123 : mjI := (⟨"OwnerHeap$Program", "fits", "(II)Z"⟩, 7, prog_9_method_23_code, 4, (some .boolean), 2, false)
theorem Ja_123 : mjMt 123 = some J_123 := by rfl
theorem D_123_0 : decode J_123.2.2.1 0 = .ok (.iload_n 1, 1) := dzq_27 (by decide +kernel)
theorem D_123_1 : decode J_123.2.2.1 1 = .ok (.bipush (-2), 2) := dzq_16 (by decide +kernel)
theorem D_123_3 : decode J_123.2.2.1 3 = .ok (.if_icmp .ne 14, 3) := dzq_160 (by decide +kernel)
theorem D_123_6 : decode J_123.2.2.1 6 = .ok (.iload_n 2, 1) := dzq_28 (by decide +kernel)
theorem D_123_7 : decode J_123.2.2.1 7 = .ok (.iconst (-1), 1) := dzq_2 (by decide +kernel)
theorem D_123_8 : decode J_123.2.2.1 8 = .ok (.if_icmp .eq 7, 3) := dzq_159 (by decide +kernel)
theorem D_123_11 : decode J_123.2.2.1 11 = .ok (.iconst 1, 1) := dzq_4 (by decide +kernel)
theorem D_123_12 : decode J_123.2.2.1 12 = .ok (.goto 4, 3) := dzq_167 (by decide +kernel)
theorem D_123_15 : decode J_123.2.2.1 15 = .ok (.iconst 0, 1) := dzq_3 (by decide +kernel)
theorem D_123_16 : decode J_123.2.2.1 16 = .ok (.ireturn, 1) := dzq_172 (by decide +kernel)
theorem D_123_17 : decode J_123.2.2.1 17 = .ok (.iload_n 1, 1) := dzq_27 (by decide +kernel)
theorem D_123_18 : decode J_123.2.2.1 18 = .ok (.ifCond .lt 7, 3) := dzq_155 (by decide +kernel)
theorem D_123_21 : decode J_123.2.2.1 21 = .ok (.iload_n 2, 1) := dzq_28 (by decide +kernel)
theorem D_123_22 : decode J_123.2.2.1 22 = .ok (.ifCond .ge 14, 3) := dzq_156 (by decide +kernel)
theorem D_123_25 : decode J_123.2.2.1 25 = .ok (.iload_n 1, 1) := dzq_27 (by decide +kernel)
theorem D_123_26 : decode J_123.2.2.1 26 = .ok (.iload_n 2, 1) := dzq_28 (by decide +kernel)
theorem D_123_27 : decode J_123.2.2.1 27 = .ok (.if_icmp .ne 7, 3) := dzq_160 (by decide +kernel)
theorem D_123_30 : decode J_123.2.2.1 30 = .ok (.iconst 1, 1) := dzq_4 (by decide +kernel)
theorem D_123_31 : decode J_123.2.2.1 31 = .ok (.goto 4, 3) := dzq_167 (by decide +kernel)
theorem D_123_34 : decode J_123.2.2.1 34 = .ok (.iconst 0, 1) := dzq_3 (by decide +kernel)
theorem D_123_35 : decode J_123.2.2.1 35 = .ok (.ireturn, 1) := dzq_172 (by decide +kernel)
theorem D_123_36 : decode J_123.2.2.1 36 = .ok (.aload_n 0, 1) := dzq_42 (by decide +kernel)
theorem D_123_37 : decode J_123.2.2.1 37 = .ok (.iload_n 1, 1) := dzq_27 (by decide +kernel)
theorem D_123_38 : decode J_123.2.2.1 38 = .ok (.invokestatic 97, 3) := dzq_184 (by decide +kernel)
theorem D_123_41 : decode J_123.2.2.1 41 = .ok (.iload_n 2, 1) := dzq_28 (by decide +kernel)
theorem D_123_42 : decode J_123.2.2.1 42 = .ok (.invokestatic 97, 3) := dzq_184 (by decide +kernel)
theorem D_123_45 : decode J_123.2.2.1 45 = .ok (.invokevirtual 106, 3) := dzq_182 (by decide +kernel)
theorem D_123_48 : decode J_123.2.2.1 48 = .ok (.istore_n 3, 1) := dzq_62 (by decide +kernel)
theorem D_123_49 : decode J_123.2.2.1 49 = .ok (.iload_n 3, 1) := dzq_29 (by decide +kernel)
theorem D_123_50 : decode J_123.2.2.1 50 = .ok (.ifCond .lt 17, 3) := dzq_155 (by decide +kernel)
theorem D_123_53 : decode J_123.2.2.1 53 = .ok (.aload_n 0, 1) := dzq_42 (by decide +kernel)
theorem D_123_54 : decode J_123.2.2.1 54 = .ok (.iload_n 3, 1) := dzq_29 (by decide +kernel)
theorem D_123_55 : decode J_123.2.2.1 55 = .ok (.iload_n 1, 1) := dzq_27 (by decide +kernel)
theorem D_123_56 : decode J_123.2.2.1 56 = .ok (.invokevirtual 103, 3) := dzq_182 (by decide +kernel)
theorem D_123_59 : decode J_123.2.2.1 59 = .ok (.iload_n 2, 1) := dzq_28 (by decide +kernel)
theorem D_123_60 : decode J_123.2.2.1 60 = .ok (.if_icmp .ne 7, 3) := dzq_160 (by decide +kernel)
theorem D_123_63 : decode J_123.2.2.1 63 = .ok (.iconst 1, 1) := dzq_4 (by decide +kernel)
theorem D_123_64 : decode J_123.2.2.1 64 = .ok (.goto 4, 3) := dzq_167 (by decide +kernel)
theorem D_123_67 : decode J_123.2.2.1 67 = .ok (.iconst 0, 1) := dzq_3 (by decide +kernel)
theorem D_123_68 : decode J_123.2.2.1 68 = .ok (.ireturn, 1) := dzq_172 (by decide +kernel)
def P_123_25 (X : mjX) (d C S kc ks : Nat) (k : Int32 → Int32 → mjH → mjU) : Prop := ∀ (l1 : Int32) (l2 : Int32) (hp : mjH) (q : Option Value × mjH), k l1 l2 hp = some q → mjG X d C S J_123 (mjEq q) 25 [none, some (.int l1), some (.int l2), none] [] hp kc ks
def P_123_67 (X : mjX) (d C S kc ks : Nat) (k : mjH → mjU) : Prop := ∀  (hp : mjH) (q : Option Value × mjH), k  hp = some q → mjG X d C S J_123 (mjEq q) 67 [none, none, none, none] [] hp kc ks
def P_123_0 (X : mjX) (d C S kc ks : Nat) (k : Nat → Int32 → Int32 → mjH → mjU) : Prop := ∀ (l0 : Nat) (l1 : Int32) (l2 : Int32) (hp : mjH) (q : Option Value × mjH), k l0 l1 l2 hp = some q → mjG X d C S J_123 (mjEq q) 0 [some (.ref l0), some (.int l1), some (.int l2), none] [] hp kc ks
noncomputable def b_123_25 (R : mjR) (l1 : Int32) (l2 : Int32) (hp : mjH) : mjU := (if l1 = l2 then some (some (.int (1 : Int32)), hp) else some (some (.int (0 : Int32)), hp))
theorem t_123_25 {X : mjX} {d C S kc ks : Nat} {R : mjR} (hR : mjC R d) (h1 : kc ≤ C) (h2 : ks ≤ S) : P_123_25 X (d + 1) C S kc ks (b_123_25 R) := by
  intro l1 l2 hp q h
  unfold b_123_25 at h
  refine mjr_iload_n (x := l1) D_123_25 rfl ?_
  refine mjr_iload_n (x := l2) D_123_26 rfl ?_
  refine mjq_icmp_ne (tgt := 34) D_123_27 rfl h (fun h => ?_) (fun h => ?_)
  · refine mjq_ic (v := (0 : Int32)) D_123_34 rfl ?_
    exact mjr_ireturn D_123_35 rfl rfl h1 h2 (Option.some.inj h)
  · refine mjq_ic (v := (1 : Int32)) D_123_30 rfl ?_
    refine mjr_goto (tgt := 35) D_123_31 rfl ?_
    exact mjr_ireturn D_123_35 rfl rfl h1 h2 (Option.some.inj h)
noncomputable def b_123_67 (R : mjR)  (hp : mjH) : mjU := some (some (.int (0 : Int32)), hp)
theorem t_123_67 {X : mjX} {d C S kc ks : Nat} {R : mjR} (hR : mjC R d) (h1 : kc ≤ C) (h2 : ks ≤ S) : P_123_67 X (d + 1) C S kc ks (b_123_67 R) := by
  intro  hp q h
  unfold b_123_67 at h
  refine mjq_ic (v := (0 : Int32)) D_123_67 rfl ?_
  exact mjr_ireturn D_123_68 rfl rfl h1 h2 (Option.some.inj h)
noncomputable def b_123_0 (R : mjR) (l0 : Nat) (l1 : Int32) (l2 : Int32) (hp : mjH) : mjU := (if l1 = (-2 : Int32) then (if l2 = (-1 : Int32) then some (some (.int (0 : Int32)), hp) else some (some (.int (1 : Int32)), hp)) else (if l1 < 0 then b_123_25 R l1 l2 hp else (if 0 ≤ l2 then bI (R 105 [.int l1] hp) (fun v1 hp2 => bI (R 105 [.int l2] hp2) (fun v3 hp4 => rV hp4 l0 7 (bI (R 114 [.ref l0, .int v1, .int v3] hp4) (fun v5 hp6 => (if v5 < 0 then b_123_67 R hp6 else rV hp6 l0 7 (bI (R 112 [.ref l0, .int v5, .int l1] hp6) (fun v7 hp8 => (if v7 = l2 then some (some (.int (1 : Int32)), hp8) else b_123_67 R hp8)))))))) else b_123_25 R l1 l2 hp)))
theorem t_123_0 {X : mjX} {d C S kc ks : Nat} {R : mjR} (hR : mjC R d) (h1 : kc ≤ C) (h2 : ks ≤ S) : P_123_0 X (d + 1) C S kc ks (b_123_0 R) := by
  intro l0 l1 l2 hp q h
  unfold b_123_0 at h
  refine mjr_iload_n (x := l1) D_123_0 rfl ?_
  refine mjq_bi (v := (-2 : Int32)) D_123_1 rfl ?_
  refine mjq_icmp_ne (tgt := 17) D_123_3 rfl h (fun h => ?_) (fun h => ?_)
  · refine mjr_iload_n (x := l1) D_123_17 rfl ?_
    refine mjq_if_lt (tgt := 25) D_123_18 rfl h (fun h => ?_) (fun h => ?_)
    · exact mjG.fg (lo' := [none, some (.int l1), some (.int l2), none]) (And.intro rfl (And.intro rfl True.intro)) ((t_123_25 hR h1 h2) _ _ _ _ h)
    · refine mjr_iload_n (x := l2) D_123_21 rfl ?_
      refine mjq_if_ge (tgt := 36) D_123_22 rfl h (fun h => ?_) (fun h => ?_)
      · refine mjr_aload_n (x := l0) D_123_36 rfl ?_
        refine mjr_iload_n (x := l1) D_123_37 rfl ?_
        refine mjq_scI (As := [.int l1]) (rest := [.ref l0]) D_123_38 mr_7_97 V_105 rfl rfl rfl hR (Nat.le_refl _) h1 h2 h (fun v1 hp2 h => ?_)
        refine mjr_iload_n (x := l2) D_123_41 rfl ?_
        refine mjq_scI (As := [.int l2]) (rest := [.int v1, .ref l0]) D_123_42 mr_7_97 V_105 rfl rfl rfl hR (Nat.le_refl _) h1 h2 h (fun v3 hp4 h => ?_)
        refine mjq_vI (As := [.int v1, .int v3]) (rest := []) D_123_45 mr_7_106 V_114 rfl rfl rfl hR (Nat.le_refl _) h1 h2 h (fun v5 hp6 h => ?_)
        refine mjq_istore_n (lo' := [some (.ref l0), some (.int l1), some (.int l2), some (.int v5)]) D_123_48 (Nat.le_of_ble_eq_true rfl) rfl ?_
        refine mjr_iload_n (x := v5) D_123_49 rfl ?_
        refine mjq_if_lt (tgt := 67) D_123_50 rfl h (fun h => ?_) (fun h => ?_)
        · exact mjG.fg (lo' := [none, none, none, none]) True.intro ((t_123_67 hR h1 h2) _ _ h)
        · refine mjr_aload_n (x := l0) D_123_53 rfl ?_
          refine mjr_iload_n (x := v5) D_123_54 rfl ?_
          refine mjr_iload_n (x := l1) D_123_55 rfl ?_
          refine mjq_vI (As := [.int v5, .int l1]) (rest := []) D_123_56 mr_7_103 V_112 rfl rfl rfl hR (Nat.le_refl _) h1 h2 h (fun v7 hp8 h => ?_)
          refine mjr_iload_n (x := l2) D_123_59 rfl ?_
          refine mjq_icmp_ne (tgt := 67) D_123_60 rfl h (fun h => ?_) (fun h => ?_)
          · exact mjG.fg (lo' := [none, none, none, none]) True.intro ((t_123_67 hR h1 h2) _ _ h)
          · refine mjq_ic (v := (1 : Int32)) D_123_63 rfl ?_
            refine mjr_goto (tgt := 68) D_123_64 rfl ?_
            exact mjr_ireturn D_123_68 rfl rfl h1 h2 (Option.some.inj h)
      · exact mjG.fg (lo' := [none, some (.int l1), some (.int l2), none]) (And.intro rfl (And.intro rfl True.intro)) ((t_123_25 hR h1 h2) _ _ _ _ h)
  · refine mjr_iload_n (x := l2) D_123_6 rfl ?_
    refine mjq_ic (v := (-1 : Int32)) D_123_7 rfl ?_
    refine mjq_icmp_eq (tgt := 15) D_123_8 rfl h (fun h => ?_) (fun h => ?_)
    · refine mjq_ic (v := (0 : Int32)) D_123_15 rfl ?_
      exact mjr_ireturn D_123_16 rfl rfl h1 h2 (Option.some.inj h)
    · refine mjq_ic (v := (1 : Int32)) D_123_11 rfl ?_
      refine mjr_goto (tgt := 16) D_123_12 rfl ?_
      exact mjr_ireturn D_123_16 rfl rfl h1 h2 (Option.some.inj h)
noncomputable def f_123 (R : mjR) (a0 : Nat) (a1 : Int32) (a2 : Int32) (hp : mjH) : mjU := b_123_0 R a0 a1 a2 hp
theorem c_123 {R : mjR} {d : Nat} (hR : mjC R d) {a0 : Nat} {a1 : Int32} {a2 : Int32} {hp : mjH} {q : Option Value × mjH} (h : f_123 R a0 a1 a2 hp = some q) : mjM (d + 1) 0 0 123 [.ref a0, .int a1, .int a2] hp (mjEq q) :=
  mjM_of Ja_123 (Nat.le_of_ble_eq_true rfl) (mjG.fg (lo' := [some (.ref a0), some (.int a1), some (.int a2), none]) (And.intro rfl (And.intro rfl (And.intro rfl True.intro))) ((t_123_0 hR (Nat.le_refl 0) (Nat.le_refl 0)) a0 a1 a2 hp q h))
def J_124 : mjI := (⟨"OwnerHeap$Program", "holdsObject", "(II)Z"⟩, 7, prog_9_method_15_code, 3, (some .boolean), 2, false)
theorem Ja_124 : mjMt 124 = some J_124 := by rfl
theorem D_124_0 : decode J_124.2.2.1 0 = .ok (.aload_n 0, 1) := dzq_42 (by decide +kernel)
theorem D_124_1 : decode J_124.2.2.1 1 = .ok (.getfield 48, 3) := dzq_180 (by decide +kernel)
theorem D_124_4 : decode J_124.2.2.1 4 = .ok (.iload_n 1, 1) := dzq_27 (by decide +kernel)
theorem D_124_5 : decode J_124.2.2.1 5 = .ok (.bipush 6, 2) := dzq_16 (by decide +kernel)
theorem D_124_7 : decode J_124.2.2.1 7 = .ok (.imul, 1) := dzq_104 (by decide +kernel)
theorem D_124_8 : decode J_124.2.2.1 8 = .ok (.iload_n 2, 1) := dzq_28 (by decide +kernel)
theorem D_124_9 : decode J_124.2.2.1 9 = .ok (.bipush 64, 2) := dzq_16 (by decide +kernel)
theorem D_124_11 : decode J_124.2.2.1 11 = .ok (.idiv, 1) := by decide +kernel
theorem D_124_12 : decode J_124.2.2.1 12 = .ok (.iadd, 1) := dzq_96 (by decide +kernel)
theorem D_124_13 : decode J_124.2.2.1 13 = .ok (.laload, 1) := dzq_47 (by decide +kernel)
theorem D_124_14 : decode J_124.2.2.1 14 = .ok (.iload_n 2, 1) := dzq_28 (by decide +kernel)
theorem D_124_15 : decode J_124.2.2.1 15 = .ok (.bipush 64, 2) := dzq_16 (by decide +kernel)
theorem D_124_17 : decode J_124.2.2.1 17 = .ok (.irem, 1) := by decide +kernel
theorem D_124_18 : decode J_124.2.2.1 18 = .ok (.lshr, 1) := by decide +kernel
theorem D_124_19 : decode J_124.2.2.1 19 = .ok (.lconst 1, 1) := by decide +kernel
theorem D_124_20 : decode J_124.2.2.1 20 = .ok (.land, 1) := by decide +kernel
theorem D_124_21 : decode J_124.2.2.1 21 = .ok (.lconst 0, 1) := by decide +kernel
theorem D_124_22 : decode J_124.2.2.1 22 = .ok (.lcmp, 1) := by decide +kernel
theorem D_124_23 : decode J_124.2.2.1 23 = .ok (.ifCond .eq 7, 3) := dzq_153 (by decide +kernel)
theorem D_124_26 : decode J_124.2.2.1 26 = .ok (.iconst 1, 1) := dzq_4 (by decide +kernel)
theorem D_124_27 : decode J_124.2.2.1 27 = .ok (.goto 4, 3) := dzq_167 (by decide +kernel)
theorem D_124_30 : decode J_124.2.2.1 30 = .ok (.iconst 0, 1) := dzq_3 (by decide +kernel)
theorem D_124_31 : decode J_124.2.2.1 31 = .ok (.ireturn, 1) := dzq_172 (by decide +kernel)
def P_124_0 (X : mjX) (d C S kc ks : Nat) (k : Nat → Int32 → Int32 → mjH → mjU) : Prop := ∀ (l0 : Nat) (l1 : Int32) (l2 : Int32) (hp : mjH) (q : Option Value × mjH), k l0 l1 l2 hp = some q → mjG X d C S J_124 (mjEq q) 0 [some (.ref l0), some (.int l1), some (.int l2)] [] hp kc ks
noncomputable def b_124_0 (R : mjR) (l0 : Nat) (l1 : Int32) (l2 : Int32) (hp : mjH) : mjU := gR hp l0 7 13 (fun v1 => aL hp v1 ((l1 * (6 : Int32)) + (l2 / (64 : Int32))) (fun v2 => (if (lg_cmp ((v2 >>> ((l2 - l2 / (64 : Int32) * (64 : Int32)).toInt64 &&& 63)) &&& (1 : Int64)) (0 : Int64)) = 0 then some (some (.int (0 : Int32)), hp) else some (some (.int (1 : Int32)), hp))))
theorem t_124_0 {X : mjX} {d C S kc ks : Nat} {R : mjR} (hR : mjC R d) (h1 : kc ≤ C) (h2 : ks ≤ S) : P_124_0 X (d + 1) C S kc ks (b_124_0 R) := by
  intro l0 l1 l2 hp q h
  unfold b_124_0 at h
  refine mjr_aload_n (x := l0) D_124_0 rfl ?_
  refine mjq_gR D_124_1 fr_7_48 h (fun v1 h => ?_)
  refine mjr_iload_n (x := l1) D_124_4 rfl ?_
  refine mjq_bi (v := (6 : Int32)) D_124_5 rfl ?_
  refine mjr_imul D_124_7 ?_
  refine mjr_iload_n (x := l2) D_124_8 rfl ?_
  refine mjq_bi (v := (64 : Int32)) D_124_9 rfl ?_
  refine mjr_idiv D_124_11 (by decide) ?_
  refine mjr_iadd D_124_12 ?_
  refine mjq_aL D_124_13 h (fun v2 h => ?_)
  refine mjr_iload_n (x := l2) D_124_14 rfl ?_
  refine mjq_bi (v := (64 : Int32)) D_124_15 rfl ?_
  refine mjr_irem D_124_17 (by decide) ?_
  refine mjr_lshr D_124_18 ?_
  refine mjq_lc (v := (1 : Int64)) D_124_19 rfl ?_
  refine mjr_land D_124_20 ?_
  refine mjq_lc (v := (0 : Int64)) D_124_21 rfl ?_
  refine mjr_lcmp D_124_22 ?_
  refine mjq_if_eq (tgt := 30) D_124_23 rfl h (fun h => ?_) (fun h => ?_)
  · refine mjq_ic (v := (0 : Int32)) D_124_30 rfl ?_
    exact mjr_ireturn D_124_31 rfl rfl h1 h2 (Option.some.inj h)
  · refine mjq_ic (v := (1 : Int32)) D_124_26 rfl ?_
    refine mjr_goto (tgt := 31) D_124_27 rfl ?_
    exact mjr_ireturn D_124_31 rfl rfl h1 h2 (Option.some.inj h)
noncomputable def f_124 (R : mjR) (a0 : Nat) (a1 : Int32) (a2 : Int32) (hp : mjH) : mjU := b_124_0 R a0 a1 a2 hp
theorem c_124 {R : mjR} {d : Nat} (hR : mjC R d) {a0 : Nat} {a1 : Int32} {a2 : Int32} {hp : mjH} {q : Option Value × mjH} (h : f_124 R a0 a1 a2 hp = some q) : mjM (d + 1) 0 0 124 [.ref a0, .int a1, .int a2] hp (mjEq q) :=
  mjM_of Ja_124 (Nat.le_of_ble_eq_true rfl) (mjG.fg (lo' := [some (.ref a0), some (.int a1), some (.int a2)]) (And.intro rfl (And.intro rfl (And.intro rfl True.intro))) ((t_124_0 hR (Nat.le_refl 0) (Nat.le_refl 0)) a0 a1 a2 hp q h))
def J_126 : mjI := (⟨"OwnerHeap$Reader", "readText", "(LOwnerHeap$Program;)V"⟩, 8, prog_10_method_2_code, 4, none, 1, false)
theorem Ja_126 : mjMt 126 = some J_126 := by rfl
theorem D_126_0 : decode J_126.2.2.1 0 = .ok (.aload_n 0, 1) := dzq_42 (by decide +kernel)
theorem D_126_1 : decode J_126.2.2.1 1 = .ok (.aload_n 1, 1) := dzq_43 (by decide +kernel)
theorem D_126_2 : decode J_126.2.2.1 2 = .ok (.putfield 15, 3) := dzq_181 (by decide +kernel)
theorem D_126_5 : decode J_126.2.2.1 5 = .ok (.aload_n 0, 1) := dzq_42 (by decide +kernel)
theorem D_126_6 : decode J_126.2.2.1 6 = .ok (.aload_n 1, 1) := dzq_43 (by decide +kernel)
theorem D_126_7 : decode J_126.2.2.1 7 = .ok (.getfield 19, 3) := dzq_180 (by decide +kernel)
theorem D_126_10 : decode J_126.2.2.1 10 = .ok (.putfield 25, 3) := dzq_181 (by decide +kernel)
theorem D_126_13 : decode J_126.2.2.1 13 = .ok (.aload_n 0, 1) := dzq_42 (by decide +kernel)
theorem D_126_14 : decode J_126.2.2.1 14 = .ok (.iconst 0, 1) := dzq_3 (by decide +kernel)
theorem D_126_15 : decode J_126.2.2.1 15 = .ok (.putfield 47, 3) := dzq_181 (by decide +kernel)
theorem D_126_18 : decode J_126.2.2.1 18 = .ok (.iconst 0, 1) := dzq_3 (by decide +kernel)
theorem D_126_19 : decode J_126.2.2.1 19 = .ok (.istore_n 2, 1) := dzq_61 (by decide +kernel)
theorem D_126_20 : decode J_126.2.2.1 20 = .ok (.iload_n 2, 1) := dzq_28 (by decide +kernel)
theorem D_126_21 : decode J_126.2.2.1 21 = .ok (.bipush 16, 2) := dzq_16 (by decide +kernel)
theorem D_126_23 : decode J_126.2.2.1 23 = .ok (.if_icmp .gt 58, 3) := dzq_163 (by decide +kernel)
theorem D_126_26 : decode J_126.2.2.1 26 = .ok (.aload_n 0, 1) := dzq_42 (by decide +kernel)
theorem D_126_27 : decode J_126.2.2.1 27 = .ok (.getfield 9, 3) := dzq_180 (by decide +kernel)
theorem D_126_30 : decode J_126.2.2.1 30 = .ok (.iconst 5, 1) := dzq_8 (by decide +kernel)
theorem D_126_31 : decode J_126.2.2.1 31 = .ok (.invokevirtual 53, 3) := dzq_182 (by decide +kernel)
theorem D_126_34 : decode J_126.2.2.1 34 = .ok (.ifCond .eq 47, 3) := dzq_153 (by decide +kernel)
theorem D_126_37 : decode J_126.2.2.1 37 = .ok (.aload_n 0, 1) := dzq_42 (by decide +kernel)
theorem D_126_38 : decode J_126.2.2.1 38 = .ok (.iload_n 2, 1) := dzq_28 (by decide +kernel)
theorem D_126_39 : decode J_126.2.2.1 39 = .ok (.invokevirtual 57, 3) := dzq_182 (by decide +kernel)
theorem D_126_42 : decode J_126.2.2.1 42 = .ok (.iconst 0, 1) := dzq_3 (by decide +kernel)
theorem D_126_43 : decode J_126.2.2.1 43 = .ok (.istore_n 3, 1) := dzq_62 (by decide +kernel)
theorem D_126_44 : decode J_126.2.2.1 44 = .ok (.iload_n 3, 1) := dzq_29 (by decide +kernel)
theorem D_126_45 : decode J_126.2.2.1 45 = .ok (.bipush 24, 2) := dzq_16 (by decide +kernel)
theorem D_126_47 : decode J_126.2.2.1 47 = .ok (.if_icmp .gt 22, 3) := dzq_163 (by decide +kernel)
theorem D_126_50 : decode J_126.2.2.1 50 = .ok (.aload_n 0, 1) := dzq_42 (by decide +kernel)
theorem D_126_51 : decode J_126.2.2.1 51 = .ok (.invokevirtual 61, 3) := dzq_182 (by decide +kernel)
theorem D_126_54 : decode J_126.2.2.1 54 = .ok (.ifCond .eq 15, 3) := dzq_153 (by decide +kernel)
theorem D_126_57 : decode J_126.2.2.1 57 = .ok (.aload_n 0, 1) := dzq_42 (by decide +kernel)
theorem D_126_58 : decode J_126.2.2.1 58 = .ok (.iload_n 2, 1) := dzq_28 (by decide +kernel)
theorem D_126_59 : decode J_126.2.2.1 59 = .ok (.iload_n 3, 1) := dzq_29 (by decide +kernel)
theorem D_126_60 : decode J_126.2.2.1 60 = .ok (.invokevirtual 65, 3) := dzq_182 (by decide +kernel)
theorem D_126_63 : decode J_126.2.2.1 63 = .ok (.iinc 3 1, 3) := dzq_132 (by decide +kernel)
theorem D_126_66 : decode J_126.2.2.1 66 = .ok (.goto (-22), 3) := dzq_167 (by decide +kernel)
theorem D_126_69 : decode J_126.2.2.1 69 = .ok (.aload_n 0, 1) := dzq_42 (by decide +kernel)
theorem D_126_70 : decode J_126.2.2.1 70 = .ok (.bipush 125, 2) := dzq_16 (by decide +kernel)
theorem D_126_72 : decode J_126.2.2.1 72 = .ok (.invokevirtual 69, 3) := dzq_182 (by decide +kernel)
theorem D_126_75 : decode J_126.2.2.1 75 = .ok (.iinc 2 1, 3) := dzq_132 (by decide +kernel)
theorem D_126_78 : decode J_126.2.2.1 78 = .ok (.goto (-58), 3) := dzq_167 (by decide +kernel)
theorem D_126_81 : decode J_126.2.2.1 81 = .ok (.aload_n 0, 1) := dzq_42 (by decide +kernel)
theorem D_126_82 : decode J_126.2.2.1 82 = .ok (.getfield 9, 3) := dzq_180 (by decide +kernel)
theorem D_126_85 : decode J_126.2.2.1 85 = .ok (.bipush 9, 2) := dzq_16 (by decide +kernel)
theorem D_126_87 : decode J_126.2.2.1 87 = .ok (.invokevirtual 72, 3) := dzq_182 (by decide +kernel)
theorem D_126_90 : decode J_126.2.2.1 90 = .ok (.aload_n 0, 1) := dzq_42 (by decide +kernel)
theorem D_126_91 : decode J_126.2.2.1 91 = .ok (.iconst 0, 1) := dzq_3 (by decide +kernel)
theorem D_126_92 : decode J_126.2.2.1 92 = .ok (.putfield 75, 3) := dzq_181 (by decide +kernel)
theorem D_126_95 : decode J_126.2.2.1 95 = .ok (.aload_n 0, 1) := dzq_42 (by decide +kernel)
theorem D_126_96 : decode J_126.2.2.1 96 = .ok (.getfield 44, 3) := dzq_180 (by decide +kernel)
theorem D_126_99 : decode J_126.2.2.1 99 = .ok (.sipush 384, 3) := dzq_17 (by decide +kernel)
theorem D_126_102 : decode J_126.2.2.1 102 = .ok (.aload_n 0, 1) := dzq_42 (by decide +kernel)
theorem D_126_103 : decode J_126.2.2.1 103 = .ok (.getfield 9, 3) := dzq_180 (by decide +kernel)
theorem D_126_106 : decode J_126.2.2.1 106 = .ok (.invokevirtual 78, 3) := dzq_182 (by decide +kernel)
theorem D_126_109 : decode J_126.2.2.1 109 = .ok (.iastore, 1) := dzq_79 (by decide +kernel)
theorem D_126_110 : decode J_126.2.2.1 110 = .ok (.aload_n 0, 1) := dzq_42 (by decide +kernel)
theorem D_126_111 : decode J_126.2.2.1 111 = .ok (.invokevirtual 82, 3) := dzq_182 (by decide +kernel)
theorem D_126_114 : decode J_126.2.2.1 114 = .ok (.aload_n 0, 1) := dzq_42 (by decide +kernel)
theorem D_126_115 : decode J_126.2.2.1 115 = .ok (.getfield 25, 3) := dzq_180 (by decide +kernel)
theorem D_126_118 : decode J_126.2.2.1 118 = .ok (.getfield 85, 3) := dzq_180 (by decide +kernel)
theorem D_126_121 : decode J_126.2.2.1 121 = .ok (.sipush 384, 3) := dzq_17 (by decide +kernel)
theorem D_126_124 : decode J_126.2.2.1 124 = .ok (.aload_n 0, 1) := dzq_42 (by decide +kernel)
theorem D_126_125 : decode J_126.2.2.1 125 = .ok (.getfield 75, 3) := dzq_180 (by decide +kernel)
theorem D_126_128 : decode J_126.2.2.1 128 = .ok (.iastore, 1) := dzq_79 (by decide +kernel)
theorem D_126_129 : decode J_126.2.2.1 129 = .ok (.aload_n 0, 1) := dzq_42 (by decide +kernel)
theorem D_126_130 : decode J_126.2.2.1 130 = .ok (.getfield 9, 3) := dzq_180 (by decide +kernel)
theorem D_126_133 : decode J_126.2.2.1 133 = .ok (.iconst 0, 1) := dzq_3 (by decide +kernel)
theorem D_126_134 : decode J_126.2.2.1 134 = .ok (.invokevirtual 53, 3) := dzq_182 (by decide +kernel)
theorem D_126_137 : decode J_126.2.2.1 137 = .ok (.ifCond .ne 11, 3) := dzq_154 (by decide +kernel)
theorem D_126_140 : decode J_126.2.2.1 140 = .ok (.aload_n 0, 1) := dzq_42 (by decide +kernel)
theorem D_126_141 : decode J_126.2.2.1 141 = .ok (.getfield 9, 3) := dzq_180 (by decide +kernel)
theorem D_126_144 : decode J_126.2.2.1 144 = .ok (.iconst 2, 1) := dzq_5 (by decide +kernel)
theorem D_126_145 : decode J_126.2.2.1 145 = .ok (.invokevirtual 87, 3) := dzq_182 (by decide +kernel)
theorem D_126_148 : decode J_126.2.2.1 148 = .ok (.return_, 1) := dzq_177 (by decide +kernel)
def P_126_81 (X : mjX) (d C S kc ks : Nat) (k : Nat → mjH → mjU) : Prop := ∀ (l0 : Nat) (hp : mjH) (q : Option Value × mjH), k l0 hp = some q → mjG X d C S J_126 (mjEq q) 81 [some (.ref l0), none, none, none] [] hp kc ks
def P_126_69 (X : mjX) (d C S kc ks : Nat) (k : Nat → Int32 → mjH → mjU) : Prop := ∀ (l0 : Nat) (l2 : Int32) (hp : mjH) (q : Option Value × mjH), k l0 l2 hp = some q → mjG X d C S J_126 (mjEq q) 69 [some (.ref l0), none, some (.int l2), none] [] hp kc ks
def P_126_44 (X : mjX) (d C S kc ks : Nat) (k : Nat → Int32 → Int32 → mjH → mjU) : Prop := ∀ (l0 : Nat) (l2 : Int32) (l3 : Int32) (hp : mjH) (q : Option Value × mjH), k l0 l2 l3 hp = some q → mjG X d C S J_126 (mjEq q) 44 [some (.ref l0), none, some (.int l2), some (.int l3)] [] hp kc ks
def P_126_20 (X : mjX) (d C S kc ks : Nat) (k : Nat → Int32 → mjH → mjU) : Prop := ∀ (l0 : Nat) (l2 : Int32) (hp : mjH) (q : Option Value × mjH), k l0 l2 hp = some q → mjG X d C S J_126 (mjEq q) 20 [some (.ref l0), none, some (.int l2), none] [] hp kc ks
def P_126_0 (X : mjX) (d C S kc ks : Nat) (k : Nat → Nat → mjH → mjU) : Prop := ∀ (l0 : Nat) (l1 : Nat) (hp : mjH) (q : Option Value × mjH), k l0 l1 hp = some q → mjG X d C S J_126 (mjEq q) 0 [some (.ref l0), some (.ref l1), none, none] [] hp kc ks
noncomputable def b_126_81 (R : mjR) (l0 : Nat) (hp : mjH) : mjU := gR hp l0 8 0 (fun v1 => rV hp v1 9 (bN (R 169 [.ref v1, .int (9 : Int32)] hp) (fun  hp2 => pI hp2 l0 8 10 (0 : Int32) (fun hp3 => gR hp3 l0 8 8 (fun v4 => gR hp3 l0 8 0 (fun v5 => rV hp3 v5 9 (bI (R 167 [.ref v5] hp3) (fun v6 hp7 => sI hp7 v4 (384 : Int32) v6 (fun hp8 => rV hp8 l0 8 (bN (R 139 [.ref l0] hp8) (fun  hp9 => gR hp9 l0 8 2 (fun v10 => gR hp9 v10 6 8 (fun v11 => gI hp9 l0 8 10 (fun v12 => sI hp9 v11 (384 : Int32) v12 (fun hp13 => gR hp13 l0 8 0 (fun v14 => rV hp13 v14 9 (bI (R 164 [.ref v14, .int (0 : Int32)] hp13) (fun v15 hp16 => (if v15 = 0 then gR hp16 l0 8 0 (fun v17 => rV hp16 v17 9 (bN (R 165 [.ref v17, .int (2 : Int32)] hp16) (fun  hp18 => some (none, hp18)))) else some (none, hp16))))))))))))))))))))
theorem t_126_81 {X : mjX} {d C S kc ks : Nat} {R : mjR} (hR : mjC R d) (h1 : kc ≤ C) (h2 : ks ≤ S) : P_126_81 X (d + 1) C S kc ks (b_126_81 R) := by
  intro l0 hp q h
  unfold b_126_81 at h
  refine mjr_aload_n (x := l0) D_126_81 rfl ?_
  refine mjq_gR D_126_82 fr_8_9 h (fun v1 h => ?_)
  refine mjq_bi (v := (9 : Int32)) D_126_85 rfl ?_
  refine mjq_vN (As := [.int (9 : Int32)]) (rest := []) D_126_87 mr_8_72 V_169 rfl rfl rfl hR (Nat.le_refl _) h1 h2 h (fun  hp2 h => ?_)
  refine mjr_aload_n (x := l0) D_126_90 rfl ?_
  refine mjq_ic (v := (0 : Int32)) D_126_91 rfl ?_
  refine mjq_pI D_126_92 fr_8_75 rfl rfl h (fun hp3 h => ?_)
  refine mjr_aload_n (x := l0) D_126_95 rfl ?_
  refine mjq_gR D_126_96 fr_8_44 h (fun v4 h => ?_)
  refine mjq_si (v := (384 : Int32)) D_126_99 rfl ?_
  refine mjr_aload_n (x := l0) D_126_102 rfl ?_
  refine mjq_gR D_126_103 fr_8_9 h (fun v5 h => ?_)
  refine mjq_vI (As := []) (rest := [.int (384 : Int32), .ref v4]) D_126_106 mr_8_78 V_167 rfl rfl rfl hR (Nat.le_refl _) h1 h2 h (fun v6 hp7 h => ?_)
  refine mjq_sI D_126_109 h (fun hp8 h => ?_)
  refine mjr_aload_n (x := l0) D_126_110 rfl ?_
  refine mjq_vN (As := []) (rest := []) D_126_111 mr_8_82 V_139 rfl rfl rfl hR (Nat.le_refl _) h1 h2 h (fun  hp9 h => ?_)
  refine mjr_aload_n (x := l0) D_126_114 rfl ?_
  refine mjq_gR D_126_115 fr_8_25 h (fun v10 h => ?_)
  refine mjq_gR D_126_118 fr_8_85 h (fun v11 h => ?_)
  refine mjq_si (v := (384 : Int32)) D_126_121 rfl ?_
  refine mjr_aload_n (x := l0) D_126_124 rfl ?_
  refine mjq_gI D_126_125 fr_8_75 h (fun v12 h => ?_)
  refine mjq_sI D_126_128 h (fun hp13 h => ?_)
  refine mjr_aload_n (x := l0) D_126_129 rfl ?_
  refine mjq_gR D_126_130 fr_8_9 h (fun v14 h => ?_)
  refine mjq_ic (v := (0 : Int32)) D_126_133 rfl ?_
  refine mjq_vI (As := [.int (0 : Int32)]) (rest := []) D_126_134 mr_8_53 V_164 rfl rfl rfl hR (Nat.le_refl _) h1 h2 h (fun v15 hp16 h => ?_)
  refine mjq_if_ne (tgt := 148) D_126_137 rfl h (fun h => ?_) (fun h => ?_)
  · exact mjq_nret D_126_148 rfl h1 h2 h
  · refine mjr_aload_n (x := l0) D_126_140 rfl ?_
    refine mjq_gR D_126_141 fr_8_9 h (fun v17 h => ?_)
    refine mjq_ic (v := (2 : Int32)) D_126_144 rfl ?_
    refine mjq_vN (As := [.int (2 : Int32)]) (rest := []) D_126_145 mr_8_87 V_165 rfl rfl rfl hR (Nat.le_refl _) h1 h2 h (fun  hp18 h => ?_)
    exact mjq_nret D_126_148 rfl h1 h2 h
noncomputable def b_126_69 (R : mjR) (k20 : Nat → Int32 → mjH → mjU) (l0 : Nat) (l2 : Int32) (hp : mjH) : mjU := rV hp l0 8 (bN (R 138 [.ref l0, .int (125 : Int32)] hp) (fun  hp1 => k20 l0 (l2 + (1 : Int32)) hp1))
theorem t_126_69 {X : mjX} {d C S kc ks : Nat} {R : mjR} (hR : mjC R d) (h1 : kc ≤ C) (h2 : ks ≤ S) {k20 : Nat → Int32 → mjH → mjU} (hk20 : P_126_20 X (d + 1) C S kc ks k20) : P_126_69 X (d + 1) C S kc ks (b_126_69 R k20) := by
  intro l0 l2 hp q h
  unfold b_126_69 at h
  refine mjr_aload_n (x := l0) D_126_69 rfl ?_
  refine mjq_bi (v := (125 : Int32)) D_126_70 rfl ?_
  refine mjq_vN (As := [.int (125 : Int32)]) (rest := []) D_126_72 mr_8_69 V_138 rfl rfl rfl hR (Nat.le_refl _) h1 h2 h (fun  hp1 h => ?_)
  refine mjq_iinc (x := l2) (c := (1 : Int32)) (lo' := [some (.ref l0), none, some (.int (l2 + (1 : Int32))), none]) D_126_75 rfl (Nat.le_of_ble_eq_true rfl) rfl rfl ?_
  refine mjr_goto (tgt := 20) D_126_78 rfl ?_
  exact hk20 _ _ _ _ h
noncomputable def b_126_44 (R : mjR) (k20 : Nat → Int32 → mjH → mjU) (k44 : Nat → Int32 → Int32 → mjH → mjU) (l0 : Nat) (l2 : Int32) (l3 : Int32) (hp : mjH) : mjU := (if (24 : Int32) < l3 then b_126_69 R k20 l0 l2 hp else rV hp l0 8 (bI (R 135 [.ref l0] hp) (fun v1 hp2 => (if v1 = 0 then b_126_69 R k20 l0 l2 hp2 else rV hp2 l0 8 (bN (R 136 [.ref l0, .int l2, .int l3] hp2) (fun  hp3 => k44 l0 l2 (l3 + (1 : Int32)) hp3))))))
theorem t_126_44 {X : mjX} {d C S kc ks : Nat} {R : mjR} (hR : mjC R d) (h1 : kc ≤ C) (h2 : ks ≤ S) {k20 : Nat → Int32 → mjH → mjU} (hk20 : P_126_20 X (d + 1) C S kc ks k20) {k44 : Nat → Int32 → Int32 → mjH → mjU} (hk44 : P_126_44 X (d + 1) C S kc ks k44) : P_126_44 X (d + 1) C S kc ks (b_126_44 R k20 k44) := by
  intro l0 l2 l3 hp q h
  unfold b_126_44 at h
  refine mjr_iload_n (x := l3) D_126_44 rfl ?_
  refine mjq_bi (v := (24 : Int32)) D_126_45 rfl ?_
  refine mjq_icmp_gt (tgt := 69) D_126_47 rfl h (fun h => ?_) (fun h => ?_)
  · exact mjG.fg (lo' := [some (.ref l0), none, some (.int l2), none]) (And.intro rfl (And.intro rfl True.intro)) ((t_126_69 hR h1 h2 hk20) _ _ _ _ h)
  · refine mjr_aload_n (x := l0) D_126_50 rfl ?_
    refine mjq_vI (As := []) (rest := []) D_126_51 mr_8_61 V_135 rfl rfl rfl hR (Nat.le_refl _) h1 h2 h (fun v1 hp2 h => ?_)
    refine mjq_if_eq (tgt := 69) D_126_54 rfl h (fun h => ?_) (fun h => ?_)
    · exact mjG.fg (lo' := [some (.ref l0), none, some (.int l2), none]) (And.intro rfl (And.intro rfl True.intro)) ((t_126_69 hR h1 h2 hk20) _ _ _ _ h)
    · refine mjr_aload_n (x := l0) D_126_57 rfl ?_
      refine mjr_iload_n (x := l2) D_126_58 rfl ?_
      refine mjr_iload_n (x := l3) D_126_59 rfl ?_
      refine mjq_vN (As := [.int l2, .int l3]) (rest := []) D_126_60 mr_8_65 V_136 rfl rfl rfl hR (Nat.le_refl _) h1 h2 h (fun  hp3 h => ?_)
      refine mjq_iinc (x := l3) (c := (1 : Int32)) (lo' := [some (.ref l0), none, some (.int l2), some (.int (l3 + (1 : Int32)))]) D_126_63 rfl (Nat.le_of_ble_eq_true rfl) rfl rfl ?_
      refine mjr_goto (tgt := 44) D_126_66 rfl ?_
      exact hk44 _ _ _ _ _ h
noncomputable def L_126_44 (R : mjR) (k20 : Nat → Int32 → mjH → mjU) (n : Nat) : Nat → Int32 → Int32 → mjH → mjU := Nat.rec (motive := fun _ => Nat → Int32 → Int32 → mjH → mjU) (fun _ _ _ _ => none) (fun _ self => b_126_44 R k20 self) n
theorem T_126_44 {X : mjX} {d C S kc ks : Nat} {R : mjR} (hR : mjC R d) (h1 : kc ≤ C) (h2 : ks ≤ S) {k20 : Nat → Int32 → mjH → mjU} (hk20 : P_126_20 X (d + 1) C S kc ks k20) (n : Nat) : P_126_44 X (d + 1) C S kc ks (L_126_44 R k20 n) := by
  induction n with
  | zero => intro _ _ _ _ _ h; exact mj_no h
  | succ n ih => exact t_126_44 hR h1 h2 hk20 ih
noncomputable def b_126_20 (R : mjR) (k20 : Nat → Int32 → mjH → mjU) (l0 : Nat) (l2 : Int32) (hp : mjH) : mjU := (if (16 : Int32) < l2 then b_126_81 R l0 hp else gR hp l0 8 0 (fun v1 => rV hp v1 9 (bI (R 164 [.ref v1, .int (5 : Int32)] hp) (fun v2 hp3 => (if v2 = 0 then b_126_81 R l0 hp3 else rV hp3 l0 8 (bN (R 127 [.ref l0, .int l2] hp3) (fun  hp4 => L_126_44 R k20 mjN l0 l2 (0 : Int32) hp4)))))))
theorem t_126_20 {X : mjX} {d C S kc ks : Nat} {R : mjR} (hR : mjC R d) (h1 : kc ≤ C) (h2 : ks ≤ S) {k20 : Nat → Int32 → mjH → mjU} (hk20 : P_126_20 X (d + 1) C S kc ks k20) : P_126_20 X (d + 1) C S kc ks (b_126_20 R k20) := by
  intro l0 l2 hp q h
  unfold b_126_20 at h
  refine mjr_iload_n (x := l2) D_126_20 rfl ?_
  refine mjq_bi (v := (16 : Int32)) D_126_21 rfl ?_
  refine mjq_icmp_gt (tgt := 81) D_126_23 rfl h (fun h => ?_) (fun h => ?_)
  · exact mjG.fg (lo' := [some (.ref l0), none, none, none]) (And.intro rfl True.intro) ((t_126_81 hR h1 h2) _ _ _ h)
  · refine mjr_aload_n (x := l0) D_126_26 rfl ?_
    refine mjq_gR D_126_27 fr_8_9 h (fun v1 h => ?_)
    refine mjq_ic (v := (5 : Int32)) D_126_30 rfl ?_
    refine mjq_vI (As := [.int (5 : Int32)]) (rest := []) D_126_31 mr_8_53 V_164 rfl rfl rfl hR (Nat.le_refl _) h1 h2 h (fun v2 hp3 h => ?_)
    refine mjq_if_eq (tgt := 81) D_126_34 rfl h (fun h => ?_) (fun h => ?_)
    · exact mjG.fg (lo' := [some (.ref l0), none, none, none]) (And.intro rfl True.intro) ((t_126_81 hR h1 h2) _ _ _ h)
    · refine mjr_aload_n (x := l0) D_126_37 rfl ?_
      refine mjr_iload_n (x := l2) D_126_38 rfl ?_
      refine mjq_vN (As := [.int l2]) (rest := []) D_126_39 mr_8_57 V_127 rfl rfl rfl hR (Nat.le_refl _) h1 h2 h (fun  hp4 h => ?_)
      refine mjq_ic (v := (0 : Int32)) D_126_42 rfl ?_
      refine mjq_istore_n (lo' := [some (.ref l0), none, some (.int l2), some (.int (0 : Int32))]) D_126_43 (Nat.le_of_ble_eq_true rfl) rfl ?_
      exact (T_126_44 hR h1 h2 hk20 mjN) _ _ _ _ _ h
noncomputable def L_126_20 (R : mjR) (n : Nat) : Nat → Int32 → mjH → mjU := Nat.rec (motive := fun _ => Nat → Int32 → mjH → mjU) (fun _ _ _ => none) (fun _ self => b_126_20 R self) n
theorem T_126_20 {X : mjX} {d C S kc ks : Nat} {R : mjR} (hR : mjC R d) (h1 : kc ≤ C) (h2 : ks ≤ S) (n : Nat) : P_126_20 X (d + 1) C S kc ks (L_126_20 R n) := by
  induction n with
  | zero => intro _ _ _ _ h; exact mj_no h
  | succ n ih => exact t_126_20 hR h1 h2 ih
noncomputable def b_126_0 (R : mjR) (l0 : Nat) (l1 : Nat) (hp : mjH) : mjU := pR hp l0 8 1 l1 (fun hp1 => gR hp1 l1 7 14 (fun v2 => pR hp1 l0 8 2 v2 (fun hp3 => pI hp3 l0 8 9 (0 : Int32) (fun hp4 => L_126_20 R mjN l0 (0 : Int32) hp4))))
theorem t_126_0 {X : mjX} {d C S kc ks : Nat} {R : mjR} (hR : mjC R d) (h1 : kc ≤ C) (h2 : ks ≤ S) : P_126_0 X (d + 1) C S kc ks (b_126_0 R) := by
  intro l0 l1 hp q h
  unfold b_126_0 at h
  refine mjr_aload_n (x := l0) D_126_0 rfl ?_
  refine mjr_aload_n (x := l1) D_126_1 rfl ?_
  refine mjq_pR D_126_2 fr_8_15 rfl (fun _ => ⟨rfl, rfl⟩) h (fun hp1 h => ?_)
  refine mjr_aload_n (x := l0) D_126_5 rfl ?_
  refine mjr_aload_n (x := l1) D_126_6 rfl ?_
  refine mjq_gR D_126_7 fr_8_19 h (fun v2 h => ?_)
  refine mjq_pR D_126_10 fr_8_25 rfl (fun _ => ⟨rfl, rfl⟩) h (fun hp3 h => ?_)
  refine mjr_aload_n (x := l0) D_126_13 rfl ?_
  refine mjq_ic (v := (0 : Int32)) D_126_14 rfl ?_
  refine mjq_pI D_126_15 fr_8_47 rfl rfl h (fun hp4 h => ?_)
  refine mjq_ic (v := (0 : Int32)) D_126_18 rfl ?_
  refine mjq_istore_n (lo' := [some (.ref l0), some (.ref l1), some (.int (0 : Int32)), none]) D_126_19 (Nat.le_of_ble_eq_true rfl) rfl ?_
  exact mjG.fg (lo' := [some (.ref l0), none, some (.int (0 : Int32)), none]) (And.intro rfl (And.intro rfl True.intro)) ((T_126_20 hR h1 h2 mjN) _ _ _ _ h)
noncomputable def f_126 (R : mjR) (a0 : Nat) (a1 : Nat) (hp : mjH) : mjU := b_126_0 R a0 a1 hp
theorem c_126 {R : mjR} {d : Nat} (hR : mjC R d) {a0 : Nat} {a1 : Nat} {hp : mjH} {q : Option Value × mjH} (h : f_126 R a0 a1 hp = some q) : mjM (d + 1) 0 0 126 [.ref a0, .ref a1] hp (mjEq q) :=
  mjM_of Ja_126 (Nat.le_of_ble_eq_true rfl) (mjG.fg (lo' := [some (.ref a0), some (.ref a1), none, none]) (And.intro rfl (And.intro rfl True.intro)) ((t_126_0 hR (Nat.le_refl 0) (Nat.le_refl 0)) a0 a1 hp q h))
def J_127 : mjI := (⟨"OwnerHeap$Reader", "readHead", "(I)V"⟩, 8, prog_10_method_5_code, 2, none, 1, false)
theorem Ja_127 : mjMt 127 = some J_127 := by rfl
theorem D_127_0 : decode J_127.2.2.1 0 = .ok (.iload_n 1, 1) := dzq_27 (by decide +kernel)
theorem D_127_1 : decode J_127.2.2.1 1 = .ok (.bipush 16, 2) := dzq_16 (by decide +kernel)
theorem D_127_3 : decode J_127.2.2.1 3 = .ok (.if_icmp .ne 12, 3) := dzq_160 (by decide +kernel)
theorem D_127_6 : decode J_127.2.2.1 6 = .ok (.aload_n 0, 1) := dzq_42 (by decide +kernel)
theorem D_127_7 : decode J_127.2.2.1 7 = .ok (.getfield 9, 3) := dzq_180 (by decide +kernel)
theorem D_127_10 : decode J_127.2.2.1 10 = .ok (.iconst 3, 1) := dzq_6 (by decide +kernel)
theorem D_127_11 : decode J_127.2.2.1 11 = .ok (.invokevirtual 87, 3) := dzq_182 (by decide +kernel)
theorem D_127_14 : decode J_127.2.2.1 14 = .ok (.return_, 1) := dzq_177 (by decide +kernel)
theorem D_127_15 : decode J_127.2.2.1 15 = .ok (.aload_n 0, 1) := dzq_42 (by decide +kernel)
theorem D_127_16 : decode J_127.2.2.1 16 = .ok (.getfield 15, 3) := dzq_180 (by decide +kernel)
theorem D_127_19 : decode J_127.2.2.1 19 = .ok (.dup, 1) := dzq_89 (by decide +kernel)
theorem D_127_20 : decode J_127.2.2.1 20 = .ok (.getfield 93, 3) := dzq_180 (by decide +kernel)
theorem D_127_23 : decode J_127.2.2.1 23 = .ok (.iconst 1, 1) := dzq_4 (by decide +kernel)
theorem D_127_24 : decode J_127.2.2.1 24 = .ok (.iadd, 1) := dzq_96 (by decide +kernel)
theorem D_127_25 : decode J_127.2.2.1 25 = .ok (.putfield 93, 3) := dzq_181 (by decide +kernel)
theorem D_127_28 : decode J_127.2.2.1 28 = .ok (.aload_n 0, 1) := dzq_42 (by decide +kernel)
theorem D_127_29 : decode J_127.2.2.1 29 = .ok (.getfield 15, 3) := dzq_180 (by decide +kernel)
theorem D_127_32 : decode J_127.2.2.1 32 = .ok (.getfield 96, 3) := dzq_180 (by decide +kernel)
theorem D_127_35 : decode J_127.2.2.1 35 = .ok (.iload_n 1, 1) := dzq_27 (by decide +kernel)
theorem D_127_36 : decode J_127.2.2.1 36 = .ok (.aload_n 0, 1) := dzq_42 (by decide +kernel)
theorem D_127_37 : decode J_127.2.2.1 37 = .ok (.getfield 25, 3) := dzq_180 (by decide +kernel)
theorem D_127_40 : decode J_127.2.2.1 40 = .ok (.getfield 99, 3) := dzq_180 (by decide +kernel)
theorem D_127_43 : decode J_127.2.2.1 43 = .ok (.iastore, 1) := dzq_79 (by decide +kernel)
theorem D_127_44 : decode J_127.2.2.1 44 = .ok (.aload_n 0, 1) := dzq_42 (by decide +kernel)
theorem D_127_45 : decode J_127.2.2.1 45 = .ok (.getfield 9, 3) := dzq_180 (by decide +kernel)
theorem D_127_48 : decode J_127.2.2.1 48 = .ok (.invokevirtual 90, 3) := dzq_182 (by decide +kernel)
theorem D_127_51 : decode J_127.2.2.1 51 = .ok (.aload_n 0, 1) := dzq_42 (by decide +kernel)
theorem D_127_52 : decode J_127.2.2.1 52 = .ok (.getfield 26, 3) := dzq_180 (by decide +kernel)
theorem D_127_55 : decode J_127.2.2.1 55 = .ok (.iload_n 1, 1) := dzq_27 (by decide +kernel)
theorem D_127_56 : decode J_127.2.2.1 56 = .ok (.aload_n 0, 1) := dzq_42 (by decide +kernel)
theorem D_127_57 : decode J_127.2.2.1 57 = .ok (.getfield 9, 3) := dzq_180 (by decide +kernel)
theorem D_127_60 : decode J_127.2.2.1 60 = .ok (.invokevirtual 78, 3) := dzq_182 (by decide +kernel)
theorem D_127_63 : decode J_127.2.2.1 63 = .ok (.iastore, 1) := dzq_79 (by decide +kernel)
theorem D_127_64 : decode J_127.2.2.1 64 = .ok (.aload_n 0, 1) := dzq_42 (by decide +kernel)
theorem D_127_65 : decode J_127.2.2.1 65 = .ok (.getfield 15, 3) := dzq_180 (by decide +kernel)
theorem D_127_68 : decode J_127.2.2.1 68 = .ok (.getfield 102, 3) := dzq_180 (by decide +kernel)
theorem D_127_71 : decode J_127.2.2.1 71 = .ok (.iload_n 1, 1) := dzq_27 (by decide +kernel)
theorem D_127_72 : decode J_127.2.2.1 72 = .ok (.aload_n 0, 1) := dzq_42 (by decide +kernel)
theorem D_127_73 : decode J_127.2.2.1 73 = .ok (.getfield 9, 3) := dzq_180 (by decide +kernel)
theorem D_127_76 : decode J_127.2.2.1 76 = .ok (.aload_n 0, 1) := dzq_42 (by decide +kernel)
theorem D_127_77 : decode J_127.2.2.1 77 = .ok (.getfield 9, 3) := dzq_180 (by decide +kernel)
theorem D_127_80 : decode J_127.2.2.1 80 = .ok (.invokevirtual 78, 3) := dzq_182 (by decide +kernel)
theorem D_127_83 : decode J_127.2.2.1 83 = .ok (.invokevirtual 105, 3) := dzq_182 (by decide +kernel)
theorem D_127_86 : decode J_127.2.2.1 86 = .ok (.iastore, 1) := dzq_79 (by decide +kernel)
theorem D_127_87 : decode J_127.2.2.1 87 = .ok (.aload_n 0, 1) := dzq_42 (by decide +kernel)
theorem D_127_88 : decode J_127.2.2.1 88 = .ok (.getfield 9, 3) := dzq_180 (by decide +kernel)
theorem D_127_91 : decode J_127.2.2.1 91 = .ok (.iconst 2, 1) := dzq_5 (by decide +kernel)
theorem D_127_92 : decode J_127.2.2.1 92 = .ok (.invokevirtual 72, 3) := dzq_182 (by decide +kernel)
theorem D_127_95 : decode J_127.2.2.1 95 = .ok (.aload_n 0, 1) := dzq_42 (by decide +kernel)
theorem D_127_96 : decode J_127.2.2.1 96 = .ok (.iload_n 1, 1) := dzq_27 (by decide +kernel)
theorem D_127_97 : decode J_127.2.2.1 97 = .ok (.invokevirtual 109, 3) := dzq_182 (by decide +kernel)
theorem D_127_100 : decode J_127.2.2.1 100 = .ok (.aload_n 0, 1) := dzq_42 (by decide +kernel)
theorem D_127_101 : decode J_127.2.2.1 101 = .ok (.getfield 30, 3) := dzq_180 (by decide +kernel)
theorem D_127_104 : decode J_127.2.2.1 104 = .ok (.iload_n 1, 1) := dzq_27 (by decide +kernel)
theorem D_127_105 : decode J_127.2.2.1 105 = .ok (.iconst (-1), 1) := dzq_2 (by decide +kernel)
theorem D_127_106 : decode J_127.2.2.1 106 = .ok (.iastore, 1) := dzq_79 (by decide +kernel)
theorem D_127_107 : decode J_127.2.2.1 107 = .ok (.aload_n 0, 1) := dzq_42 (by decide +kernel)
theorem D_127_108 : decode J_127.2.2.1 108 = .ok (.getfield 9, 3) := dzq_180 (by decide +kernel)
theorem D_127_111 : decode J_127.2.2.1 111 = .ok (.bipush 6, 2) := dzq_16 (by decide +kernel)
theorem D_127_113 : decode J_127.2.2.1 113 = .ok (.invokevirtual 53, 3) := dzq_182 (by decide +kernel)
theorem D_127_116 : decode J_127.2.2.1 116 = .ok (.ifCond .eq 28, 3) := dzq_153 (by decide +kernel)
theorem D_127_119 : decode J_127.2.2.1 119 = .ok (.aload_n 0, 1) := dzq_42 (by decide +kernel)
theorem D_127_120 : decode J_127.2.2.1 120 = .ok (.getfield 30, 3) := dzq_180 (by decide +kernel)
theorem D_127_123 : decode J_127.2.2.1 123 = .ok (.iload_n 1, 1) := dzq_27 (by decide +kernel)
theorem D_127_124 : decode J_127.2.2.1 124 = .ok (.aload_n 0, 1) := dzq_42 (by decide +kernel)
theorem D_127_125 : decode J_127.2.2.1 125 = .ok (.getfield 9, 3) := dzq_180 (by decide +kernel)
theorem D_127_128 : decode J_127.2.2.1 128 = .ok (.invokevirtual 78, 3) := dzq_182 (by decide +kernel)
theorem D_127_131 : decode J_127.2.2.1 131 = .ok (.iastore, 1) := dzq_79 (by decide +kernel)
theorem D_127_132 : decode J_127.2.2.1 132 = .ok (.aload_n 0, 1) := dzq_42 (by decide +kernel)
theorem D_127_133 : decode J_127.2.2.1 133 = .ok (.getfield 9, 3) := dzq_180 (by decide +kernel)
theorem D_127_136 : decode J_127.2.2.1 136 = .ok (.invokevirtual 90, 3) := dzq_182 (by decide +kernel)
theorem D_127_139 : decode J_127.2.2.1 139 = .ok (.aload_n 0, 1) := dzq_42 (by decide +kernel)
theorem D_127_140 : decode J_127.2.2.1 140 = .ok (.iconst 0, 1) := dzq_3 (by decide +kernel)
theorem D_127_141 : decode J_127.2.2.1 141 = .ok (.invokevirtual 112, 3) := dzq_182 (by decide +kernel)
theorem D_127_144 : decode J_127.2.2.1 144 = .ok (.aload_n 0, 1) := dzq_42 (by decide +kernel)
theorem D_127_145 : decode J_127.2.2.1 145 = .ok (.getfield 9, 3) := dzq_180 (by decide +kernel)
theorem D_127_148 : decode J_127.2.2.1 148 = .ok (.bipush 7, 2) := dzq_16 (by decide +kernel)
theorem D_127_150 : decode J_127.2.2.1 150 = .ok (.invokevirtual 53, 3) := dzq_182 (by decide +kernel)
theorem D_127_153 : decode J_127.2.2.1 153 = .ok (.ifCond .eq 8, 3) := dzq_153 (by decide +kernel)
theorem D_127_156 : decode J_127.2.2.1 156 = .ok (.aload_n 0, 1) := dzq_42 (by decide +kernel)
theorem D_127_157 : decode J_127.2.2.1 157 = .ok (.iload_n 1, 1) := dzq_27 (by decide +kernel)
theorem D_127_158 : decode J_127.2.2.1 158 = .ok (.invokevirtual 116, 3) := dzq_182 (by decide +kernel)
theorem D_127_161 : decode J_127.2.2.1 161 = .ok (.aload_n 0, 1) := dzq_42 (by decide +kernel)
theorem D_127_162 : decode J_127.2.2.1 162 = .ok (.bipush 123, 2) := dzq_16 (by decide +kernel)
theorem D_127_164 : decode J_127.2.2.1 164 = .ok (.invokevirtual 119, 3) := dzq_182 (by decide +kernel)
theorem D_127_167 : decode J_127.2.2.1 167 = .ok (.return_, 1) := dzq_177 (by decide +kernel)
def P_127_161 (X : mjX) (d C S kc ks : Nat) (k : Nat → mjH → mjU) : Prop := ∀ (l0 : Nat) (hp : mjH) (q : Option Value × mjH), k l0 hp = some q → mjG X d C S J_127 (mjEq q) 161 [some (.ref l0), none] [] hp kc ks
def P_127_144 (X : mjX) (d C S kc ks : Nat) (k : Nat → Int32 → mjH → mjU) : Prop := ∀ (l0 : Nat) (l1 : Int32) (hp : mjH) (q : Option Value × mjH), k l0 l1 hp = some q → mjG X d C S J_127 (mjEq q) 144 [some (.ref l0), some (.int l1)] [] hp kc ks
def P_127_0 (X : mjX) (d C S kc ks : Nat) (k : Nat → Int32 → mjH → mjU) : Prop := ∀ (l0 : Nat) (l1 : Int32) (hp : mjH) (q : Option Value × mjH), k l0 l1 hp = some q → mjG X d C S J_127 (mjEq q) 0 [some (.ref l0), some (.int l1)] [] hp kc ks
noncomputable def b_127_161 (R : mjR) (l0 : Nat) (hp : mjH) : mjU := rV hp l0 8 (bN (R 134 [.ref l0, .int (123 : Int32)] hp) (fun  hp1 => some (none, hp1)))
theorem t_127_161 {X : mjX} {d C S kc ks : Nat} {R : mjR} (hR : mjC R d) (h1 : kc ≤ C) (h2 : ks ≤ S) : P_127_161 X (d + 1) C S kc ks (b_127_161 R) := by
  intro l0 hp q h
  unfold b_127_161 at h
  refine mjr_aload_n (x := l0) D_127_161 rfl ?_
  refine mjq_bi (v := (123 : Int32)) D_127_162 rfl ?_
  refine mjq_vN (As := [.int (123 : Int32)]) (rest := []) D_127_164 mr_8_119 V_134 rfl rfl rfl hR (Nat.le_refl _) h1 h2 h (fun  hp1 h => ?_)
  exact mjq_nret D_127_167 rfl h1 h2 h
noncomputable def b_127_144 (R : mjR) (l0 : Nat) (l1 : Int32) (hp : mjH) : mjU := gR hp l0 8 0 (fun v1 => rV hp v1 9 (bI (R 164 [.ref v1, .int (7 : Int32)] hp) (fun v2 hp3 => (if v2 = 0 then b_127_161 R l0 hp3 else rV hp3 l0 8 (bN (R 132 [.ref l0, .int l1] hp3) (fun  hp4 => b_127_161 R l0 hp4))))))
theorem t_127_144 {X : mjX} {d C S kc ks : Nat} {R : mjR} (hR : mjC R d) (h1 : kc ≤ C) (h2 : ks ≤ S) : P_127_144 X (d + 1) C S kc ks (b_127_144 R) := by
  intro l0 l1 hp q h
  unfold b_127_144 at h
  refine mjr_aload_n (x := l0) D_127_144 rfl ?_
  refine mjq_gR D_127_145 fr_8_9 h (fun v1 h => ?_)
  refine mjq_bi (v := (7 : Int32)) D_127_148 rfl ?_
  refine mjq_vI (As := [.int (7 : Int32)]) (rest := []) D_127_150 mr_8_53 V_164 rfl rfl rfl hR (Nat.le_refl _) h1 h2 h (fun v2 hp3 h => ?_)
  refine mjq_if_eq (tgt := 161) D_127_153 rfl h (fun h => ?_) (fun h => ?_)
  · exact mjG.fg (lo' := [some (.ref l0), none]) (And.intro rfl True.intro) ((t_127_161 hR h1 h2) _ _ _ h)
  · refine mjr_aload_n (x := l0) D_127_156 rfl ?_
    refine mjr_iload_n (x := l1) D_127_157 rfl ?_
    refine mjq_vN (As := [.int l1]) (rest := []) D_127_158 mr_8_116 V_132 rfl rfl rfl hR (Nat.le_refl _) h1 h2 h (fun  hp4 h => ?_)
    exact mjG.fg (lo' := [some (.ref l0), none]) (And.intro rfl True.intro) ((t_127_161 hR h1 h2) _ _ _ h)
noncomputable def b_127_0 (R : mjR) (l0 : Nat) (l1 : Int32) (hp : mjH) : mjU := (if l1 = (16 : Int32) then gR hp l0 8 0 (fun v41 => rV hp v41 9 (bN (R 165 [.ref v41, .int (3 : Int32)] hp) (fun  hp42 => some (none, hp42)))) else gR hp l0 8 1 (fun v1 => gI hp v1 7 0 (fun v2 => pI hp v1 7 0 (v2 + (1 : Int32)) (fun hp3 => gR hp3 l0 8 1 (fun v4 => gR hp3 v4 7 9 (fun v5 => gR hp3 l0 8 2 (fun v6 => gI hp3 v6 6 0 (fun v7 => sI hp3 v5 l1 v7 (fun hp8 => gR hp8 l0 8 0 (fun v9 => rV hp8 v9 9 (bN (R 166 [.ref v9] hp8) (fun  hp10 => gR hp10 l0 8 3 (fun v11 => gR hp10 l0 8 0 (fun v12 => rV hp10 v12 9 (bI (R 167 [.ref v12] hp10) (fun v13 hp14 => sI hp14 v11 l1 v13 (fun hp15 => gR hp15 l0 8 1 (fun v16 => gR hp15 v16 7 2 (fun v17 => gR hp15 l0 8 0 (fun v18 => gR hp15 l0 8 0 (fun v19 => rV hp15 v19 9 (bI (R 167 [.ref v19] hp15) (fun v20 hp21 => rV hp21 v18 9 (bI (R 168 [.ref v18, .int v20] hp21) (fun v22 hp23 => sI hp23 v17 l1 v22 (fun hp24 => gR hp24 l0 8 0 (fun v25 => rV hp24 v25 9 (bN (R 169 [.ref v25, .int (2 : Int32)] hp24) (fun  hp26 => rV hp26 l0 8 (bN (R 128 [.ref l0, .int l1] hp26) (fun  hp27 => gR hp27 l0 8 4 (fun v28 => sI hp27 v28 l1 (-1 : Int32) (fun hp29 => gR hp29 l0 8 0 (fun v30 => rV hp29 v30 9 (bI (R 164 [.ref v30, .int (6 : Int32)] hp29) (fun v31 hp32 => (if v31 = 0 then b_127_144 R l0 l1 hp32 else gR hp32 l0 8 4 (fun v33 => gR hp32 l0 8 0 (fun v34 => rV hp32 v34 9 (bI (R 167 [.ref v34] hp32) (fun v35 hp36 => sI hp36 v33 l1 v35 (fun hp37 => gR hp37 l0 8 0 (fun v38 => rV hp37 v38 9 (bN (R 166 [.ref v38] hp37) (fun  hp39 => rV hp39 l0 8 (bN (R 130 [.ref l0, .int (0 : Int32)] hp39) (fun  hp40 => b_127_144 R l0 l1 hp40)))))))))))))))))))))))))))))))))))))))))))))))
theorem t_127_0 {X : mjX} {d C S kc ks : Nat} {R : mjR} (hR : mjC R d) (h1 : kc ≤ C) (h2 : ks ≤ S) : P_127_0 X (d + 1) C S kc ks (b_127_0 R) := by
  intro l0 l1 hp q h
  unfold b_127_0 at h
  refine mjr_iload_n (x := l1) D_127_0 rfl ?_
  refine mjq_bi (v := (16 : Int32)) D_127_1 rfl ?_
  refine mjq_icmp_ne (tgt := 15) D_127_3 rfl h (fun h => ?_) (fun h => ?_)
  · refine mjr_aload_n (x := l0) D_127_15 rfl ?_
    refine mjq_gR D_127_16 fr_8_15 h (fun v1 h => ?_)
    refine mjr_dup D_127_19 rfl ?_
    refine mjq_gI D_127_20 fr_8_93 h (fun v2 h => ?_)
    refine mjq_ic (v := (1 : Int32)) D_127_23 rfl ?_
    refine mjr_iadd D_127_24 ?_
    refine mjq_pI D_127_25 fr_8_93 rfl rfl h (fun hp3 h => ?_)
    refine mjr_aload_n (x := l0) D_127_28 rfl ?_
    refine mjq_gR D_127_29 fr_8_15 h (fun v4 h => ?_)
    refine mjq_gR D_127_32 fr_8_96 h (fun v5 h => ?_)
    refine mjr_iload_n (x := l1) D_127_35 rfl ?_
    refine mjr_aload_n (x := l0) D_127_36 rfl ?_
    refine mjq_gR D_127_37 fr_8_25 h (fun v6 h => ?_)
    refine mjq_gI D_127_40 fr_8_99 h (fun v7 h => ?_)
    refine mjq_sI D_127_43 h (fun hp8 h => ?_)
    refine mjr_aload_n (x := l0) D_127_44 rfl ?_
    refine mjq_gR D_127_45 fr_8_9 h (fun v9 h => ?_)
    refine mjq_vN (As := []) (rest := []) D_127_48 mr_8_90 V_166 rfl rfl rfl hR (Nat.le_refl _) h1 h2 h (fun  hp10 h => ?_)
    refine mjr_aload_n (x := l0) D_127_51 rfl ?_
    refine mjq_gR D_127_52 fr_8_26 h (fun v11 h => ?_)
    refine mjr_iload_n (x := l1) D_127_55 rfl ?_
    refine mjr_aload_n (x := l0) D_127_56 rfl ?_
    refine mjq_gR D_127_57 fr_8_9 h (fun v12 h => ?_)
    refine mjq_vI (As := []) (rest := [.int l1, .ref v11]) D_127_60 mr_8_78 V_167 rfl rfl rfl hR (Nat.le_refl _) h1 h2 h (fun v13 hp14 h => ?_)
    refine mjq_sI D_127_63 h (fun hp15 h => ?_)
    refine mjr_aload_n (x := l0) D_127_64 rfl ?_
    refine mjq_gR D_127_65 fr_8_15 h (fun v16 h => ?_)
    refine mjq_gR D_127_68 fr_8_102 h (fun v17 h => ?_)
    refine mjr_iload_n (x := l1) D_127_71 rfl ?_
    refine mjr_aload_n (x := l0) D_127_72 rfl ?_
    refine mjq_gR D_127_73 fr_8_9 h (fun v18 h => ?_)
    refine mjr_aload_n (x := l0) D_127_76 rfl ?_
    refine mjq_gR D_127_77 fr_8_9 h (fun v19 h => ?_)
    refine mjq_vI (As := []) (rest := [.ref v18, .int l1, .ref v17]) D_127_80 mr_8_78 V_167 rfl rfl rfl hR (Nat.le_refl _) h1 h2 h (fun v20 hp21 h => ?_)
    refine mjq_vI (As := [.int v20]) (rest := [.int l1, .ref v17]) D_127_83 mr_8_105 V_168 rfl rfl rfl hR (Nat.le_refl _) h1 h2 h (fun v22 hp23 h => ?_)
    refine mjq_sI D_127_86 h (fun hp24 h => ?_)
    refine mjr_aload_n (x := l0) D_127_87 rfl ?_
    refine mjq_gR D_127_88 fr_8_9 h (fun v25 h => ?_)
    refine mjq_ic (v := (2 : Int32)) D_127_91 rfl ?_
    refine mjq_vN (As := [.int (2 : Int32)]) (rest := []) D_127_92 mr_8_72 V_169 rfl rfl rfl hR (Nat.le_refl _) h1 h2 h (fun  hp26 h => ?_)
    refine mjr_aload_n (x := l0) D_127_95 rfl ?_
    refine mjr_iload_n (x := l1) D_127_96 rfl ?_
    refine mjq_vN (As := [.int l1]) (rest := []) D_127_97 mr_8_109 V_128 rfl rfl rfl hR (Nat.le_refl _) h1 h2 h (fun  hp27 h => ?_)
    refine mjr_aload_n (x := l0) D_127_100 rfl ?_
    refine mjq_gR D_127_101 fr_8_30 h (fun v28 h => ?_)
    refine mjr_iload_n (x := l1) D_127_104 rfl ?_
    refine mjq_ic (v := (-1 : Int32)) D_127_105 rfl ?_
    refine mjq_sI D_127_106 h (fun hp29 h => ?_)
    refine mjr_aload_n (x := l0) D_127_107 rfl ?_
    refine mjq_gR D_127_108 fr_8_9 h (fun v30 h => ?_)
    refine mjq_bi (v := (6 : Int32)) D_127_111 rfl ?_
    refine mjq_vI (As := [.int (6 : Int32)]) (rest := []) D_127_113 mr_8_53 V_164 rfl rfl rfl hR (Nat.le_refl _) h1 h2 h (fun v31 hp32 h => ?_)
    refine mjq_if_eq (tgt := 144) D_127_116 rfl h (fun h => ?_) (fun h => ?_)
    · exact (t_127_144 hR h1 h2) _ _ _ _ h
    · refine mjr_aload_n (x := l0) D_127_119 rfl ?_
      refine mjq_gR D_127_120 fr_8_30 h (fun v33 h => ?_)
      refine mjr_iload_n (x := l1) D_127_123 rfl ?_
      refine mjr_aload_n (x := l0) D_127_124 rfl ?_
      refine mjq_gR D_127_125 fr_8_9 h (fun v34 h => ?_)
      refine mjq_vI (As := []) (rest := [.int l1, .ref v33]) D_127_128 mr_8_78 V_167 rfl rfl rfl hR (Nat.le_refl _) h1 h2 h (fun v35 hp36 h => ?_)
      refine mjq_sI D_127_131 h (fun hp37 h => ?_)
      refine mjr_aload_n (x := l0) D_127_132 rfl ?_
      refine mjq_gR D_127_133 fr_8_9 h (fun v38 h => ?_)
      refine mjq_vN (As := []) (rest := []) D_127_136 mr_8_90 V_166 rfl rfl rfl hR (Nat.le_refl _) h1 h2 h (fun  hp39 h => ?_)
      refine mjr_aload_n (x := l0) D_127_139 rfl ?_
      refine mjq_ic (v := (0 : Int32)) D_127_140 rfl ?_
      refine mjq_vN (As := [.int (0 : Int32)]) (rest := []) D_127_141 mr_8_112 V_130 rfl rfl rfl hR (Nat.le_refl _) h1 h2 h (fun  hp40 h => ?_)
      exact (t_127_144 hR h1 h2) _ _ _ _ h
  · refine mjr_aload_n (x := l0) D_127_6 rfl ?_
    refine mjq_gR D_127_7 fr_8_9 h (fun v41 h => ?_)
    refine mjq_ic (v := (3 : Int32)) D_127_10 rfl ?_
    refine mjq_vN (As := [.int (3 : Int32)]) (rest := []) D_127_11 mr_8_87 V_165 rfl rfl rfl hR (Nat.le_refl _) h1 h2 h (fun  hp42 h => ?_)
    exact mjq_nret D_127_14 rfl h1 h2 h
noncomputable def f_127 (R : mjR) (a0 : Nat) (a1 : Int32) (hp : mjH) : mjU := b_127_0 R a0 a1 hp
theorem c_127 {R : mjR} {d : Nat} (hR : mjC R d) {a0 : Nat} {a1 : Int32} {hp : mjH} {q : Option Value × mjH} (h : f_127 R a0 a1 hp = some q) : mjM (d + 1) 0 0 127 [.ref a0, .int a1] hp (mjEq q) :=
  mjM_of Ja_127 (Nat.le_of_ble_eq_true rfl) (mjG.fg (lo' := [some (.ref a0), some (.int a1)]) (And.intro rfl (And.intro rfl True.intro)) ((t_127_0 hR (Nat.le_refl 0) (Nat.le_refl 0)) a0 a1 hp q h))
def J_128 : mjI := (⟨"OwnerHeap$Reader", "readNames", "(I)V"⟩, 8, prog_10_method_6_code, 3, none, 1, false)
theorem Ja_128 : mjMt 128 = some J_128 := by rfl
theorem D_128_0 : decode J_128.2.2.1 0 = .ok (.aload_n 0, 1) := dzq_42 (by decide +kernel)
theorem D_128_1 : decode J_128.2.2.1 1 = .ok (.getfield 9, 3) := dzq_180 (by decide +kernel)
theorem D_128_4 : decode J_128.2.2.1 4 = .ok (.bipush 91, 2) := dzq_16 (by decide +kernel)
theorem D_128_6 : decode J_128.2.2.1 6 = .ok (.invokevirtual 72, 3) := dzq_182 (by decide +kernel)
theorem D_128_9 : decode J_128.2.2.1 9 = .ok (.aload_n 0, 1) := dzq_42 (by decide +kernel)
theorem D_128_10 : decode J_128.2.2.1 10 = .ok (.iload_n 1, 1) := dzq_27 (by decide +kernel)
theorem D_128_11 : decode J_128.2.2.1 11 = .ok (.invokevirtual 122, 3) := dzq_182 (by decide +kernel)
theorem D_128_14 : decode J_128.2.2.1 14 = .ok (.iconst 0, 1) := dzq_3 (by decide +kernel)
theorem D_128_15 : decode J_128.2.2.1 15 = .ok (.istore_n 2, 1) := dzq_61 (by decide +kernel)
theorem D_128_16 : decode J_128.2.2.1 16 = .ok (.iload_n 2, 1) := dzq_28 (by decide +kernel)
theorem D_128_17 : decode J_128.2.2.1 17 = .ok (.iconst 5, 1) := dzq_8 (by decide +kernel)
theorem D_128_18 : decode J_128.2.2.1 18 = .ok (.if_icmp .ge 33, 3) := dzq_162 (by decide +kernel)
theorem D_128_21 : decode J_128.2.2.1 21 = .ok (.aload_n 0, 1) := dzq_42 (by decide +kernel)
theorem D_128_22 : decode J_128.2.2.1 22 = .ok (.getfield 9, 3) := dzq_180 (by decide +kernel)
theorem D_128_25 : decode J_128.2.2.1 25 = .ok (.bipush 44, 2) := dzq_16 (by decide +kernel)
theorem D_128_27 : decode J_128.2.2.1 27 = .ok (.invokevirtual 53, 3) := dzq_182 (by decide +kernel)
theorem D_128_30 : decode J_128.2.2.1 30 = .ok (.ifCond .eq 21, 3) := dzq_153 (by decide +kernel)
theorem D_128_33 : decode J_128.2.2.1 33 = .ok (.aload_n 0, 1) := dzq_42 (by decide +kernel)
theorem D_128_34 : decode J_128.2.2.1 34 = .ok (.getfield 9, 3) := dzq_180 (by decide +kernel)
theorem D_128_37 : decode J_128.2.2.1 37 = .ok (.invokevirtual 90, 3) := dzq_182 (by decide +kernel)
theorem D_128_40 : decode J_128.2.2.1 40 = .ok (.aload_n 0, 1) := dzq_42 (by decide +kernel)
theorem D_128_41 : decode J_128.2.2.1 41 = .ok (.iload_n 1, 1) := dzq_27 (by decide +kernel)
theorem D_128_42 : decode J_128.2.2.1 42 = .ok (.invokevirtual 122, 3) := dzq_182 (by decide +kernel)
theorem D_128_45 : decode J_128.2.2.1 45 = .ok (.iinc 2 1, 3) := dzq_132 (by decide +kernel)
theorem D_128_48 : decode J_128.2.2.1 48 = .ok (.goto (-32), 3) := dzq_167 (by decide +kernel)
theorem D_128_51 : decode J_128.2.2.1 51 = .ok (.aload_n 0, 1) := dzq_42 (by decide +kernel)
theorem D_128_52 : decode J_128.2.2.1 52 = .ok (.getfield 9, 3) := dzq_180 (by decide +kernel)
theorem D_128_55 : decode J_128.2.2.1 55 = .ok (.bipush 93, 2) := dzq_16 (by decide +kernel)
theorem D_128_57 : decode J_128.2.2.1 57 = .ok (.invokevirtual 72, 3) := dzq_182 (by decide +kernel)
theorem D_128_60 : decode J_128.2.2.1 60 = .ok (.return_, 1) := dzq_177 (by decide +kernel)
def P_128_51 (X : mjX) (d C S kc ks : Nat) (k : Nat → mjH → mjU) : Prop := ∀ (l0 : Nat) (hp : mjH) (q : Option Value × mjH), k l0 hp = some q → mjG X d C S J_128 (mjEq q) 51 [some (.ref l0), none, none] [] hp kc ks
def P_128_16 (X : mjX) (d C S kc ks : Nat) (k : Nat → Int32 → Int32 → mjH → mjU) : Prop := ∀ (l0 : Nat) (l1 : Int32) (l2 : Int32) (hp : mjH) (q : Option Value × mjH), k l0 l1 l2 hp = some q → mjG X d C S J_128 (mjEq q) 16 [some (.ref l0), some (.int l1), some (.int l2)] [] hp kc ks
def P_128_0 (X : mjX) (d C S kc ks : Nat) (k : Nat → Int32 → mjH → mjU) : Prop := ∀ (l0 : Nat) (l1 : Int32) (hp : mjH) (q : Option Value × mjH), k l0 l1 hp = some q → mjG X d C S J_128 (mjEq q) 0 [some (.ref l0), some (.int l1), none] [] hp kc ks
noncomputable def b_128_51 (R : mjR) (l0 : Nat) (hp : mjH) : mjU := gR hp l0 8 0 (fun v1 => rV hp v1 9 (bN (R 169 [.ref v1, .int (93 : Int32)] hp) (fun  hp2 => some (none, hp2))))
theorem t_128_51 {X : mjX} {d C S kc ks : Nat} {R : mjR} (hR : mjC R d) (h1 : kc ≤ C) (h2 : ks ≤ S) : P_128_51 X (d + 1) C S kc ks (b_128_51 R) := by
  intro l0 hp q h
  unfold b_128_51 at h
  refine mjr_aload_n (x := l0) D_128_51 rfl ?_
  refine mjq_gR D_128_52 fr_8_9 h (fun v1 h => ?_)
  refine mjq_bi (v := (93 : Int32)) D_128_55 rfl ?_
  refine mjq_vN (As := [.int (93 : Int32)]) (rest := []) D_128_57 mr_8_72 V_169 rfl rfl rfl hR (Nat.le_refl _) h1 h2 h (fun  hp2 h => ?_)
  exact mjq_nret D_128_60 rfl h1 h2 h
noncomputable def b_128_16 (R : mjR) (k16 : Nat → Int32 → Int32 → mjH → mjU) (l0 : Nat) (l1 : Int32) (l2 : Int32) (hp : mjH) : mjU := (if (5 : Int32) ≤ l2 then b_128_51 R l0 hp else gR hp l0 8 0 (fun v1 => rV hp v1 9 (bI (R 164 [.ref v1, .int (44 : Int32)] hp) (fun v2 hp3 => (if v2 = 0 then b_128_51 R l0 hp3 else gR hp3 l0 8 0 (fun v4 => rV hp3 v4 9 (bN (R 166 [.ref v4] hp3) (fun  hp5 => rV hp5 l0 8 (bN (R 129 [.ref l0, .int l1] hp5) (fun  hp6 => k16 l0 l1 (l2 + (1 : Int32)) hp6))))))))))
theorem t_128_16 {X : mjX} {d C S kc ks : Nat} {R : mjR} (hR : mjC R d) (h1 : kc ≤ C) (h2 : ks ≤ S) {k16 : Nat → Int32 → Int32 → mjH → mjU} (hk16 : P_128_16 X (d + 1) C S kc ks k16) : P_128_16 X (d + 1) C S kc ks (b_128_16 R k16) := by
  intro l0 l1 l2 hp q h
  unfold b_128_16 at h
  refine mjr_iload_n (x := l2) D_128_16 rfl ?_
  refine mjq_ic (v := (5 : Int32)) D_128_17 rfl ?_
  refine mjq_icmp_ge (tgt := 51) D_128_18 rfl h (fun h => ?_) (fun h => ?_)
  · exact mjG.fg (lo' := [some (.ref l0), none, none]) (And.intro rfl True.intro) ((t_128_51 hR h1 h2) _ _ _ h)
  · refine mjr_aload_n (x := l0) D_128_21 rfl ?_
    refine mjq_gR D_128_22 fr_8_9 h (fun v1 h => ?_)
    refine mjq_bi (v := (44 : Int32)) D_128_25 rfl ?_
    refine mjq_vI (As := [.int (44 : Int32)]) (rest := []) D_128_27 mr_8_53 V_164 rfl rfl rfl hR (Nat.le_refl _) h1 h2 h (fun v2 hp3 h => ?_)
    refine mjq_if_eq (tgt := 51) D_128_30 rfl h (fun h => ?_) (fun h => ?_)
    · exact mjG.fg (lo' := [some (.ref l0), none, none]) (And.intro rfl True.intro) ((t_128_51 hR h1 h2) _ _ _ h)
    · refine mjr_aload_n (x := l0) D_128_33 rfl ?_
      refine mjq_gR D_128_34 fr_8_9 h (fun v4 h => ?_)
      refine mjq_vN (As := []) (rest := []) D_128_37 mr_8_90 V_166 rfl rfl rfl hR (Nat.le_refl _) h1 h2 h (fun  hp5 h => ?_)
      refine mjr_aload_n (x := l0) D_128_40 rfl ?_
      refine mjr_iload_n (x := l1) D_128_41 rfl ?_
      refine mjq_vN (As := [.int l1]) (rest := []) D_128_42 mr_8_122 V_129 rfl rfl rfl hR (Nat.le_refl _) h1 h2 h (fun  hp6 h => ?_)
      refine mjq_iinc (x := l2) (c := (1 : Int32)) (lo' := [some (.ref l0), some (.int l1), some (.int (l2 + (1 : Int32)))]) D_128_45 rfl (Nat.le_of_ble_eq_true rfl) rfl rfl ?_
      refine mjr_goto (tgt := 16) D_128_48 rfl ?_
      exact hk16 _ _ _ _ _ h
noncomputable def L_128_16 (R : mjR) (n : Nat) : Nat → Int32 → Int32 → mjH → mjU := Nat.rec (motive := fun _ => Nat → Int32 → Int32 → mjH → mjU) (fun _ _ _ _ => none) (fun _ self => b_128_16 R self) n
theorem T_128_16 {X : mjX} {d C S kc ks : Nat} {R : mjR} (hR : mjC R d) (h1 : kc ≤ C) (h2 : ks ≤ S) (n : Nat) : P_128_16 X (d + 1) C S kc ks (L_128_16 R n) := by
  induction n with
  | zero => intro _ _ _ _ _ h; exact mj_no h
  | succ n ih => exact t_128_16 hR h1 h2 ih
noncomputable def b_128_0 (R : mjR) (l0 : Nat) (l1 : Int32) (hp : mjH) : mjU := gR hp l0 8 0 (fun v1 => rV hp v1 9 (bN (R 169 [.ref v1, .int (91 : Int32)] hp) (fun  hp2 => rV hp2 l0 8 (bN (R 129 [.ref l0, .int l1] hp2) (fun  hp3 => L_128_16 R mjN l0 l1 (0 : Int32) hp3)))))
theorem t_128_0 {X : mjX} {d C S kc ks : Nat} {R : mjR} (hR : mjC R d) (h1 : kc ≤ C) (h2 : ks ≤ S) : P_128_0 X (d + 1) C S kc ks (b_128_0 R) := by
  intro l0 l1 hp q h
  unfold b_128_0 at h
  refine mjr_aload_n (x := l0) D_128_0 rfl ?_
  refine mjq_gR D_128_1 fr_8_9 h (fun v1 h => ?_)
  refine mjq_bi (v := (91 : Int32)) D_128_4 rfl ?_
  refine mjq_vN (As := [.int (91 : Int32)]) (rest := []) D_128_6 mr_8_72 V_169 rfl rfl rfl hR (Nat.le_refl _) h1 h2 h (fun  hp2 h => ?_)
  refine mjr_aload_n (x := l0) D_128_9 rfl ?_
  refine mjr_iload_n (x := l1) D_128_10 rfl ?_
  refine mjq_vN (As := [.int l1]) (rest := []) D_128_11 mr_8_122 V_129 rfl rfl rfl hR (Nat.le_refl _) h1 h2 h (fun  hp3 h => ?_)
  refine mjq_ic (v := (0 : Int32)) D_128_14 rfl ?_
  refine mjq_istore_n (lo' := [some (.ref l0), some (.int l1), some (.int (0 : Int32))]) D_128_15 (Nat.le_of_ble_eq_true rfl) rfl ?_
  exact (T_128_16 hR h1 h2 mjN) _ _ _ _ _ h
noncomputable def f_128 (R : mjR) (a0 : Nat) (a1 : Int32) (hp : mjH) : mjU := b_128_0 R a0 a1 hp
theorem c_128 {R : mjR} {d : Nat} (hR : mjC R d) {a0 : Nat} {a1 : Int32} {hp : mjH} {q : Option Value × mjH} (h : f_128 R a0 a1 hp = some q) : mjM (d + 1) 0 0 128 [.ref a0, .int a1] hp (mjEq q) :=
  mjM_of Ja_128 (Nat.le_of_ble_eq_true rfl) (mjG.fg (lo' := [some (.ref a0), some (.int a1), none]) (And.intro rfl (And.intro rfl True.intro)) ((t_128_0 hR (Nat.le_refl 0) (Nat.le_refl 0)) a0 a1 hp q h))
def J_129 : mjI := (⟨"OwnerHeap$Reader", "readName", "(I)V"⟩, 8, prog_10_method_7_code, 2, none, 1, false)
theorem Ja_129 : mjMt 129 = some J_129 := by rfl
theorem D_129_0 : decode J_129.2.2.1 0 = .ok (.aload_n 0, 1) := dzq_42 (by decide +kernel)
theorem D_129_1 : decode J_129.2.2.1 1 = .ok (.getfield 9, 3) := dzq_180 (by decide +kernel)
theorem D_129_4 : decode J_129.2.2.1 4 = .ok (.iconst 3, 1) := dzq_6 (by decide +kernel)
theorem D_129_5 : decode J_129.2.2.1 5 = .ok (.invokevirtual 53, 3) := dzq_182 (by decide +kernel)
theorem D_129_8 : decode J_129.2.2.1 8 = .ok (.ifCond .ne 14, 3) := dzq_154 (by decide +kernel)
theorem D_129_11 : decode J_129.2.2.1 11 = .ok (.aload_n 0, 1) := dzq_42 (by decide +kernel)
theorem D_129_12 : decode J_129.2.2.1 12 = .ok (.getfield 9, 3) := dzq_180 (by decide +kernel)
theorem D_129_15 : decode J_129.2.2.1 15 = .ok (.iconst 2, 1) := dzq_5 (by decide +kernel)
theorem D_129_16 : decode J_129.2.2.1 16 = .ok (.invokevirtual 87, 3) := dzq_182 (by decide +kernel)
theorem D_129_19 : decode J_129.2.2.1 19 = .ok (.goto 47, 3) := dzq_167 (by decide +kernel)
theorem D_129_22 : decode J_129.2.2.1 22 = .ok (.aload_n 0, 1) := dzq_42 (by decide +kernel)
theorem D_129_23 : decode J_129.2.2.1 23 = .ok (.getfield 15, 3) := dzq_180 (by decide +kernel)
theorem D_129_26 : decode J_129.2.2.1 26 = .ok (.getfield 125, 3) := dzq_180 (by decide +kernel)
theorem D_129_29 : decode J_129.2.2.1 29 = .ok (.iload_n 1, 1) := dzq_27 (by decide +kernel)
theorem D_129_30 : decode J_129.2.2.1 30 = .ok (.iaload, 1) := dzq_46 (by decide +kernel)
theorem D_129_31 : decode J_129.2.2.1 31 = .ok (.iconst 5, 1) := dzq_8 (by decide +kernel)
theorem D_129_32 : decode J_129.2.2.1 32 = .ok (.if_icmp .ne 14, 3) := dzq_160 (by decide +kernel)
theorem D_129_35 : decode J_129.2.2.1 35 = .ok (.aload_n 0, 1) := dzq_42 (by decide +kernel)
theorem D_129_36 : decode J_129.2.2.1 36 = .ok (.getfield 9, 3) := dzq_180 (by decide +kernel)
theorem D_129_39 : decode J_129.2.2.1 39 = .ok (.iconst 3, 1) := dzq_6 (by decide +kernel)
theorem D_129_40 : decode J_129.2.2.1 40 = .ok (.invokevirtual 87, 3) := dzq_182 (by decide +kernel)
theorem D_129_43 : decode J_129.2.2.1 43 = .ok (.goto 23, 3) := dzq_167 (by decide +kernel)
theorem D_129_46 : decode J_129.2.2.1 46 = .ok (.aload_n 0, 1) := dzq_42 (by decide +kernel)
theorem D_129_47 : decode J_129.2.2.1 47 = .ok (.getfield 15, 3) := dzq_180 (by decide +kernel)
theorem D_129_50 : decode J_129.2.2.1 50 = .ok (.getfield 125, 3) := dzq_180 (by decide +kernel)
theorem D_129_53 : decode J_129.2.2.1 53 = .ok (.iload_n 1, 1) := dzq_27 (by decide +kernel)
theorem D_129_54 : decode J_129.2.2.1 54 = .ok (.dup2, 1) := by decide +kernel
theorem D_129_55 : decode J_129.2.2.1 55 = .ok (.iaload, 1) := dzq_46 (by decide +kernel)
theorem D_129_56 : decode J_129.2.2.1 56 = .ok (.iconst 1, 1) := dzq_4 (by decide +kernel)
theorem D_129_57 : decode J_129.2.2.1 57 = .ok (.iadd, 1) := dzq_96 (by decide +kernel)
theorem D_129_58 : decode J_129.2.2.1 58 = .ok (.iastore, 1) := dzq_79 (by decide +kernel)
theorem D_129_59 : decode J_129.2.2.1 59 = .ok (.aload_n 0, 1) := dzq_42 (by decide +kernel)
theorem D_129_60 : decode J_129.2.2.1 60 = .ok (.getfield 9, 3) := dzq_180 (by decide +kernel)
theorem D_129_63 : decode J_129.2.2.1 63 = .ok (.invokevirtual 90, 3) := dzq_182 (by decide +kernel)
theorem D_129_66 : decode J_129.2.2.1 66 = .ok (.return_, 1) := dzq_177 (by decide +kernel)
def P_129_0 (X : mjX) (d C S kc ks : Nat) (k : Nat → Int32 → mjH → mjU) : Prop := ∀ (l0 : Nat) (l1 : Int32) (hp : mjH) (q : Option Value × mjH), k l0 l1 hp = some q → mjG X d C S J_129 (mjEq q) 0 [some (.ref l0), some (.int l1)] [] hp kc ks
noncomputable def b_129_0 (R : mjR) (l0 : Nat) (l1 : Int32) (hp : mjH) : mjU := gR hp l0 8 0 (fun v1 => rV hp v1 9 (bI (R 164 [.ref v1, .int (3 : Int32)] hp) (fun v2 hp3 => (if v2 = 0 then gR hp3 l0 8 0 (fun v15 => rV hp3 v15 9 (bN (R 165 [.ref v15, .int (2 : Int32)] hp3) (fun  hp16 => some (none, hp16)))) else gR hp3 l0 8 1 (fun v4 => gR hp3 v4 7 1 (fun v5 => aI hp3 v5 l1 (fun v6 => (if v6 = (5 : Int32) then gR hp3 l0 8 0 (fun v13 => rV hp3 v13 9 (bN (R 165 [.ref v13, .int (3 : Int32)] hp3) (fun  hp14 => some (none, hp14)))) else gR hp3 l0 8 1 (fun v7 => gR hp3 v7 7 1 (fun v8 => aI hp3 v8 l1 (fun v9 => sI hp3 v8 l1 (v9 + (1 : Int32)) (fun hp10 => gR hp10 l0 8 0 (fun v11 => rV hp10 v11 9 (bN (R 166 [.ref v11] hp10) (fun  hp12 => some (none, hp12))))))))))))))))
theorem t_129_0 {X : mjX} {d C S kc ks : Nat} {R : mjR} (hR : mjC R d) (h1 : kc ≤ C) (h2 : ks ≤ S) : P_129_0 X (d + 1) C S kc ks (b_129_0 R) := by
  intro l0 l1 hp q h
  unfold b_129_0 at h
  refine mjr_aload_n (x := l0) D_129_0 rfl ?_
  refine mjq_gR D_129_1 fr_8_9 h (fun v1 h => ?_)
  refine mjq_ic (v := (3 : Int32)) D_129_4 rfl ?_
  refine mjq_vI (As := [.int (3 : Int32)]) (rest := []) D_129_5 mr_8_53 V_164 rfl rfl rfl hR (Nat.le_refl _) h1 h2 h (fun v2 hp3 h => ?_)
  refine mjq_if_ne (tgt := 22) D_129_8 rfl h (fun h => ?_) (fun h => ?_)
  · refine mjr_aload_n (x := l0) D_129_22 rfl ?_
    refine mjq_gR D_129_23 fr_8_15 h (fun v4 h => ?_)
    refine mjq_gR D_129_26 fr_8_125 h (fun v5 h => ?_)
    refine mjr_iload_n (x := l1) D_129_29 rfl ?_
    refine mjq_aI D_129_30 h (fun v6 h => ?_)
    refine mjq_ic (v := (5 : Int32)) D_129_31 rfl ?_
    refine mjq_icmp_ne (tgt := 46) D_129_32 rfl h (fun h => ?_) (fun h => ?_)
    · refine mjr_aload_n (x := l0) D_129_46 rfl ?_
      refine mjq_gR D_129_47 fr_8_15 h (fun v7 h => ?_)
      refine mjq_gR D_129_50 fr_8_125 h (fun v8 h => ?_)
      refine mjr_iload_n (x := l1) D_129_53 rfl ?_
      refine mjr_dup2 D_129_54 rfl rfl ?_
      refine mjq_aI D_129_55 h (fun v9 h => ?_)
      refine mjq_ic (v := (1 : Int32)) D_129_56 rfl ?_
      refine mjr_iadd D_129_57 ?_
      refine mjq_sI D_129_58 h (fun hp10 h => ?_)
      refine mjr_aload_n (x := l0) D_129_59 rfl ?_
      refine mjq_gR D_129_60 fr_8_9 h (fun v11 h => ?_)
      refine mjq_vN (As := []) (rest := []) D_129_63 mr_8_90 V_166 rfl rfl rfl hR (Nat.le_refl _) h1 h2 h (fun  hp12 h => ?_)
      exact mjq_nret D_129_66 rfl h1 h2 h
    · refine mjr_aload_n (x := l0) D_129_35 rfl ?_
      refine mjq_gR D_129_36 fr_8_9 h (fun v13 h => ?_)
      refine mjq_ic (v := (3 : Int32)) D_129_39 rfl ?_
      refine mjq_vN (As := [.int (3 : Int32)]) (rest := []) D_129_40 mr_8_87 V_165 rfl rfl rfl hR (Nat.le_refl _) h1 h2 h (fun  hp14 h => ?_)
      refine mjr_goto (tgt := 66) D_129_43 rfl ?_
      exact mjq_nret D_129_66 rfl h1 h2 h
  · refine mjr_aload_n (x := l0) D_129_11 rfl ?_
    refine mjq_gR D_129_12 fr_8_9 h (fun v15 h => ?_)
    refine mjq_ic (v := (2 : Int32)) D_129_15 rfl ?_
    refine mjq_vN (As := [.int (2 : Int32)]) (rest := []) D_129_16 mr_8_87 V_165 rfl rfl rfl hR (Nat.le_refl _) h1 h2 h (fun  hp16 h => ?_)
    refine mjr_goto (tgt := 66) D_129_19 rfl ?_
    exact mjq_nret D_129_66 rfl h1 h2 h
noncomputable def f_129 (R : mjR) (a0 : Nat) (a1 : Int32) (hp : mjH) : mjU := b_129_0 R a0 a1 hp
theorem c_129 {R : mjR} {d : Nat} (hR : mjC R d) {a0 : Nat} {a1 : Int32} {hp : mjH} {q : Option Value × mjH} (h : f_129 R a0 a1 hp = some q) : mjM (d + 1) 0 0 129 [.ref a0, .int a1] hp (mjEq q) :=
  mjM_of Ja_129 (Nat.le_of_ble_eq_true rfl) (mjG.fg (lo' := [some (.ref a0), some (.int a1)]) (And.intro rfl (And.intro rfl True.intro)) ((t_129_0 hR (Nat.le_refl 0) (Nat.le_refl 0)) a0 a1 hp q h))
def J_130 : mjI := (⟨"OwnerHeap$Reader", "readType", "(Z)V"⟩, 8, prog_10_method_13_code, 3, none, 1, false)
theorem Ja_130 : mjMt 130 = some J_130 := by rfl
theorem D_130_0 : decode J_130.2.2.1 0 = .ok (.iload_n 1, 1) := dzq_27 (by decide +kernel)
theorem D_130_1 : decode J_130.2.2.1 1 = .ok (.ifCond .eq 23, 3) := dzq_153 (by decide +kernel)
theorem D_130_4 : decode J_130.2.2.1 4 = .ok (.aload_n 0, 1) := dzq_42 (by decide +kernel)
theorem D_130_5 : decode J_130.2.2.1 5 = .ok (.getfield 9, 3) := dzq_180 (by decide +kernel)
theorem D_130_8 : decode J_130.2.2.1 8 = .ok (.bipush 10, 2) := dzq_16 (by decide +kernel)
theorem D_130_10 : decode J_130.2.2.1 10 = .ok (.invokevirtual 53, 3) := dzq_182 (by decide +kernel)
theorem D_130_13 : decode J_130.2.2.1 13 = .ok (.ifCond .eq 11, 3) := dzq_153 (by decide +kernel)
theorem D_130_16 : decode J_130.2.2.1 16 = .ok (.aload_n 0, 1) := dzq_42 (by decide +kernel)
theorem D_130_17 : decode J_130.2.2.1 17 = .ok (.getfield 9, 3) := dzq_180 (by decide +kernel)
theorem D_130_20 : decode J_130.2.2.1 20 = .ok (.invokevirtual 90, 3) := dzq_182 (by decide +kernel)
theorem D_130_23 : decode J_130.2.2.1 23 = .ok (.return_, 1) := dzq_177 (by decide +kernel)
theorem D_130_24 : decode J_130.2.2.1 24 = .ok (.aload_n 0, 1) := dzq_42 (by decide +kernel)
theorem D_130_25 : decode J_130.2.2.1 25 = .ok (.getfield 9, 3) := dzq_180 (by decide +kernel)
theorem D_130_28 : decode J_130.2.2.1 28 = .ok (.iconst 2, 1) := dzq_5 (by decide +kernel)
theorem D_130_29 : decode J_130.2.2.1 29 = .ok (.invokevirtual 72, 3) := dzq_182 (by decide +kernel)
theorem D_130_32 : decode J_130.2.2.1 32 = .ok (.aload_n 0, 1) := dzq_42 (by decide +kernel)
theorem D_130_33 : decode J_130.2.2.1 33 = .ok (.getfield 9, 3) := dzq_180 (by decide +kernel)
theorem D_130_36 : decode J_130.2.2.1 36 = .ok (.bipush 91, 2) := dzq_16 (by decide +kernel)
theorem D_130_38 : decode J_130.2.2.1 38 = .ok (.invokevirtual 72, 3) := dzq_182 (by decide +kernel)
theorem D_130_41 : decode J_130.2.2.1 41 = .ok (.aload_n 0, 1) := dzq_42 (by decide +kernel)
theorem D_130_42 : decode J_130.2.2.1 42 = .ok (.iconst 0, 1) := dzq_3 (by decide +kernel)
theorem D_130_43 : decode J_130.2.2.1 43 = .ok (.invokevirtual 173, 3) := dzq_182 (by decide +kernel)
theorem D_130_46 : decode J_130.2.2.1 46 = .ok (.iconst 1, 1) := dzq_4 (by decide +kernel)
theorem D_130_47 : decode J_130.2.2.1 47 = .ok (.istore_n 2, 1) := dzq_61 (by decide +kernel)
theorem D_130_48 : decode J_130.2.2.1 48 = .ok (.iload_n 2, 1) := dzq_28 (by decide +kernel)
theorem D_130_49 : decode J_130.2.2.1 49 = .ok (.iconst 5, 1) := dzq_8 (by decide +kernel)
theorem D_130_50 : decode J_130.2.2.1 50 = .ok (.if_icmp .gt 33, 3) := dzq_163 (by decide +kernel)
theorem D_130_53 : decode J_130.2.2.1 53 = .ok (.aload_n 0, 1) := dzq_42 (by decide +kernel)
theorem D_130_54 : decode J_130.2.2.1 54 = .ok (.getfield 9, 3) := dzq_180 (by decide +kernel)
theorem D_130_57 : decode J_130.2.2.1 57 = .ok (.bipush 44, 2) := dzq_16 (by decide +kernel)
theorem D_130_59 : decode J_130.2.2.1 59 = .ok (.invokevirtual 53, 3) := dzq_182 (by decide +kernel)
theorem D_130_62 : decode J_130.2.2.1 62 = .ok (.ifCond .eq 21, 3) := dzq_153 (by decide +kernel)
theorem D_130_65 : decode J_130.2.2.1 65 = .ok (.aload_n 0, 1) := dzq_42 (by decide +kernel)
theorem D_130_66 : decode J_130.2.2.1 66 = .ok (.getfield 9, 3) := dzq_180 (by decide +kernel)
theorem D_130_69 : decode J_130.2.2.1 69 = .ok (.invokevirtual 90, 3) := dzq_182 (by decide +kernel)
theorem D_130_72 : decode J_130.2.2.1 72 = .ok (.aload_n 0, 1) := dzq_42 (by decide +kernel)
theorem D_130_73 : decode J_130.2.2.1 73 = .ok (.iload_n 2, 1) := dzq_28 (by decide +kernel)
theorem D_130_74 : decode J_130.2.2.1 74 = .ok (.invokevirtual 173, 3) := dzq_182 (by decide +kernel)
theorem D_130_77 : decode J_130.2.2.1 77 = .ok (.iinc 2 1, 3) := dzq_132 (by decide +kernel)
theorem D_130_80 : decode J_130.2.2.1 80 = .ok (.goto (-32), 3) := dzq_167 (by decide +kernel)
theorem D_130_83 : decode J_130.2.2.1 83 = .ok (.aload_n 0, 1) := dzq_42 (by decide +kernel)
theorem D_130_84 : decode J_130.2.2.1 84 = .ok (.getfield 9, 3) := dzq_180 (by decide +kernel)
theorem D_130_87 : decode J_130.2.2.1 87 = .ok (.bipush 93, 2) := dzq_16 (by decide +kernel)
theorem D_130_89 : decode J_130.2.2.1 89 = .ok (.invokevirtual 72, 3) := dzq_182 (by decide +kernel)
theorem D_130_92 : decode J_130.2.2.1 92 = .ok (.return_, 1) := dzq_177 (by decide +kernel)
def P_130_83 (X : mjX) (d C S kc ks : Nat) (k : Nat → mjH → mjU) : Prop := ∀ (l0 : Nat) (hp : mjH) (q : Option Value × mjH), k l0 hp = some q → mjG X d C S J_130 (mjEq q) 83 [some (.ref l0), none, none] [] hp kc ks
def P_130_48 (X : mjX) (d C S kc ks : Nat) (k : Nat → Int32 → mjH → mjU) : Prop := ∀ (l0 : Nat) (l2 : Int32) (hp : mjH) (q : Option Value × mjH), k l0 l2 hp = some q → mjG X d C S J_130 (mjEq q) 48 [some (.ref l0), none, some (.int l2)] [] hp kc ks
def P_130_24 (X : mjX) (d C S kc ks : Nat) (k : Nat → mjH → mjU) : Prop := ∀ (l0 : Nat) (hp : mjH) (q : Option Value × mjH), k l0 hp = some q → mjG X d C S J_130 (mjEq q) 24 [some (.ref l0), none, none] [] hp kc ks
def P_130_0 (X : mjX) (d C S kc ks : Nat) (k : Nat → Int32 → mjH → mjU) : Prop := ∀ (l0 : Nat) (l1 : Int32) (hp : mjH) (q : Option Value × mjH), k l0 l1 hp = some q → mjG X d C S J_130 (mjEq q) 0 [some (.ref l0), some (.int l1), none] [] hp kc ks
noncomputable def b_130_83 (R : mjR) (l0 : Nat) (hp : mjH) : mjU := gR hp l0 8 0 (fun v1 => rV hp v1 9 (bN (R 169 [.ref v1, .int (93 : Int32)] hp) (fun  hp2 => some (none, hp2))))
theorem t_130_83 {X : mjX} {d C S kc ks : Nat} {R : mjR} (hR : mjC R d) (h1 : kc ≤ C) (h2 : ks ≤ S) : P_130_83 X (d + 1) C S kc ks (b_130_83 R) := by
  intro l0 hp q h
  unfold b_130_83 at h
  refine mjr_aload_n (x := l0) D_130_83 rfl ?_
  refine mjq_gR D_130_84 fr_8_9 h (fun v1 h => ?_)
  refine mjq_bi (v := (93 : Int32)) D_130_87 rfl ?_
  refine mjq_vN (As := [.int (93 : Int32)]) (rest := []) D_130_89 mr_8_72 V_169 rfl rfl rfl hR (Nat.le_refl _) h1 h2 h (fun  hp2 h => ?_)
  exact mjq_nret D_130_92 rfl h1 h2 h
noncomputable def b_130_48 (R : mjR) (k48 : Nat → Int32 → mjH → mjU) (l0 : Nat) (l2 : Int32) (hp : mjH) : mjU := (if (5 : Int32) < l2 then b_130_83 R l0 hp else gR hp l0 8 0 (fun v1 => rV hp v1 9 (bI (R 164 [.ref v1, .int (44 : Int32)] hp) (fun v2 hp3 => (if v2 = 0 then b_130_83 R l0 hp3 else gR hp3 l0 8 0 (fun v4 => rV hp3 v4 9 (bN (R 166 [.ref v4] hp3) (fun  hp5 => rV hp5 l0 8 (bN (R 131 [.ref l0, .int l2] hp5) (fun  hp6 => k48 l0 (l2 + (1 : Int32)) hp6))))))))))
theorem t_130_48 {X : mjX} {d C S kc ks : Nat} {R : mjR} (hR : mjC R d) (h1 : kc ≤ C) (h2 : ks ≤ S) {k48 : Nat → Int32 → mjH → mjU} (hk48 : P_130_48 X (d + 1) C S kc ks k48) : P_130_48 X (d + 1) C S kc ks (b_130_48 R k48) := by
  intro l0 l2 hp q h
  unfold b_130_48 at h
  refine mjr_iload_n (x := l2) D_130_48 rfl ?_
  refine mjq_ic (v := (5 : Int32)) D_130_49 rfl ?_
  refine mjq_icmp_gt (tgt := 83) D_130_50 rfl h (fun h => ?_) (fun h => ?_)
  · exact mjG.fg (lo' := [some (.ref l0), none, none]) (And.intro rfl True.intro) ((t_130_83 hR h1 h2) _ _ _ h)
  · refine mjr_aload_n (x := l0) D_130_53 rfl ?_
    refine mjq_gR D_130_54 fr_8_9 h (fun v1 h => ?_)
    refine mjq_bi (v := (44 : Int32)) D_130_57 rfl ?_
    refine mjq_vI (As := [.int (44 : Int32)]) (rest := []) D_130_59 mr_8_53 V_164 rfl rfl rfl hR (Nat.le_refl _) h1 h2 h (fun v2 hp3 h => ?_)
    refine mjq_if_eq (tgt := 83) D_130_62 rfl h (fun h => ?_) (fun h => ?_)
    · exact mjG.fg (lo' := [some (.ref l0), none, none]) (And.intro rfl True.intro) ((t_130_83 hR h1 h2) _ _ _ h)
    · refine mjr_aload_n (x := l0) D_130_65 rfl ?_
      refine mjq_gR D_130_66 fr_8_9 h (fun v4 h => ?_)
      refine mjq_vN (As := []) (rest := []) D_130_69 mr_8_90 V_166 rfl rfl rfl hR (Nat.le_refl _) h1 h2 h (fun  hp5 h => ?_)
      refine mjr_aload_n (x := l0) D_130_72 rfl ?_
      refine mjr_iload_n (x := l2) D_130_73 rfl ?_
      refine mjq_vN (As := [.int l2]) (rest := []) D_130_74 mr_8_173 V_131 rfl rfl rfl hR (Nat.le_refl _) h1 h2 h (fun  hp6 h => ?_)
      refine mjq_iinc (x := l2) (c := (1 : Int32)) (lo' := [some (.ref l0), none, some (.int (l2 + (1 : Int32)))]) D_130_77 rfl (Nat.le_of_ble_eq_true rfl) rfl rfl ?_
      refine mjr_goto (tgt := 48) D_130_80 rfl ?_
      exact hk48 _ _ _ _ h
noncomputable def L_130_48 (R : mjR) (n : Nat) : Nat → Int32 → mjH → mjU := Nat.rec (motive := fun _ => Nat → Int32 → mjH → mjU) (fun _ _ _ => none) (fun _ self => b_130_48 R self) n
theorem T_130_48 {X : mjX} {d C S kc ks : Nat} {R : mjR} (hR : mjC R d) (h1 : kc ≤ C) (h2 : ks ≤ S) (n : Nat) : P_130_48 X (d + 1) C S kc ks (L_130_48 R n) := by
  induction n with
  | zero => intro _ _ _ _ h; exact mj_no h
  | succ n ih => exact t_130_48 hR h1 h2 ih
noncomputable def b_130_24 (R : mjR) (l0 : Nat) (hp : mjH) : mjU := gR hp l0 8 0 (fun v1 => rV hp v1 9 (bN (R 169 [.ref v1, .int (2 : Int32)] hp) (fun  hp2 => gR hp2 l0 8 0 (fun v3 => rV hp2 v3 9 (bN (R 169 [.ref v3, .int (91 : Int32)] hp2) (fun  hp4 => rV hp4 l0 8 (bN (R 131 [.ref l0, .int (0 : Int32)] hp4) (fun  hp5 => L_130_48 R mjN l0 (1 : Int32) hp5))))))))
theorem t_130_24 {X : mjX} {d C S kc ks : Nat} {R : mjR} (hR : mjC R d) (h1 : kc ≤ C) (h2 : ks ≤ S) : P_130_24 X (d + 1) C S kc ks (b_130_24 R) := by
  intro l0 hp q h
  unfold b_130_24 at h
  refine mjr_aload_n (x := l0) D_130_24 rfl ?_
  refine mjq_gR D_130_25 fr_8_9 h (fun v1 h => ?_)
  refine mjq_ic (v := (2 : Int32)) D_130_28 rfl ?_
  refine mjq_vN (As := [.int (2 : Int32)]) (rest := []) D_130_29 mr_8_72 V_169 rfl rfl rfl hR (Nat.le_refl _) h1 h2 h (fun  hp2 h => ?_)
  refine mjr_aload_n (x := l0) D_130_32 rfl ?_
  refine mjq_gR D_130_33 fr_8_9 h (fun v3 h => ?_)
  refine mjq_bi (v := (91 : Int32)) D_130_36 rfl ?_
  refine mjq_vN (As := [.int (91 : Int32)]) (rest := []) D_130_38 mr_8_72 V_169 rfl rfl rfl hR (Nat.le_refl _) h1 h2 h (fun  hp4 h => ?_)
  refine mjr_aload_n (x := l0) D_130_41 rfl ?_
  refine mjq_ic (v := (0 : Int32)) D_130_42 rfl ?_
  refine mjq_vN (As := [.int (0 : Int32)]) (rest := []) D_130_43 mr_8_173 V_131 rfl rfl rfl hR (Nat.le_refl _) h1 h2 h (fun  hp5 h => ?_)
  refine mjq_ic (v := (1 : Int32)) D_130_46 rfl ?_
  refine mjq_istore_n (lo' := [some (.ref l0), none, some (.int (1 : Int32))]) D_130_47 (Nat.le_of_ble_eq_true rfl) rfl ?_
  exact (T_130_48 hR h1 h2 mjN) _ _ _ _ h
noncomputable def b_130_0 (R : mjR) (l0 : Nat) (l1 : Int32) (hp : mjH) : mjU := (if l1 = 0 then b_130_24 R l0 hp else gR hp l0 8 0 (fun v1 => rV hp v1 9 (bI (R 164 [.ref v1, .int (10 : Int32)] hp) (fun v2 hp3 => (if v2 = 0 then b_130_24 R l0 hp3 else gR hp3 l0 8 0 (fun v4 => rV hp3 v4 9 (bN (R 166 [.ref v4] hp3) (fun  hp5 => some (none, hp5)))))))))
theorem t_130_0 {X : mjX} {d C S kc ks : Nat} {R : mjR} (hR : mjC R d) (h1 : kc ≤ C) (h2 : ks ≤ S) : P_130_0 X (d + 1) C S kc ks (b_130_0 R) := by
  intro l0 l1 hp q h
  unfold b_130_0 at h
  refine mjr_iload_n (x := l1) D_130_0 rfl ?_
  refine mjq_if_eq (tgt := 24) D_130_1 rfl h (fun h => ?_) (fun h => ?_)
  · exact mjG.fg (lo' := [some (.ref l0), none, none]) (And.intro rfl True.intro) ((t_130_24 hR h1 h2) _ _ _ h)
  · refine mjr_aload_n (x := l0) D_130_4 rfl ?_
    refine mjq_gR D_130_5 fr_8_9 h (fun v1 h => ?_)
    refine mjq_bi (v := (10 : Int32)) D_130_8 rfl ?_
    refine mjq_vI (As := [.int (10 : Int32)]) (rest := []) D_130_10 mr_8_53 V_164 rfl rfl rfl hR (Nat.le_refl _) h1 h2 h (fun v2 hp3 h => ?_)
    refine mjq_if_eq (tgt := 24) D_130_13 rfl h (fun h => ?_) (fun h => ?_)
    · exact mjG.fg (lo' := [some (.ref l0), none, none]) (And.intro rfl True.intro) ((t_130_24 hR h1 h2) _ _ _ h)
    · refine mjr_aload_n (x := l0) D_130_16 rfl ?_
      refine mjq_gR D_130_17 fr_8_9 h (fun v4 h => ?_)
      refine mjq_vN (As := []) (rest := []) D_130_20 mr_8_90 V_166 rfl rfl rfl hR (Nat.le_refl _) h1 h2 h (fun  hp5 h => ?_)
      exact mjq_nret D_130_23 rfl h1 h2 h
noncomputable def f_130 (R : mjR) (a0 : Nat) (a1 : Int32) (hp : mjH) : mjU := b_130_0 R a0 a1 hp
theorem c_130 {R : mjR} {d : Nat} (hR : mjC R d) {a0 : Nat} {a1 : Int32} {hp : mjH} {q : Option Value × mjH} (h : f_130 R a0 a1 hp = some q) : mjM (d + 1) 0 0 130 [.ref a0, .int a1] hp (mjEq q) :=
  mjM_of Ja_130 (Nat.le_of_ble_eq_true rfl) (mjG.fg (lo' := [some (.ref a0), some (.int a1), none]) (And.intro rfl (And.intro rfl True.intro)) ((t_130_0 hR (Nat.le_refl 0) (Nat.le_refl 0)) a0 a1 hp q h))
def J_131 : mjI := (⟨"OwnerHeap$Reader", "readOwner", "(I)V"⟩, 8, prog_10_method_14_code, 2, none, 1, false)
theorem Ja_131 : mjMt 131 = some J_131 := by rfl
theorem D_131_0 : decode J_131.2.2.1 0 = .ok (.aload_n 0, 1) := dzq_42 (by decide +kernel)
theorem D_131_1 : decode J_131.2.2.1 1 = .ok (.getfield 9, 3) := dzq_180 (by decide +kernel)
theorem D_131_4 : decode J_131.2.2.1 4 = .ok (.bipush 12, 2) := dzq_16 (by decide +kernel)
theorem D_131_6 : decode J_131.2.2.1 6 = .ok (.invokevirtual 53, 3) := dzq_182 (by decide +kernel)
theorem D_131_9 : decode J_131.2.2.1 9 = .ok (.ifCond .ne 37, 3) := dzq_154 (by decide +kernel)
theorem D_131_12 : decode J_131.2.2.1 12 = .ok (.aload_n 0, 1) := dzq_42 (by decide +kernel)
theorem D_131_13 : decode J_131.2.2.1 13 = .ok (.getfield 9, 3) := dzq_180 (by decide +kernel)
theorem D_131_16 : decode J_131.2.2.1 16 = .ok (.bipush 13, 2) := dzq_16 (by decide +kernel)
theorem D_131_18 : decode J_131.2.2.1 18 = .ok (.invokevirtual 53, 3) := dzq_182 (by decide +kernel)
theorem D_131_21 : decode J_131.2.2.1 21 = .ok (.ifCond .ne 25, 3) := dzq_154 (by decide +kernel)
theorem D_131_24 : decode J_131.2.2.1 24 = .ok (.aload_n 0, 1) := dzq_42 (by decide +kernel)
theorem D_131_25 : decode J_131.2.2.1 25 = .ok (.getfield 9, 3) := dzq_180 (by decide +kernel)
theorem D_131_28 : decode J_131.2.2.1 28 = .ok (.iconst 3, 1) := dzq_6 (by decide +kernel)
theorem D_131_29 : decode J_131.2.2.1 29 = .ok (.invokevirtual 53, 3) := dzq_182 (by decide +kernel)
theorem D_131_32 : decode J_131.2.2.1 32 = .ok (.ifCond .ne 14, 3) := dzq_154 (by decide +kernel)
theorem D_131_35 : decode J_131.2.2.1 35 = .ok (.aload_n 0, 1) := dzq_42 (by decide +kernel)
theorem D_131_36 : decode J_131.2.2.1 36 = .ok (.getfield 9, 3) := dzq_180 (by decide +kernel)
theorem D_131_39 : decode J_131.2.2.1 39 = .ok (.iconst 2, 1) := dzq_5 (by decide +kernel)
theorem D_131_40 : decode J_131.2.2.1 40 = .ok (.invokevirtual 87, 3) := dzq_182 (by decide +kernel)
theorem D_131_43 : decode J_131.2.2.1 43 = .ok (.goto 26, 3) := dzq_167 (by decide +kernel)
theorem D_131_46 : decode J_131.2.2.1 46 = .ok (.iload_n 1, 1) := dzq_27 (by decide +kernel)
theorem D_131_47 : decode J_131.2.2.1 47 = .ok (.iconst 5, 1) := dzq_8 (by decide +kernel)
theorem D_131_48 : decode J_131.2.2.1 48 = .ok (.if_icmp .ne 14, 3) := dzq_160 (by decide +kernel)
theorem D_131_51 : decode J_131.2.2.1 51 = .ok (.aload_n 0, 1) := dzq_42 (by decide +kernel)
theorem D_131_52 : decode J_131.2.2.1 52 = .ok (.getfield 9, 3) := dzq_180 (by decide +kernel)
theorem D_131_55 : decode J_131.2.2.1 55 = .ok (.iconst 3, 1) := dzq_6 (by decide +kernel)
theorem D_131_56 : decode J_131.2.2.1 56 = .ok (.invokevirtual 87, 3) := dzq_182 (by decide +kernel)
theorem D_131_59 : decode J_131.2.2.1 59 = .ok (.goto 10, 3) := dzq_167 (by decide +kernel)
theorem D_131_62 : decode J_131.2.2.1 62 = .ok (.aload_n 0, 1) := dzq_42 (by decide +kernel)
theorem D_131_63 : decode J_131.2.2.1 63 = .ok (.getfield 9, 3) := dzq_180 (by decide +kernel)
theorem D_131_66 : decode J_131.2.2.1 66 = .ok (.invokevirtual 90, 3) := dzq_182 (by decide +kernel)
theorem D_131_69 : decode J_131.2.2.1 69 = .ok (.return_, 1) := dzq_177 (by decide +kernel)
def P_131_46 (X : mjX) (d C S kc ks : Nat) (k : Nat → Int32 → mjH → mjU) : Prop := ∀ (l0 : Nat) (l1 : Int32) (hp : mjH) (q : Option Value × mjH), k l0 l1 hp = some q → mjG X d C S J_131 (mjEq q) 46 [some (.ref l0), some (.int l1)] [] hp kc ks
def P_131_0 (X : mjX) (d C S kc ks : Nat) (k : Nat → Int32 → mjH → mjU) : Prop := ∀ (l0 : Nat) (l1 : Int32) (hp : mjH) (q : Option Value × mjH), k l0 l1 hp = some q → mjG X d C S J_131 (mjEq q) 0 [some (.ref l0), some (.int l1)] [] hp kc ks
noncomputable def b_131_46 (R : mjR) (l0 : Nat) (l1 : Int32) (hp : mjH) : mjU := (if l1 = (5 : Int32) then gR hp l0 8 0 (fun v3 => rV hp v3 9 (bN (R 165 [.ref v3, .int (3 : Int32)] hp) (fun  hp4 => some (none, hp4)))) else gR hp l0 8 0 (fun v1 => rV hp v1 9 (bN (R 166 [.ref v1] hp) (fun  hp2 => some (none, hp2)))))
theorem t_131_46 {X : mjX} {d C S kc ks : Nat} {R : mjR} (hR : mjC R d) (h1 : kc ≤ C) (h2 : ks ≤ S) : P_131_46 X (d + 1) C S kc ks (b_131_46 R) := by
  intro l0 l1 hp q h
  unfold b_131_46 at h
  refine mjr_iload_n (x := l1) D_131_46 rfl ?_
  refine mjq_ic (v := (5 : Int32)) D_131_47 rfl ?_
  refine mjq_icmp_ne (tgt := 62) D_131_48 rfl h (fun h => ?_) (fun h => ?_)
  · refine mjr_aload_n (x := l0) D_131_62 rfl ?_
    refine mjq_gR D_131_63 fr_8_9 h (fun v1 h => ?_)
    refine mjq_vN (As := []) (rest := []) D_131_66 mr_8_90 V_166 rfl rfl rfl hR (Nat.le_refl _) h1 h2 h (fun  hp2 h => ?_)
    exact mjq_nret D_131_69 rfl h1 h2 h
  · refine mjr_aload_n (x := l0) D_131_51 rfl ?_
    refine mjq_gR D_131_52 fr_8_9 h (fun v3 h => ?_)
    refine mjq_ic (v := (3 : Int32)) D_131_55 rfl ?_
    refine mjq_vN (As := [.int (3 : Int32)]) (rest := []) D_131_56 mr_8_87 V_165 rfl rfl rfl hR (Nat.le_refl _) h1 h2 h (fun  hp4 h => ?_)
    refine mjr_goto (tgt := 69) D_131_59 rfl ?_
    exact mjq_nret D_131_69 rfl h1 h2 h
noncomputable def b_131_0 (R : mjR) (l0 : Nat) (l1 : Int32) (hp : mjH) : mjU := gR hp l0 8 0 (fun v1 => rV hp v1 9 (bI (R 164 [.ref v1, .int (12 : Int32)] hp) (fun v2 hp3 => (if v2 = 0 then gR hp3 l0 8 0 (fun v4 => rV hp3 v4 9 (bI (R 164 [.ref v4, .int (13 : Int32)] hp3) (fun v5 hp6 => (if v5 = 0 then gR hp6 l0 8 0 (fun v7 => rV hp6 v7 9 (bI (R 164 [.ref v7, .int (3 : Int32)] hp6) (fun v8 hp9 => (if v8 = 0 then gR hp9 l0 8 0 (fun v10 => rV hp9 v10 9 (bN (R 165 [.ref v10, .int (2 : Int32)] hp9) (fun  hp11 => some (none, hp11)))) else b_131_46 R l0 l1 hp9)))) else b_131_46 R l0 l1 hp6)))) else b_131_46 R l0 l1 hp3))))
theorem t_131_0 {X : mjX} {d C S kc ks : Nat} {R : mjR} (hR : mjC R d) (h1 : kc ≤ C) (h2 : ks ≤ S) : P_131_0 X (d + 1) C S kc ks (b_131_0 R) := by
  intro l0 l1 hp q h
  unfold b_131_0 at h
  refine mjr_aload_n (x := l0) D_131_0 rfl ?_
  refine mjq_gR D_131_1 fr_8_9 h (fun v1 h => ?_)
  refine mjq_bi (v := (12 : Int32)) D_131_4 rfl ?_
  refine mjq_vI (As := [.int (12 : Int32)]) (rest := []) D_131_6 mr_8_53 V_164 rfl rfl rfl hR (Nat.le_refl _) h1 h2 h (fun v2 hp3 h => ?_)
  refine mjq_if_ne (tgt := 46) D_131_9 rfl h (fun h => ?_) (fun h => ?_)
  · exact (t_131_46 hR h1 h2) _ _ _ _ h
  · refine mjr_aload_n (x := l0) D_131_12 rfl ?_
    refine mjq_gR D_131_13 fr_8_9 h (fun v4 h => ?_)
    refine mjq_bi (v := (13 : Int32)) D_131_16 rfl ?_
    refine mjq_vI (As := [.int (13 : Int32)]) (rest := []) D_131_18 mr_8_53 V_164 rfl rfl rfl hR (Nat.le_refl _) h1 h2 h (fun v5 hp6 h => ?_)
    refine mjq_if_ne (tgt := 46) D_131_21 rfl h (fun h => ?_) (fun h => ?_)
    · exact (t_131_46 hR h1 h2) _ _ _ _ h
    · refine mjr_aload_n (x := l0) D_131_24 rfl ?_
      refine mjq_gR D_131_25 fr_8_9 h (fun v7 h => ?_)
      refine mjq_ic (v := (3 : Int32)) D_131_28 rfl ?_
      refine mjq_vI (As := [.int (3 : Int32)]) (rest := []) D_131_29 mr_8_53 V_164 rfl rfl rfl hR (Nat.le_refl _) h1 h2 h (fun v8 hp9 h => ?_)
      refine mjq_if_ne (tgt := 46) D_131_32 rfl h (fun h => ?_) (fun h => ?_)
      · exact (t_131_46 hR h1 h2) _ _ _ _ h
      · refine mjr_aload_n (x := l0) D_131_35 rfl ?_
        refine mjq_gR D_131_36 fr_8_9 h (fun v10 h => ?_)
        refine mjq_ic (v := (2 : Int32)) D_131_39 rfl ?_
        refine mjq_vN (As := [.int (2 : Int32)]) (rest := []) D_131_40 mr_8_87 V_165 rfl rfl rfl hR (Nat.le_refl _) h1 h2 h (fun  hp11 h => ?_)
        refine mjr_goto (tgt := 69) D_131_43 rfl ?_
        exact mjq_nret D_131_69 rfl h1 h2 h
noncomputable def f_131 (R : mjR) (a0 : Nat) (a1 : Int32) (hp : mjH) : mjU := b_131_0 R a0 a1 hp
theorem c_131 {R : mjR} {d : Nat} (hR : mjC R d) {a0 : Nat} {a1 : Int32} {hp : mjH} {q : Option Value × mjH} (h : f_131 R a0 a1 hp = some q) : mjM (d + 1) 0 0 131 [.ref a0, .int a1] hp (mjEq q) :=
  mjM_of Ja_131 (Nat.le_of_ble_eq_true rfl) (mjG.fg (lo' := [some (.ref a0), some (.int a1)]) (And.intro rfl (And.intro rfl True.intro)) ((t_131_0 hR (Nat.le_refl 0) (Nat.le_refl 0)) a0 a1 hp q h))
def J_132 : mjI := (⟨"OwnerHeap$Reader", "readIns", "(I)V"⟩, 8, prog_10_method_8_code, 3, none, 1, false)
theorem Ja_132 : mjMt 132 = some J_132 := by rfl
theorem D_132_0 : decode J_132.2.2.1 0 = .ok (.aload_n 0, 1) := dzq_42 (by decide +kernel)
theorem D_132_1 : decode J_132.2.2.1 1 = .ok (.getfield 9, 3) := dzq_180 (by decide +kernel)
theorem D_132_4 : decode J_132.2.2.1 4 = .ok (.invokevirtual 90, 3) := dzq_182 (by decide +kernel)
theorem D_132_7 : decode J_132.2.2.1 7 = .ok (.aload_n 0, 1) := dzq_42 (by decide +kernel)
theorem D_132_8 : decode J_132.2.2.1 8 = .ok (.getfield 33, 3) := dzq_180 (by decide +kernel)
theorem D_132_11 : decode J_132.2.2.1 11 = .ok (.iload_n 1, 1) := dzq_27 (by decide +kernel)
theorem D_132_12 : decode J_132.2.2.1 12 = .ok (.aload_n 0, 1) := dzq_42 (by decide +kernel)
theorem D_132_13 : decode J_132.2.2.1 13 = .ok (.getfield 9, 3) := dzq_180 (by decide +kernel)
theorem D_132_16 : decode J_132.2.2.1 16 = .ok (.invokevirtual 78, 3) := dzq_182 (by decide +kernel)
theorem D_132_19 : decode J_132.2.2.1 19 = .ok (.iastore, 1) := dzq_79 (by decide +kernel)
theorem D_132_20 : decode J_132.2.2.1 20 = .ok (.aload_n 0, 1) := dzq_42 (by decide +kernel)
theorem D_132_21 : decode J_132.2.2.1 21 = .ok (.iload_n 1, 1) := dzq_27 (by decide +kernel)
theorem D_132_22 : decode J_132.2.2.1 22 = .ok (.invokevirtual 128, 3) := dzq_182 (by decide +kernel)
theorem D_132_25 : decode J_132.2.2.1 25 = .ok (.iconst 0, 1) := dzq_3 (by decide +kernel)
theorem D_132_26 : decode J_132.2.2.1 26 = .ok (.istore_n 2, 1) := dzq_61 (by decide +kernel)
theorem D_132_27 : decode J_132.2.2.1 27 = .ok (.iload_n 2, 1) := dzq_28 (by decide +kernel)
theorem D_132_28 : decode J_132.2.2.1 28 = .ok (.bipush 8, 2) := dzq_16 (by decide +kernel)
theorem D_132_30 : decode J_132.2.2.1 30 = .ok (.if_icmp .ge 33, 3) := dzq_162 (by decide +kernel)
theorem D_132_33 : decode J_132.2.2.1 33 = .ok (.aload_n 0, 1) := dzq_42 (by decide +kernel)
theorem D_132_34 : decode J_132.2.2.1 34 = .ok (.getfield 9, 3) := dzq_180 (by decide +kernel)
theorem D_132_37 : decode J_132.2.2.1 37 = .ok (.bipush 44, 2) := dzq_16 (by decide +kernel)
theorem D_132_39 : decode J_132.2.2.1 39 = .ok (.invokevirtual 53, 3) := dzq_182 (by decide +kernel)
theorem D_132_42 : decode J_132.2.2.1 42 = .ok (.ifCond .eq 21, 3) := dzq_153 (by decide +kernel)
theorem D_132_45 : decode J_132.2.2.1 45 = .ok (.aload_n 0, 1) := dzq_42 (by decide +kernel)
theorem D_132_46 : decode J_132.2.2.1 46 = .ok (.getfield 9, 3) := dzq_180 (by decide +kernel)
theorem D_132_49 : decode J_132.2.2.1 49 = .ok (.invokevirtual 90, 3) := dzq_182 (by decide +kernel)
theorem D_132_52 : decode J_132.2.2.1 52 = .ok (.aload_n 0, 1) := dzq_42 (by decide +kernel)
theorem D_132_53 : decode J_132.2.2.1 53 = .ok (.iload_n 1, 1) := dzq_27 (by decide +kernel)
theorem D_132_54 : decode J_132.2.2.1 54 = .ok (.invokevirtual 128, 3) := dzq_182 (by decide +kernel)
theorem D_132_57 : decode J_132.2.2.1 57 = .ok (.iinc 2 1, 3) := dzq_132 (by decide +kernel)
theorem D_132_60 : decode J_132.2.2.1 60 = .ok (.goto (-33), 3) := dzq_167 (by decide +kernel)
theorem D_132_63 : decode J_132.2.2.1 63 = .ok (.return_, 1) := dzq_177 (by decide +kernel)
def P_132_27 (X : mjX) (d C S kc ks : Nat) (k : Nat → Int32 → Int32 → mjH → mjU) : Prop := ∀ (l0 : Nat) (l1 : Int32) (l2 : Int32) (hp : mjH) (q : Option Value × mjH), k l0 l1 l2 hp = some q → mjG X d C S J_132 (mjEq q) 27 [some (.ref l0), some (.int l1), some (.int l2)] [] hp kc ks
def P_132_0 (X : mjX) (d C S kc ks : Nat) (k : Nat → Int32 → mjH → mjU) : Prop := ∀ (l0 : Nat) (l1 : Int32) (hp : mjH) (q : Option Value × mjH), k l0 l1 hp = some q → mjG X d C S J_132 (mjEq q) 0 [some (.ref l0), some (.int l1), none] [] hp kc ks
noncomputable def b_132_27 (R : mjR) (k27 : Nat → Int32 → Int32 → mjH → mjU) (l0 : Nat) (l1 : Int32) (l2 : Int32) (hp : mjH) : mjU := (if (8 : Int32) ≤ l2 then some (none, hp) else gR hp l0 8 0 (fun v1 => rV hp v1 9 (bI (R 164 [.ref v1, .int (44 : Int32)] hp) (fun v2 hp3 => (if v2 = 0 then some (none, hp3) else gR hp3 l0 8 0 (fun v4 => rV hp3 v4 9 (bN (R 166 [.ref v4] hp3) (fun  hp5 => rV hp5 l0 8 (bN (R 133 [.ref l0, .int l1] hp5) (fun  hp6 => k27 l0 l1 (l2 + (1 : Int32)) hp6))))))))))
theorem t_132_27 {X : mjX} {d C S kc ks : Nat} {R : mjR} (hR : mjC R d) (h1 : kc ≤ C) (h2 : ks ≤ S) {k27 : Nat → Int32 → Int32 → mjH → mjU} (hk27 : P_132_27 X (d + 1) C S kc ks k27) : P_132_27 X (d + 1) C S kc ks (b_132_27 R k27) := by
  intro l0 l1 l2 hp q h
  unfold b_132_27 at h
  refine mjr_iload_n (x := l2) D_132_27 rfl ?_
  refine mjq_bi (v := (8 : Int32)) D_132_28 rfl ?_
  refine mjq_icmp_ge (tgt := 63) D_132_30 rfl h (fun h => ?_) (fun h => ?_)
  · exact mjq_nret D_132_63 rfl h1 h2 h
  · refine mjr_aload_n (x := l0) D_132_33 rfl ?_
    refine mjq_gR D_132_34 fr_8_9 h (fun v1 h => ?_)
    refine mjq_bi (v := (44 : Int32)) D_132_37 rfl ?_
    refine mjq_vI (As := [.int (44 : Int32)]) (rest := []) D_132_39 mr_8_53 V_164 rfl rfl rfl hR (Nat.le_refl _) h1 h2 h (fun v2 hp3 h => ?_)
    refine mjq_if_eq (tgt := 63) D_132_42 rfl h (fun h => ?_) (fun h => ?_)
    · exact mjq_nret D_132_63 rfl h1 h2 h
    · refine mjr_aload_n (x := l0) D_132_45 rfl ?_
      refine mjq_gR D_132_46 fr_8_9 h (fun v4 h => ?_)
      refine mjq_vN (As := []) (rest := []) D_132_49 mr_8_90 V_166 rfl rfl rfl hR (Nat.le_refl _) h1 h2 h (fun  hp5 h => ?_)
      refine mjr_aload_n (x := l0) D_132_52 rfl ?_
      refine mjr_iload_n (x := l1) D_132_53 rfl ?_
      refine mjq_vN (As := [.int l1]) (rest := []) D_132_54 mr_8_128 V_133 rfl rfl rfl hR (Nat.le_refl _) h1 h2 h (fun  hp6 h => ?_)
      refine mjq_iinc (x := l2) (c := (1 : Int32)) (lo' := [some (.ref l0), some (.int l1), some (.int (l2 + (1 : Int32)))]) D_132_57 rfl (Nat.le_of_ble_eq_true rfl) rfl rfl ?_
      refine mjr_goto (tgt := 27) D_132_60 rfl ?_
      exact hk27 _ _ _ _ _ h
noncomputable def L_132_27 (R : mjR) (n : Nat) : Nat → Int32 → Int32 → mjH → mjU := Nat.rec (motive := fun _ => Nat → Int32 → Int32 → mjH → mjU) (fun _ _ _ _ => none) (fun _ self => b_132_27 R self) n
theorem T_132_27 {X : mjX} {d C S kc ks : Nat} {R : mjR} (hR : mjC R d) (h1 : kc ≤ C) (h2 : ks ≤ S) (n : Nat) : P_132_27 X (d + 1) C S kc ks (L_132_27 R n) := by
  induction n with
  | zero => intro _ _ _ _ _ h; exact mj_no h
  | succ n ih => exact t_132_27 hR h1 h2 ih
noncomputable def b_132_0 (R : mjR) (l0 : Nat) (l1 : Int32) (hp : mjH) : mjU := gR hp l0 8 0 (fun v1 => rV hp v1 9 (bN (R 166 [.ref v1] hp) (fun  hp2 => gR hp2 l0 8 5 (fun v3 => gR hp2 l0 8 0 (fun v4 => rV hp2 v4 9 (bI (R 167 [.ref v4] hp2) (fun v5 hp6 => sI hp6 v3 l1 v5 (fun hp7 => rV hp7 l0 8 (bN (R 133 [.ref l0, .int l1] hp7) (fun  hp8 => L_132_27 R mjN l0 l1 (0 : Int32) hp8))))))))))
theorem t_132_0 {X : mjX} {d C S kc ks : Nat} {R : mjR} (hR : mjC R d) (h1 : kc ≤ C) (h2 : ks ≤ S) : P_132_0 X (d + 1) C S kc ks (b_132_0 R) := by
  intro l0 l1 hp q h
  unfold b_132_0 at h
  refine mjr_aload_n (x := l0) D_132_0 rfl ?_
  refine mjq_gR D_132_1 fr_8_9 h (fun v1 h => ?_)
  refine mjq_vN (As := []) (rest := []) D_132_4 mr_8_90 V_166 rfl rfl rfl hR (Nat.le_refl _) h1 h2 h (fun  hp2 h => ?_)
  refine mjr_aload_n (x := l0) D_132_7 rfl ?_
  refine mjq_gR D_132_8 fr_8_33 h (fun v3 h => ?_)
  refine mjr_iload_n (x := l1) D_132_11 rfl ?_
  refine mjr_aload_n (x := l0) D_132_12 rfl ?_
  refine mjq_gR D_132_13 fr_8_9 h (fun v4 h => ?_)
  refine mjq_vI (As := []) (rest := [.int l1, .ref v3]) D_132_16 mr_8_78 V_167 rfl rfl rfl hR (Nat.le_refl _) h1 h2 h (fun v5 hp6 h => ?_)
  refine mjq_sI D_132_19 h (fun hp7 h => ?_)
  refine mjr_aload_n (x := l0) D_132_20 rfl ?_
  refine mjr_iload_n (x := l1) D_132_21 rfl ?_
  refine mjq_vN (As := [.int l1]) (rest := []) D_132_22 mr_8_128 V_133 rfl rfl rfl hR (Nat.le_refl _) h1 h2 h (fun  hp8 h => ?_)
  refine mjq_ic (v := (0 : Int32)) D_132_25 rfl ?_
  refine mjq_istore_n (lo' := [some (.ref l0), some (.int l1), some (.int (0 : Int32))]) D_132_26 (Nat.le_of_ble_eq_true rfl) rfl ?_
  exact (T_132_27 hR h1 h2 mjN) _ _ _ _ _ h
noncomputable def f_132 (R : mjR) (a0 : Nat) (a1 : Int32) (hp : mjH) : mjU := b_132_0 R a0 a1 hp
theorem c_132 {R : mjR} {d : Nat} (hR : mjC R d) {a0 : Nat} {a1 : Int32} {hp : mjH} {q : Option Value × mjH} (h : f_132 R a0 a1 hp = some q) : mjM (d + 1) 0 0 132 [.ref a0, .int a1] hp (mjEq q) :=
  mjM_of Ja_132 (Nat.le_of_ble_eq_true rfl) (mjG.fg (lo' := [some (.ref a0), some (.int a1), none]) (And.intro rfl (And.intro rfl True.intro)) ((t_132_0 hR (Nat.le_refl 0) (Nat.le_refl 0)) a0 a1 hp q h))
def J_133 : mjI := (⟨"OwnerHeap$Reader", "readIn", "(I)V"⟩, 8, prog_10_method_9_code, 2, none, 1, false)
theorem Ja_133 : mjMt 133 = some J_133 := by rfl
theorem D_133_0 : decode J_133.2.2.1 0 = .ok (.aload_n 0, 1) := dzq_42 (by decide +kernel)
theorem D_133_1 : decode J_133.2.2.1 1 = .ok (.getfield 9, 3) := dzq_180 (by decide +kernel)
theorem D_133_4 : decode J_133.2.2.1 4 = .ok (.iconst 3, 1) := dzq_6 (by decide +kernel)
theorem D_133_5 : decode J_133.2.2.1 5 = .ok (.invokevirtual 53, 3) := dzq_182 (by decide +kernel)
theorem D_133_8 : decode J_133.2.2.1 8 = .ok (.ifCond .ne 14, 3) := dzq_154 (by decide +kernel)
theorem D_133_11 : decode J_133.2.2.1 11 = .ok (.aload_n 0, 1) := dzq_42 (by decide +kernel)
theorem D_133_12 : decode J_133.2.2.1 12 = .ok (.getfield 9, 3) := dzq_180 (by decide +kernel)
theorem D_133_15 : decode J_133.2.2.1 15 = .ok (.iconst 2, 1) := dzq_5 (by decide +kernel)
theorem D_133_16 : decode J_133.2.2.1 16 = .ok (.invokevirtual 87, 3) := dzq_182 (by decide +kernel)
theorem D_133_19 : decode J_133.2.2.1 19 = .ok (.goto 65, 3) := dzq_167 (by decide +kernel)
theorem D_133_22 : decode J_133.2.2.1 22 = .ok (.aload_n 0, 1) := dzq_42 (by decide +kernel)
theorem D_133_23 : decode J_133.2.2.1 23 = .ok (.getfield 15, 3) := dzq_180 (by decide +kernel)
theorem D_133_26 : decode J_133.2.2.1 26 = .ok (.getfield 131, 3) := dzq_180 (by decide +kernel)
theorem D_133_29 : decode J_133.2.2.1 29 = .ok (.iload_n 1, 1) := dzq_27 (by decide +kernel)
theorem D_133_30 : decode J_133.2.2.1 30 = .ok (.iaload, 1) := dzq_46 (by decide +kernel)
theorem D_133_31 : decode J_133.2.2.1 31 = .ok (.bipush 8, 2) := dzq_16 (by decide +kernel)
theorem D_133_33 : decode J_133.2.2.1 33 = .ok (.if_icmp .ne 14, 3) := dzq_160 (by decide +kernel)
theorem D_133_36 : decode J_133.2.2.1 36 = .ok (.aload_n 0, 1) := dzq_42 (by decide +kernel)
theorem D_133_37 : decode J_133.2.2.1 37 = .ok (.getfield 9, 3) := dzq_180 (by decide +kernel)
theorem D_133_40 : decode J_133.2.2.1 40 = .ok (.iconst 3, 1) := dzq_6 (by decide +kernel)
theorem D_133_41 : decode J_133.2.2.1 41 = .ok (.invokevirtual 87, 3) := dzq_182 (by decide +kernel)
theorem D_133_44 : decode J_133.2.2.1 44 = .ok (.goto 40, 3) := dzq_167 (by decide +kernel)
theorem D_133_47 : decode J_133.2.2.1 47 = .ok (.aload_n 0, 1) := dzq_42 (by decide +kernel)
theorem D_133_48 : decode J_133.2.2.1 48 = .ok (.getfield 15, 3) := dzq_180 (by decide +kernel)
theorem D_133_51 : decode J_133.2.2.1 51 = .ok (.getfield 131, 3) := dzq_180 (by decide +kernel)
theorem D_133_54 : decode J_133.2.2.1 54 = .ok (.iload_n 1, 1) := dzq_27 (by decide +kernel)
theorem D_133_55 : decode J_133.2.2.1 55 = .ok (.dup2, 1) := by decide +kernel
theorem D_133_56 : decode J_133.2.2.1 56 = .ok (.iaload, 1) := dzq_46 (by decide +kernel)
theorem D_133_57 : decode J_133.2.2.1 57 = .ok (.iconst 1, 1) := dzq_4 (by decide +kernel)
theorem D_133_58 : decode J_133.2.2.1 58 = .ok (.iadd, 1) := dzq_96 (by decide +kernel)
theorem D_133_59 : decode J_133.2.2.1 59 = .ok (.iastore, 1) := dzq_79 (by decide +kernel)
theorem D_133_60 : decode J_133.2.2.1 60 = .ok (.aload_n 0, 1) := dzq_42 (by decide +kernel)
theorem D_133_61 : decode J_133.2.2.1 61 = .ok (.getfield 9, 3) := dzq_180 (by decide +kernel)
theorem D_133_64 : decode J_133.2.2.1 64 = .ok (.invokevirtual 90, 3) := dzq_182 (by decide +kernel)
theorem D_133_67 : decode J_133.2.2.1 67 = .ok (.aload_n 0, 1) := dzq_42 (by decide +kernel)
theorem D_133_68 : decode J_133.2.2.1 68 = .ok (.getfield 9, 3) := dzq_180 (by decide +kernel)
theorem D_133_71 : decode J_133.2.2.1 71 = .ok (.bipush 8, 2) := dzq_16 (by decide +kernel)
theorem D_133_73 : decode J_133.2.2.1 73 = .ok (.invokevirtual 72, 3) := dzq_182 (by decide +kernel)
theorem D_133_76 : decode J_133.2.2.1 76 = .ok (.aload_n 0, 1) := dzq_42 (by decide +kernel)
theorem D_133_77 : decode J_133.2.2.1 77 = .ok (.getfield 9, 3) := dzq_180 (by decide +kernel)
theorem D_133_80 : decode J_133.2.2.1 80 = .ok (.iconst 3, 1) := dzq_6 (by decide +kernel)
theorem D_133_81 : decode J_133.2.2.1 81 = .ok (.invokevirtual 72, 3) := dzq_182 (by decide +kernel)
theorem D_133_84 : decode J_133.2.2.1 84 = .ok (.return_, 1) := dzq_177 (by decide +kernel)
def P_133_0 (X : mjX) (d C S kc ks : Nat) (k : Nat → Int32 → mjH → mjU) : Prop := ∀ (l0 : Nat) (l1 : Int32) (hp : mjH) (q : Option Value × mjH), k l0 l1 hp = some q → mjG X d C S J_133 (mjEq q) 0 [some (.ref l0), some (.int l1)] [] hp kc ks
noncomputable def b_133_0 (R : mjR) (l0 : Nat) (l1 : Int32) (hp : mjH) : mjU := gR hp l0 8 0 (fun v1 => rV hp v1 9 (bI (R 164 [.ref v1, .int (3 : Int32)] hp) (fun v2 hp3 => (if v2 = 0 then gR hp3 l0 8 0 (fun v19 => rV hp3 v19 9 (bN (R 165 [.ref v19, .int (2 : Int32)] hp3) (fun  hp20 => some (none, hp20)))) else gR hp3 l0 8 1 (fun v4 => gR hp3 v4 7 3 (fun v5 => aI hp3 v5 l1 (fun v6 => (if v6 = (8 : Int32) then gR hp3 l0 8 0 (fun v17 => rV hp3 v17 9 (bN (R 165 [.ref v17, .int (3 : Int32)] hp3) (fun  hp18 => some (none, hp18)))) else gR hp3 l0 8 1 (fun v7 => gR hp3 v7 7 3 (fun v8 => aI hp3 v8 l1 (fun v9 => sI hp3 v8 l1 (v9 + (1 : Int32)) (fun hp10 => gR hp10 l0 8 0 (fun v11 => rV hp10 v11 9 (bN (R 166 [.ref v11] hp10) (fun  hp12 => gR hp12 l0 8 0 (fun v13 => rV hp12 v13 9 (bN (R 169 [.ref v13, .int (8 : Int32)] hp12) (fun  hp14 => gR hp14 l0 8 0 (fun v15 => rV hp14 v15 9 (bN (R 169 [.ref v15, .int (3 : Int32)] hp14) (fun  hp16 => some (none, hp16))))))))))))))))))))))
theorem t_133_0 {X : mjX} {d C S kc ks : Nat} {R : mjR} (hR : mjC R d) (h1 : kc ≤ C) (h2 : ks ≤ S) : P_133_0 X (d + 1) C S kc ks (b_133_0 R) := by
  intro l0 l1 hp q h
  unfold b_133_0 at h
  refine mjr_aload_n (x := l0) D_133_0 rfl ?_
  refine mjq_gR D_133_1 fr_8_9 h (fun v1 h => ?_)
  refine mjq_ic (v := (3 : Int32)) D_133_4 rfl ?_
  refine mjq_vI (As := [.int (3 : Int32)]) (rest := []) D_133_5 mr_8_53 V_164 rfl rfl rfl hR (Nat.le_refl _) h1 h2 h (fun v2 hp3 h => ?_)
  refine mjq_if_ne (tgt := 22) D_133_8 rfl h (fun h => ?_) (fun h => ?_)
  · refine mjr_aload_n (x := l0) D_133_22 rfl ?_
    refine mjq_gR D_133_23 fr_8_15 h (fun v4 h => ?_)
    refine mjq_gR D_133_26 fr_8_131 h (fun v5 h => ?_)
    refine mjr_iload_n (x := l1) D_133_29 rfl ?_
    refine mjq_aI D_133_30 h (fun v6 h => ?_)
    refine mjq_bi (v := (8 : Int32)) D_133_31 rfl ?_
    refine mjq_icmp_ne (tgt := 47) D_133_33 rfl h (fun h => ?_) (fun h => ?_)
    · refine mjr_aload_n (x := l0) D_133_47 rfl ?_
      refine mjq_gR D_133_48 fr_8_15 h (fun v7 h => ?_)
      refine mjq_gR D_133_51 fr_8_131 h (fun v8 h => ?_)
      refine mjr_iload_n (x := l1) D_133_54 rfl ?_
      refine mjr_dup2 D_133_55 rfl rfl ?_
      refine mjq_aI D_133_56 h (fun v9 h => ?_)
      refine mjq_ic (v := (1 : Int32)) D_133_57 rfl ?_
      refine mjr_iadd D_133_58 ?_
      refine mjq_sI D_133_59 h (fun hp10 h => ?_)
      refine mjr_aload_n (x := l0) D_133_60 rfl ?_
      refine mjq_gR D_133_61 fr_8_9 h (fun v11 h => ?_)
      refine mjq_vN (As := []) (rest := []) D_133_64 mr_8_90 V_166 rfl rfl rfl hR (Nat.le_refl _) h1 h2 h (fun  hp12 h => ?_)
      refine mjr_aload_n (x := l0) D_133_67 rfl ?_
      refine mjq_gR D_133_68 fr_8_9 h (fun v13 h => ?_)
      refine mjq_bi (v := (8 : Int32)) D_133_71 rfl ?_
      refine mjq_vN (As := [.int (8 : Int32)]) (rest := []) D_133_73 mr_8_72 V_169 rfl rfl rfl hR (Nat.le_refl _) h1 h2 h (fun  hp14 h => ?_)
      refine mjr_aload_n (x := l0) D_133_76 rfl ?_
      refine mjq_gR D_133_77 fr_8_9 h (fun v15 h => ?_)
      refine mjq_ic (v := (3 : Int32)) D_133_80 rfl ?_
      refine mjq_vN (As := [.int (3 : Int32)]) (rest := []) D_133_81 mr_8_72 V_169 rfl rfl rfl hR (Nat.le_refl _) h1 h2 h (fun  hp16 h => ?_)
      exact mjq_nret D_133_84 rfl h1 h2 h
    · refine mjr_aload_n (x := l0) D_133_36 rfl ?_
      refine mjq_gR D_133_37 fr_8_9 h (fun v17 h => ?_)
      refine mjq_ic (v := (3 : Int32)) D_133_40 rfl ?_
      refine mjq_vN (As := [.int (3 : Int32)]) (rest := []) D_133_41 mr_8_87 V_165 rfl rfl rfl hR (Nat.le_refl _) h1 h2 h (fun  hp18 h => ?_)
      refine mjr_goto (tgt := 84) D_133_44 rfl ?_
      exact mjq_nret D_133_84 rfl h1 h2 h
  · refine mjr_aload_n (x := l0) D_133_11 rfl ?_
    refine mjq_gR D_133_12 fr_8_9 h (fun v19 h => ?_)
    refine mjq_ic (v := (2 : Int32)) D_133_15 rfl ?_
    refine mjq_vN (As := [.int (2 : Int32)]) (rest := []) D_133_16 mr_8_87 V_165 rfl rfl rfl hR (Nat.le_refl _) h1 h2 h (fun  hp20 h => ?_)
    refine mjr_goto (tgt := 84) D_133_19 rfl ?_
    exact mjq_nret D_133_84 rfl h1 h2 h
noncomputable def f_133 (R : mjR) (a0 : Nat) (a1 : Int32) (hp : mjH) : mjU := b_133_0 R a0 a1 hp
theorem c_133 {R : mjR} {d : Nat} (hR : mjC R d) {a0 : Nat} {a1 : Int32} {hp : mjH} {q : Option Value × mjH} (h : f_133 R a0 a1 hp = some q) : mjM (d + 1) 0 0 133 [.ref a0, .int a1] hp (mjEq q) :=
  mjM_of Ja_133 (Nat.le_of_ble_eq_true rfl) (mjG.fg (lo' := [some (.ref a0), some (.int a1)]) (And.intro rfl (And.intro rfl True.intro)) ((t_133_0 hR (Nat.le_refl 0) (Nat.le_refl 0)) a0 a1 hp q h))
def J_134 : mjI := (⟨"OwnerHeap$Reader", "open", "(I)V"⟩, 8, prog_10_method_3_code, 2, none, 1, false)
theorem Ja_134 : mjMt 134 = some J_134 := by rfl
theorem D_134_0 : decode J_134.2.2.1 0 = .ok (.aload_n 0, 1) := dzq_42 (by decide +kernel)
theorem D_134_1 : decode J_134.2.2.1 1 = .ok (.getfield 9, 3) := dzq_180 (by decide +kernel)
theorem D_134_4 : decode J_134.2.2.1 4 = .ok (.iload_n 1, 1) := dzq_27 (by decide +kernel)
theorem D_134_5 : decode J_134.2.2.1 5 = .ok (.invokevirtual 53, 3) := dzq_182 (by decide +kernel)
theorem D_134_8 : decode J_134.2.2.1 8 = .ok (.ifCond .ne 14, 3) := dzq_154 (by decide +kernel)
theorem D_134_11 : decode J_134.2.2.1 11 = .ok (.aload_n 0, 1) := dzq_42 (by decide +kernel)
theorem D_134_12 : decode J_134.2.2.1 12 = .ok (.getfield 9, 3) := dzq_180 (by decide +kernel)
theorem D_134_15 : decode J_134.2.2.1 15 = .ok (.iconst 2, 1) := dzq_5 (by decide +kernel)
theorem D_134_16 : decode J_134.2.2.1 16 = .ok (.invokevirtual 87, 3) := dzq_182 (by decide +kernel)
theorem D_134_19 : decode J_134.2.2.1 19 = .ok (.goto 40, 3) := dzq_167 (by decide +kernel)
theorem D_134_22 : decode J_134.2.2.1 22 = .ok (.aload_n 0, 1) := dzq_42 (by decide +kernel)
theorem D_134_23 : decode J_134.2.2.1 23 = .ok (.getfield 47, 3) := dzq_180 (by decide +kernel)
theorem D_134_26 : decode J_134.2.2.1 26 = .ok (.bipush 12, 2) := dzq_16 (by decide +kernel)
theorem D_134_28 : decode J_134.2.2.1 28 = .ok (.if_icmp .ne 14, 3) := dzq_160 (by decide +kernel)
theorem D_134_31 : decode J_134.2.2.1 31 = .ok (.aload_n 0, 1) := dzq_42 (by decide +kernel)
theorem D_134_32 : decode J_134.2.2.1 32 = .ok (.getfield 9, 3) := dzq_180 (by decide +kernel)
theorem D_134_35 : decode J_134.2.2.1 35 = .ok (.iconst 3, 1) := dzq_6 (by decide +kernel)
theorem D_134_36 : decode J_134.2.2.1 36 = .ok (.invokevirtual 87, 3) := dzq_182 (by decide +kernel)
theorem D_134_39 : decode J_134.2.2.1 39 = .ok (.goto 20, 3) := dzq_167 (by decide +kernel)
theorem D_134_42 : decode J_134.2.2.1 42 = .ok (.aload_n 0, 1) := dzq_42 (by decide +kernel)
theorem D_134_43 : decode J_134.2.2.1 43 = .ok (.dup, 1) := dzq_89 (by decide +kernel)
theorem D_134_44 : decode J_134.2.2.1 44 = .ok (.getfield 47, 3) := dzq_180 (by decide +kernel)
theorem D_134_47 : decode J_134.2.2.1 47 = .ok (.iconst 1, 1) := dzq_4 (by decide +kernel)
theorem D_134_48 : decode J_134.2.2.1 48 = .ok (.iadd, 1) := dzq_96 (by decide +kernel)
theorem D_134_49 : decode J_134.2.2.1 49 = .ok (.putfield 47, 3) := dzq_181 (by decide +kernel)
theorem D_134_52 : decode J_134.2.2.1 52 = .ok (.aload_n 0, 1) := dzq_42 (by decide +kernel)
theorem D_134_53 : decode J_134.2.2.1 53 = .ok (.getfield 9, 3) := dzq_180 (by decide +kernel)
theorem D_134_56 : decode J_134.2.2.1 56 = .ok (.invokevirtual 90, 3) := dzq_182 (by decide +kernel)
theorem D_134_59 : decode J_134.2.2.1 59 = .ok (.return_, 1) := dzq_177 (by decide +kernel)
def P_134_0 (X : mjX) (d C S kc ks : Nat) (k : Nat → Int32 → mjH → mjU) : Prop := ∀ (l0 : Nat) (l1 : Int32) (hp : mjH) (q : Option Value × mjH), k l0 l1 hp = some q → mjG X d C S J_134 (mjEq q) 0 [some (.ref l0), some (.int l1)] [] hp kc ks
noncomputable def b_134_0 (R : mjR) (l0 : Nat) (l1 : Int32) (hp : mjH) : mjU := gR hp l0 8 0 (fun v1 => rV hp v1 9 (bI (R 164 [.ref v1, .int l1] hp) (fun v2 hp3 => (if v2 = 0 then gR hp3 l0 8 0 (fun v11 => rV hp3 v11 9 (bN (R 165 [.ref v11, .int (2 : Int32)] hp3) (fun  hp12 => some (none, hp12)))) else gI hp3 l0 8 9 (fun v4 => (if v4 = (12 : Int32) then gR hp3 l0 8 0 (fun v9 => rV hp3 v9 9 (bN (R 165 [.ref v9, .int (3 : Int32)] hp3) (fun  hp10 => some (none, hp10)))) else gI hp3 l0 8 9 (fun v5 => pI hp3 l0 8 9 (v5 + (1 : Int32)) (fun hp6 => gR hp6 l0 8 0 (fun v7 => rV hp6 v7 9 (bN (R 166 [.ref v7] hp6) (fun  hp8 => some (none, hp8))))))))))))
theorem t_134_0 {X : mjX} {d C S kc ks : Nat} {R : mjR} (hR : mjC R d) (h1 : kc ≤ C) (h2 : ks ≤ S) : P_134_0 X (d + 1) C S kc ks (b_134_0 R) := by
  intro l0 l1 hp q h
  unfold b_134_0 at h
  refine mjr_aload_n (x := l0) D_134_0 rfl ?_
  refine mjq_gR D_134_1 fr_8_9 h (fun v1 h => ?_)
  refine mjr_iload_n (x := l1) D_134_4 rfl ?_
  refine mjq_vI (As := [.int l1]) (rest := []) D_134_5 mr_8_53 V_164 rfl rfl rfl hR (Nat.le_refl _) h1 h2 h (fun v2 hp3 h => ?_)
  refine mjq_if_ne (tgt := 22) D_134_8 rfl h (fun h => ?_) (fun h => ?_)
  · refine mjr_aload_n (x := l0) D_134_22 rfl ?_
    refine mjq_gI D_134_23 fr_8_47 h (fun v4 h => ?_)
    refine mjq_bi (v := (12 : Int32)) D_134_26 rfl ?_
    refine mjq_icmp_ne (tgt := 42) D_134_28 rfl h (fun h => ?_) (fun h => ?_)
    · refine mjr_aload_n (x := l0) D_134_42 rfl ?_
      refine mjr_dup D_134_43 rfl ?_
      refine mjq_gI D_134_44 fr_8_47 h (fun v5 h => ?_)
      refine mjq_ic (v := (1 : Int32)) D_134_47 rfl ?_
      refine mjr_iadd D_134_48 ?_
      refine mjq_pI D_134_49 fr_8_47 rfl rfl h (fun hp6 h => ?_)
      refine mjr_aload_n (x := l0) D_134_52 rfl ?_
      refine mjq_gR D_134_53 fr_8_9 h (fun v7 h => ?_)
      refine mjq_vN (As := []) (rest := []) D_134_56 mr_8_90 V_166 rfl rfl rfl hR (Nat.le_refl _) h1 h2 h (fun  hp8 h => ?_)
      exact mjq_nret D_134_59 rfl h1 h2 h
    · refine mjr_aload_n (x := l0) D_134_31 rfl ?_
      refine mjq_gR D_134_32 fr_8_9 h (fun v9 h => ?_)
      refine mjq_ic (v := (3 : Int32)) D_134_35 rfl ?_
      refine mjq_vN (As := [.int (3 : Int32)]) (rest := []) D_134_36 mr_8_87 V_165 rfl rfl rfl hR (Nat.le_refl _) h1 h2 h (fun  hp10 h => ?_)
      refine mjr_goto (tgt := 59) D_134_39 rfl ?_
      exact mjq_nret D_134_59 rfl h1 h2 h
  · refine mjr_aload_n (x := l0) D_134_11 rfl ?_
    refine mjq_gR D_134_12 fr_8_9 h (fun v11 h => ?_)
    refine mjq_ic (v := (2 : Int32)) D_134_15 rfl ?_
    refine mjq_vN (As := [.int (2 : Int32)]) (rest := []) D_134_16 mr_8_87 V_165 rfl rfl rfl hR (Nat.le_refl _) h1 h2 h (fun  hp12 h => ?_)
    refine mjr_goto (tgt := 59) D_134_19 rfl ?_
    exact mjq_nret D_134_59 rfl h1 h2 h
noncomputable def f_134 (R : mjR) (a0 : Nat) (a1 : Int32) (hp : mjH) : mjU := b_134_0 R a0 a1 hp
theorem c_134 {R : mjR} {d : Nat} (hR : mjC R d) {a0 : Nat} {a1 : Int32} {hp : mjH} {q : Option Value × mjH} (h : f_134 R a0 a1 hp = some q) : mjM (d + 1) 0 0 134 [.ref a0, .int a1] hp (mjEq q) :=
  mjM_of Ja_134 (Nat.le_of_ble_eq_true rfl) (mjG.fg (lo' := [some (.ref a0), some (.int a1)]) (And.intro rfl (And.intro rfl True.intro)) ((t_134_0 hR (Nat.le_refl 0) (Nat.le_refl 0)) a0 a1 hp q h))
def J_135 : mjI := (⟨"OwnerHeap$Reader", "startsType", "()Z"⟩, 8, prog_10_method_12_code, 1, (some .boolean), 0, false)
theorem Ja_135 : mjMt 135 = some J_135 := by rfl
theorem D_135_0 : decode J_135.2.2.1 0 = .ok (.aload_n 0, 1) := dzq_42 (by decide +kernel)
theorem D_135_1 : decode J_135.2.2.1 1 = .ok (.getfield 9, 3) := dzq_180 (by decide +kernel)
theorem D_135_4 : decode J_135.2.2.1 4 = .ok (.bipush 10, 2) := dzq_16 (by decide +kernel)
theorem D_135_6 : decode J_135.2.2.1 6 = .ok (.invokevirtual 53, 3) := dzq_182 (by decide +kernel)
theorem D_135_9 : decode J_135.2.2.1 9 = .ok (.ifCond .ne 14, 3) := dzq_154 (by decide +kernel)
theorem D_135_12 : decode J_135.2.2.1 12 = .ok (.aload_n 0, 1) := dzq_42 (by decide +kernel)
theorem D_135_13 : decode J_135.2.2.1 13 = .ok (.getfield 9, 3) := dzq_180 (by decide +kernel)
theorem D_135_16 : decode J_135.2.2.1 16 = .ok (.iconst 2, 1) := dzq_5 (by decide +kernel)
theorem D_135_17 : decode J_135.2.2.1 17 = .ok (.invokevirtual 53, 3) := dzq_182 (by decide +kernel)
theorem D_135_20 : decode J_135.2.2.1 20 = .ok (.ifCond .eq 7, 3) := dzq_153 (by decide +kernel)
theorem D_135_23 : decode J_135.2.2.1 23 = .ok (.iconst 1, 1) := dzq_4 (by decide +kernel)
theorem D_135_24 : decode J_135.2.2.1 24 = .ok (.goto 4, 3) := dzq_167 (by decide +kernel)
theorem D_135_27 : decode J_135.2.2.1 27 = .ok (.iconst 0, 1) := dzq_3 (by decide +kernel)
theorem D_135_28 : decode J_135.2.2.1 28 = .ok (.ireturn, 1) := dzq_172 (by decide +kernel)
def P_135_23 (X : mjX) (d C S kc ks : Nat) (k : mjH → mjU) : Prop := ∀  (hp : mjH) (q : Option Value × mjH), k  hp = some q → mjG X d C S J_135 (mjEq q) 23 [none] [] hp kc ks
def P_135_0 (X : mjX) (d C S kc ks : Nat) (k : Nat → mjH → mjU) : Prop := ∀ (l0 : Nat) (hp : mjH) (q : Option Value × mjH), k l0 hp = some q → mjG X d C S J_135 (mjEq q) 0 [some (.ref l0)] [] hp kc ks
noncomputable def b_135_23 (R : mjR)  (hp : mjH) : mjU := some (some (.int (1 : Int32)), hp)
theorem t_135_23 {X : mjX} {d C S kc ks : Nat} {R : mjR} (hR : mjC R d) (h1 : kc ≤ C) (h2 : ks ≤ S) : P_135_23 X (d + 1) C S kc ks (b_135_23 R) := by
  intro  hp q h
  unfold b_135_23 at h
  refine mjq_ic (v := (1 : Int32)) D_135_23 rfl ?_
  refine mjr_goto (tgt := 28) D_135_24 rfl ?_
  exact mjr_ireturn D_135_28 rfl rfl h1 h2 (Option.some.inj h)
noncomputable def b_135_0 (R : mjR) (l0 : Nat) (hp : mjH) : mjU := gR hp l0 8 0 (fun v1 => rV hp v1 9 (bI (R 164 [.ref v1, .int (10 : Int32)] hp) (fun v2 hp3 => (if v2 = 0 then gR hp3 l0 8 0 (fun v4 => rV hp3 v4 9 (bI (R 164 [.ref v4, .int (2 : Int32)] hp3) (fun v5 hp6 => (if v5 = 0 then some (some (.int (0 : Int32)), hp6) else b_135_23 R hp6)))) else b_135_23 R hp3))))
theorem t_135_0 {X : mjX} {d C S kc ks : Nat} {R : mjR} (hR : mjC R d) (h1 : kc ≤ C) (h2 : ks ≤ S) : P_135_0 X (d + 1) C S kc ks (b_135_0 R) := by
  intro l0 hp q h
  unfold b_135_0 at h
  refine mjr_aload_n (x := l0) D_135_0 rfl ?_
  refine mjq_gR D_135_1 fr_8_9 h (fun v1 h => ?_)
  refine mjq_bi (v := (10 : Int32)) D_135_4 rfl ?_
  refine mjq_vI (As := [.int (10 : Int32)]) (rest := []) D_135_6 mr_8_53 V_164 rfl rfl rfl hR (Nat.le_refl _) h1 h2 h (fun v2 hp3 h => ?_)
  refine mjq_if_ne (tgt := 23) D_135_9 rfl h (fun h => ?_) (fun h => ?_)
  · exact mjG.fg (lo' := [none]) True.intro ((t_135_23 hR h1 h2) _ _ h)
  · refine mjr_aload_n (x := l0) D_135_12 rfl ?_
    refine mjq_gR D_135_13 fr_8_9 h (fun v4 h => ?_)
    refine mjq_ic (v := (2 : Int32)) D_135_16 rfl ?_
    refine mjq_vI (As := [.int (2 : Int32)]) (rest := []) D_135_17 mr_8_53 V_164 rfl rfl rfl hR (Nat.le_refl _) h1 h2 h (fun v5 hp6 h => ?_)
    refine mjq_if_eq (tgt := 27) D_135_20 rfl h (fun h => ?_) (fun h => ?_)
    · refine mjq_ic (v := (0 : Int32)) D_135_27 rfl ?_
      exact mjr_ireturn D_135_28 rfl rfl h1 h2 (Option.some.inj h)
    · exact mjG.fg (lo' := [none]) True.intro ((t_135_23 hR h1 h2) _ _ h)
noncomputable def f_135 (R : mjR) (a0 : Nat) (hp : mjH) : mjU := b_135_0 R a0 hp
theorem c_135 {R : mjR} {d : Nat} (hR : mjC R d) {a0 : Nat} {hp : mjH} {q : Option Value × mjH} (h : f_135 R a0 hp = some q) : mjM (d + 1) 0 0 135 [.ref a0] hp (mjEq q) :=
  mjM_of Ja_135 (Nat.le_of_ble_eq_true rfl) (mjG.fg (lo' := [some (.ref a0)]) (And.intro rfl True.intro) ((t_135_0 hR (Nat.le_refl 0) (Nat.le_refl 0)) a0 hp q h))
def J_136 : mjI := (⟨"OwnerHeap$Reader", "readMember", "(II)V"⟩, 8, prog_10_method_10_code, 4, none, 2, false)
theorem Ja_136 : mjMt 136 = some J_136 := by rfl
theorem D_136_0 : decode J_136.2.2.1 0 = .ok (.aload_n 0, 1) := dzq_42 (by decide +kernel)
theorem D_136_1 : decode J_136.2.2.1 1 = .ok (.getfield 25, 3) := dzq_180 (by decide +kernel)
theorem D_136_4 : decode J_136.2.2.1 4 = .ok (.getfield 99, 3) := dzq_180 (by decide +kernel)
theorem D_136_7 : decode J_136.2.2.1 7 = .ok (.istore_n 3, 1) := dzq_62 (by decide +kernel)
theorem D_136_8 : decode J_136.2.2.1 8 = .ok (.iload_n 2, 1) := dzq_28 (by decide +kernel)
theorem D_136_9 : decode J_136.2.2.1 9 = .ok (.bipush 24, 2) := dzq_16 (by decide +kernel)
theorem D_136_11 : decode J_136.2.2.1 11 = .ok (.if_icmp .eq 10, 3) := dzq_159 (by decide +kernel)
theorem D_136_14 : decode J_136.2.2.1 14 = .ok (.iload_n 3, 1) := dzq_29 (by decide +kernel)
theorem D_136_15 : decode J_136.2.2.1 15 = .ok (.sipush 384, 3) := dzq_17 (by decide +kernel)
theorem D_136_18 : decode J_136.2.2.1 18 = .ok (.if_icmp .lt 12, 3) := dzq_161 (by decide +kernel)
theorem D_136_21 : decode J_136.2.2.1 21 = .ok (.aload_n 0, 1) := dzq_42 (by decide +kernel)
theorem D_136_22 : decode J_136.2.2.1 22 = .ok (.getfield 9, 3) := dzq_180 (by decide +kernel)
theorem D_136_25 : decode J_136.2.2.1 25 = .ok (.iconst 3, 1) := dzq_6 (by decide +kernel)
theorem D_136_26 : decode J_136.2.2.1 26 = .ok (.invokevirtual 87, 3) := dzq_182 (by decide +kernel)
theorem D_136_29 : decode J_136.2.2.1 29 = .ok (.return_, 1) := dzq_177 (by decide +kernel)
theorem D_136_30 : decode J_136.2.2.1 30 = .ok (.aload_n 0, 1) := dzq_42 (by decide +kernel)
theorem D_136_31 : decode J_136.2.2.1 31 = .ok (.getfield 25, 3) := dzq_180 (by decide +kernel)
theorem D_136_34 : decode J_136.2.2.1 34 = .ok (.dup, 1) := dzq_89 (by decide +kernel)
theorem D_136_35 : decode J_136.2.2.1 35 = .ok (.getfield 99, 3) := dzq_180 (by decide +kernel)
theorem D_136_38 : decode J_136.2.2.1 38 = .ok (.iconst 1, 1) := dzq_4 (by decide +kernel)
theorem D_136_39 : decode J_136.2.2.1 39 = .ok (.iadd, 1) := dzq_96 (by decide +kernel)
theorem D_136_40 : decode J_136.2.2.1 40 = .ok (.putfield 99, 3) := dzq_181 (by decide +kernel)
theorem D_136_43 : decode J_136.2.2.1 43 = .ok (.aload_n 0, 1) := dzq_42 (by decide +kernel)
theorem D_136_44 : decode J_136.2.2.1 44 = .ok (.getfield 15, 3) := dzq_180 (by decide +kernel)
theorem D_136_47 : decode J_136.2.2.1 47 = .ok (.getfield 134, 3) := dzq_180 (by decide +kernel)
theorem D_136_50 : decode J_136.2.2.1 50 = .ok (.iload_n 1, 1) := dzq_27 (by decide +kernel)
theorem D_136_51 : decode J_136.2.2.1 51 = .ok (.dup2, 1) := by decide +kernel
theorem D_136_52 : decode J_136.2.2.1 52 = .ok (.iaload, 1) := dzq_46 (by decide +kernel)
theorem D_136_53 : decode J_136.2.2.1 53 = .ok (.iconst 1, 1) := dzq_4 (by decide +kernel)
theorem D_136_54 : decode J_136.2.2.1 54 = .ok (.iadd, 1) := dzq_96 (by decide +kernel)
theorem D_136_55 : decode J_136.2.2.1 55 = .ok (.iastore, 1) := dzq_79 (by decide +kernel)
theorem D_136_56 : decode J_136.2.2.1 56 = .ok (.aload_n 0, 1) := dzq_42 (by decide +kernel)
theorem D_136_57 : decode J_136.2.2.1 57 = .ok (.getfield 25, 3) := dzq_180 (by decide +kernel)
theorem D_136_60 : decode J_136.2.2.1 60 = .ok (.getfield 137, 3) := dzq_180 (by decide +kernel)
theorem D_136_63 : decode J_136.2.2.1 63 = .ok (.iload_n 3, 1) := dzq_29 (by decide +kernel)
theorem D_136_64 : decode J_136.2.2.1 64 = .ok (.iload_n 1, 1) := dzq_27 (by decide +kernel)
theorem D_136_65 : decode J_136.2.2.1 65 = .ok (.iastore, 1) := dzq_79 (by decide +kernel)
theorem D_136_66 : decode J_136.2.2.1 66 = .ok (.aload_n 0, 1) := dzq_42 (by decide +kernel)
theorem D_136_67 : decode J_136.2.2.1 67 = .ok (.getfield 38, 3) := dzq_180 (by decide +kernel)
theorem D_136_70 : decode J_136.2.2.1 70 = .ok (.iload_n 3, 1) := dzq_29 (by decide +kernel)
theorem D_136_71 : decode J_136.2.2.1 71 = .ok (.aload_n 0, 1) := dzq_42 (by decide +kernel)
theorem D_136_72 : decode J_136.2.2.1 72 = .ok (.getfield 9, 3) := dzq_180 (by decide +kernel)
theorem D_136_75 : decode J_136.2.2.1 75 = .ok (.invokevirtual 78, 3) := dzq_182 (by decide +kernel)
theorem D_136_78 : decode J_136.2.2.1 78 = .ok (.iastore, 1) := dzq_79 (by decide +kernel)
theorem D_136_79 : decode J_136.2.2.1 79 = .ok (.aload_n 0, 1) := dzq_42 (by decide +kernel)
theorem D_136_80 : decode J_136.2.2.1 80 = .ok (.iconst 1, 1) := dzq_4 (by decide +kernel)
theorem D_136_81 : decode J_136.2.2.1 81 = .ok (.invokevirtual 112, 3) := dzq_182 (by decide +kernel)
theorem D_136_84 : decode J_136.2.2.1 84 = .ok (.aload_n 0, 1) := dzq_42 (by decide +kernel)
theorem D_136_85 : decode J_136.2.2.1 85 = .ok (.getfield 41, 3) := dzq_180 (by decide +kernel)
theorem D_136_88 : decode J_136.2.2.1 88 = .ok (.iload_n 3, 1) := dzq_29 (by decide +kernel)
theorem D_136_89 : decode J_136.2.2.1 89 = .ok (.aload_n 0, 1) := dzq_42 (by decide +kernel)
theorem D_136_90 : decode J_136.2.2.1 90 = .ok (.getfield 9, 3) := dzq_180 (by decide +kernel)
theorem D_136_93 : decode J_136.2.2.1 93 = .ok (.invokevirtual 78, 3) := dzq_182 (by decide +kernel)
theorem D_136_96 : decode J_136.2.2.1 96 = .ok (.iastore, 1) := dzq_79 (by decide +kernel)
theorem D_136_97 : decode J_136.2.2.1 97 = .ok (.aload_n 0, 1) := dzq_42 (by decide +kernel)
theorem D_136_98 : decode J_136.2.2.1 98 = .ok (.getfield 25, 3) := dzq_180 (by decide +kernel)
theorem D_136_101 : decode J_136.2.2.1 101 = .ok (.getfield 140, 3) := dzq_180 (by decide +kernel)
theorem D_136_104 : decode J_136.2.2.1 104 = .ok (.iload_n 3, 1) := dzq_29 (by decide +kernel)
theorem D_136_105 : decode J_136.2.2.1 105 = .ok (.aload_n 0, 1) := dzq_42 (by decide +kernel)
theorem D_136_106 : decode J_136.2.2.1 106 = .ok (.getfield 9, 3) := dzq_180 (by decide +kernel)
theorem D_136_109 : decode J_136.2.2.1 109 = .ok (.aload_n 0, 1) := dzq_42 (by decide +kernel)
theorem D_136_110 : decode J_136.2.2.1 110 = .ok (.getfield 9, 3) := dzq_180 (by decide +kernel)
theorem D_136_113 : decode J_136.2.2.1 113 = .ok (.invokevirtual 78, 3) := dzq_182 (by decide +kernel)
theorem D_136_116 : decode J_136.2.2.1 116 = .ok (.invokevirtual 144, 3) := dzq_182 (by decide +kernel)
theorem D_136_119 : decode J_136.2.2.1 119 = .ok (.lastore, 1) := by decide +kernel
theorem D_136_120 : decode J_136.2.2.1 120 = .ok (.aload_n 0, 1) := dzq_42 (by decide +kernel)
theorem D_136_121 : decode J_136.2.2.1 121 = .ok (.getfield 9, 3) := dzq_180 (by decide +kernel)
theorem D_136_124 : decode J_136.2.2.1 124 = .ok (.iconst 3, 1) := dzq_6 (by decide +kernel)
theorem D_136_125 : decode J_136.2.2.1 125 = .ok (.invokevirtual 72, 3) := dzq_182 (by decide +kernel)
theorem D_136_128 : decode J_136.2.2.1 128 = .ok (.aload_n 0, 1) := dzq_42 (by decide +kernel)
theorem D_136_129 : decode J_136.2.2.1 129 = .ok (.getfield 9, 3) := dzq_180 (by decide +kernel)
theorem D_136_132 : decode J_136.2.2.1 132 = .ok (.bipush 59, 2) := dzq_16 (by decide +kernel)
theorem D_136_134 : decode J_136.2.2.1 134 = .ok (.invokevirtual 53, 3) := dzq_182 (by decide +kernel)
theorem D_136_137 : decode J_136.2.2.1 137 = .ok (.ifCond .eq 42, 3) := dzq_153 (by decide +kernel)
theorem D_136_140 : decode J_136.2.2.1 140 = .ok (.aload_n 0, 1) := dzq_42 (by decide +kernel)
theorem D_136_141 : decode J_136.2.2.1 141 = .ok (.getfield 9, 3) := dzq_180 (by decide +kernel)
theorem D_136_144 : decode J_136.2.2.1 144 = .ok (.invokevirtual 90, 3) := dzq_182 (by decide +kernel)
theorem D_136_147 : decode J_136.2.2.1 147 = .ok (.aload_n 0, 1) := dzq_42 (by decide +kernel)
theorem D_136_148 : decode J_136.2.2.1 148 = .ok (.getfield 25, 3) := dzq_180 (by decide +kernel)
theorem D_136_151 : decode J_136.2.2.1 151 = .ok (.getfield 148, 3) := dzq_180 (by decide +kernel)
theorem D_136_154 : decode J_136.2.2.1 154 = .ok (.iload_n 3, 1) := dzq_29 (by decide +kernel)
theorem D_136_155 : decode J_136.2.2.1 155 = .ok (.aload_n 0, 1) := dzq_42 (by decide +kernel)
theorem D_136_156 : decode J_136.2.2.1 156 = .ok (.getfield 15, 3) := dzq_180 (by decide +kernel)
theorem D_136_159 : decode J_136.2.2.1 159 = .ok (.getfield 151, 3) := dzq_180 (by decide +kernel)
theorem D_136_162 : decode J_136.2.2.1 162 = .ok (.iload_n 1, 1) := dzq_27 (by decide +kernel)
theorem D_136_163 : decode J_136.2.2.1 163 = .ok (.iaload, 1) := dzq_46 (by decide +kernel)
theorem D_136_164 : decode J_136.2.2.1 164 = .ok (.iastore, 1) := dzq_79 (by decide +kernel)
theorem D_136_165 : decode J_136.2.2.1 165 = .ok (.aload_n 0, 1) := dzq_42 (by decide +kernel)
theorem D_136_166 : decode J_136.2.2.1 166 = .ok (.getfield 15, 3) := dzq_180 (by decide +kernel)
theorem D_136_169 : decode J_136.2.2.1 169 = .ok (.getfield 151, 3) := dzq_180 (by decide +kernel)
theorem D_136_172 : decode J_136.2.2.1 172 = .ok (.iload_n 1, 1) := dzq_27 (by decide +kernel)
theorem D_136_173 : decode J_136.2.2.1 173 = .ok (.dup2, 1) := by decide +kernel
theorem D_136_174 : decode J_136.2.2.1 174 = .ok (.iaload, 1) := dzq_46 (by decide +kernel)
theorem D_136_175 : decode J_136.2.2.1 175 = .ok (.iconst 1, 1) := dzq_4 (by decide +kernel)
theorem D_136_176 : decode J_136.2.2.1 176 = .ok (.iadd, 1) := dzq_96 (by decide +kernel)
theorem D_136_177 : decode J_136.2.2.1 177 = .ok (.iastore, 1) := dzq_79 (by decide +kernel)
theorem D_136_178 : decode J_136.2.2.1 178 = .ok (.return_, 1) := dzq_177 (by decide +kernel)
theorem D_136_179 : decode J_136.2.2.1 179 = .ok (.aload_n 0, 1) := dzq_42 (by decide +kernel)
theorem D_136_180 : decode J_136.2.2.1 180 = .ok (.getfield 25, 3) := dzq_180 (by decide +kernel)
theorem D_136_183 : decode J_136.2.2.1 183 = .ok (.getfield 154, 3) := dzq_180 (by decide +kernel)
theorem D_136_186 : decode J_136.2.2.1 186 = .ok (.iload_n 3, 1) := dzq_29 (by decide +kernel)
theorem D_136_187 : decode J_136.2.2.1 187 = .ok (.iconst 1, 1) := dzq_4 (by decide +kernel)
theorem D_136_188 : decode J_136.2.2.1 188 = .ok (.bastore, 1) := by decide +kernel
theorem D_136_189 : decode J_136.2.2.1 189 = .ok (.aload_n 0, 1) := dzq_42 (by decide +kernel)
theorem D_136_190 : decode J_136.2.2.1 190 = .ok (.getfield 25, 3) := dzq_180 (by decide +kernel)
theorem D_136_193 : decode J_136.2.2.1 193 = .ok (.getfield 148, 3) := dzq_180 (by decide +kernel)
theorem D_136_196 : decode J_136.2.2.1 196 = .ok (.iload_n 3, 1) := dzq_29 (by decide +kernel)
theorem D_136_197 : decode J_136.2.2.1 197 = .ok (.aload_n 0, 1) := dzq_42 (by decide +kernel)
theorem D_136_198 : decode J_136.2.2.1 198 = .ok (.getfield 15, 3) := dzq_180 (by decide +kernel)
theorem D_136_201 : decode J_136.2.2.1 201 = .ok (.getfield 158, 3) := dzq_180 (by decide +kernel)
theorem D_136_204 : decode J_136.2.2.1 204 = .ok (.iload_n 1, 1) := dzq_27 (by decide +kernel)
theorem D_136_205 : decode J_136.2.2.1 205 = .ok (.iaload, 1) := dzq_46 (by decide +kernel)
theorem D_136_206 : decode J_136.2.2.1 206 = .ok (.iastore, 1) := dzq_79 (by decide +kernel)
theorem D_136_207 : decode J_136.2.2.1 207 = .ok (.aload_n 0, 1) := dzq_42 (by decide +kernel)
theorem D_136_208 : decode J_136.2.2.1 208 = .ok (.getfield 15, 3) := dzq_180 (by decide +kernel)
theorem D_136_211 : decode J_136.2.2.1 211 = .ok (.getfield 158, 3) := dzq_180 (by decide +kernel)
theorem D_136_214 : decode J_136.2.2.1 214 = .ok (.iload_n 1, 1) := dzq_27 (by decide +kernel)
theorem D_136_215 : decode J_136.2.2.1 215 = .ok (.dup2, 1) := by decide +kernel
theorem D_136_216 : decode J_136.2.2.1 216 = .ok (.iaload, 1) := dzq_46 (by decide +kernel)
theorem D_136_217 : decode J_136.2.2.1 217 = .ok (.iconst 1, 1) := dzq_4 (by decide +kernel)
theorem D_136_218 : decode J_136.2.2.1 218 = .ok (.iadd, 1) := dzq_96 (by decide +kernel)
theorem D_136_219 : decode J_136.2.2.1 219 = .ok (.iastore, 1) := dzq_79 (by decide +kernel)
theorem D_136_220 : decode J_136.2.2.1 220 = .ok (.aload_n 0, 1) := dzq_42 (by decide +kernel)
theorem D_136_221 : decode J_136.2.2.1 221 = .ok (.iload_n 3, 1) := dzq_29 (by decide +kernel)
theorem D_136_222 : decode J_136.2.2.1 222 = .ok (.invokevirtual 161, 3) := dzq_182 (by decide +kernel)
theorem D_136_225 : decode J_136.2.2.1 225 = .ok (.aload_n 0, 1) := dzq_42 (by decide +kernel)
theorem D_136_226 : decode J_136.2.2.1 226 = .ok (.aload_n 0, 1) := dzq_42 (by decide +kernel)
theorem D_136_227 : decode J_136.2.2.1 227 = .ok (.getfield 25, 3) := dzq_180 (by decide +kernel)
theorem D_136_230 : decode J_136.2.2.1 230 = .ok (.getfield 164, 3) := dzq_180 (by decide +kernel)
theorem D_136_233 : decode J_136.2.2.1 233 = .ok (.iload_n 3, 1) := dzq_29 (by decide +kernel)
theorem D_136_234 : decode J_136.2.2.1 234 = .ok (.iaload, 1) := dzq_46 (by decide +kernel)
theorem D_136_235 : decode J_136.2.2.1 235 = .ok (.putfield 75, 3) := dzq_181 (by decide +kernel)
theorem D_136_238 : decode J_136.2.2.1 238 = .ok (.aload_n 0, 1) := dzq_42 (by decide +kernel)
theorem D_136_239 : decode J_136.2.2.1 239 = .ok (.getfield 44, 3) := dzq_180 (by decide +kernel)
theorem D_136_242 : decode J_136.2.2.1 242 = .ok (.iload_n 3, 1) := dzq_29 (by decide +kernel)
theorem D_136_243 : decode J_136.2.2.1 243 = .ok (.aload_n 0, 1) := dzq_42 (by decide +kernel)
theorem D_136_244 : decode J_136.2.2.1 244 = .ok (.getfield 9, 3) := dzq_180 (by decide +kernel)
theorem D_136_247 : decode J_136.2.2.1 247 = .ok (.invokevirtual 78, 3) := dzq_182 (by decide +kernel)
theorem D_136_250 : decode J_136.2.2.1 250 = .ok (.iastore, 1) := dzq_79 (by decide +kernel)
theorem D_136_251 : decode J_136.2.2.1 251 = .ok (.aload_n 0, 1) := dzq_42 (by decide +kernel)
theorem D_136_252 : decode J_136.2.2.1 252 = .ok (.invokevirtual 82, 3) := dzq_182 (by decide +kernel)
theorem D_136_255 : decode J_136.2.2.1 255 = .ok (.aload_n 0, 1) := dzq_42 (by decide +kernel)
theorem D_136_256 : decode J_136.2.2.1 256 = .ok (.getfield 25, 3) := dzq_180 (by decide +kernel)
theorem D_136_259 : decode J_136.2.2.1 259 = .ok (.getfield 85, 3) := dzq_180 (by decide +kernel)
theorem D_136_262 : decode J_136.2.2.1 262 = .ok (.iload_n 3, 1) := dzq_29 (by decide +kernel)
theorem D_136_263 : decode J_136.2.2.1 263 = .ok (.aload_n 0, 1) := dzq_42 (by decide +kernel)
theorem D_136_264 : decode J_136.2.2.1 264 = .ok (.getfield 75, 3) := dzq_180 (by decide +kernel)
theorem D_136_267 : decode J_136.2.2.1 267 = .ok (.iastore, 1) := dzq_79 (by decide +kernel)
theorem D_136_268 : decode J_136.2.2.1 268 = .ok (.return_, 1) := dzq_177 (by decide +kernel)
def P_136_21 (X : mjX) (d C S kc ks : Nat) (k : Nat → mjH → mjU) : Prop := ∀ (l0 : Nat) (hp : mjH) (q : Option Value × mjH), k l0 hp = some q → mjG X d C S J_136 (mjEq q) 21 [some (.ref l0), none, none, none] [] hp kc ks
def P_136_0 (X : mjX) (d C S kc ks : Nat) (k : Nat → Int32 → Int32 → mjH → mjU) : Prop := ∀ (l0 : Nat) (l1 : Int32) (l2 : Int32) (hp : mjH) (q : Option Value × mjH), k l0 l1 l2 hp = some q → mjG X d C S J_136 (mjEq q) 0 [some (.ref l0), some (.int l1), some (.int l2), none] [] hp kc ks
noncomputable def b_136_21 (R : mjR) (l0 : Nat) (hp : mjH) : mjU := gR hp l0 8 0 (fun v1 => rV hp v1 9 (bN (R 165 [.ref v1, .int (3 : Int32)] hp) (fun  hp2 => some (none, hp2))))
theorem t_136_21 {X : mjX} {d C S kc ks : Nat} {R : mjR} (hR : mjC R d) (h1 : kc ≤ C) (h2 : ks ≤ S) : P_136_21 X (d + 1) C S kc ks (b_136_21 R) := by
  intro l0 hp q h
  unfold b_136_21 at h
  refine mjr_aload_n (x := l0) D_136_21 rfl ?_
  refine mjq_gR D_136_22 fr_8_9 h (fun v1 h => ?_)
  refine mjq_ic (v := (3 : Int32)) D_136_25 rfl ?_
  refine mjq_vN (As := [.int (3 : Int32)]) (rest := []) D_136_26 mr_8_87 V_165 rfl rfl rfl hR (Nat.le_refl _) h1 h2 h (fun  hp2 h => ?_)
  exact mjq_nret D_136_29 rfl h1 h2 h
noncomputable def b_136_0 (R : mjR) (l0 : Nat) (l1 : Int32) (l2 : Int32) (hp : mjH) : mjU := gR hp l0 8 2 (fun v1 => gI hp v1 6 0 (fun v2 => (if l2 = (24 : Int32) then b_136_21 R l0 hp else (if v2 < (384 : Int32) then gR hp l0 8 2 (fun v3 => gI hp v3 6 0 (fun v4 => pI hp v3 6 0 (v4 + (1 : Int32)) (fun hp5 => gR hp5 l0 8 1 (fun v6 => gR hp5 v6 7 10 (fun v7 => aI hp5 v7 l1 (fun v8 => sI hp5 v7 l1 (v8 + (1 : Int32)) (fun hp9 => gR hp9 l0 8 2 (fun v10 => gR hp9 v10 6 2 (fun v11 => sI hp9 v11 v2 l1 (fun hp12 => gR hp12 l0 8 6 (fun v13 => gR hp12 l0 8 0 (fun v14 => rV hp12 v14 9 (bI (R 167 [.ref v14] hp12) (fun v15 hp16 => sI hp16 v13 v2 v15 (fun hp17 => rV hp17 l0 8 (bN (R 130 [.ref l0, .int (1 : Int32)] hp17) (fun  hp18 => gR hp18 l0 8 7 (fun v19 => gR hp18 l0 8 0 (fun v20 => rV hp18 v20 9 (bI (R 167 [.ref v20] hp18) (fun v21 hp22 => sI hp22 v19 v2 v21 (fun hp23 => gR hp23 l0 8 2 (fun v24 => gR hp23 v24 6 1 (fun v25 => gR hp23 l0 8 0 (fun v26 => gR hp23 l0 8 0 (fun v27 => rV hp23 v27 9 (bI (R 167 [.ref v27] hp23) (fun v28 hp29 => rV hp29 v26 9 (bL (R 170 [.ref v26, .int v28] hp29) (fun v30 hp31 => sL hp31 v25 v2 v30 (fun hp32 => gR hp32 l0 8 0 (fun v33 => rV hp32 v33 9 (bN (R 169 [.ref v33, .int (3 : Int32)] hp32) (fun  hp34 => gR hp34 l0 8 0 (fun v35 => rV hp34 v35 9 (bI (R 164 [.ref v35, .int (59 : Int32)] hp34) (fun v36 hp37 => (if v36 = 0 then gR hp37 l0 8 2 (fun v38 => gR hp37 v38 6 4 (fun v39 => sB hp37 v39 v2 (1 : Int32) (fun hp40 => gR hp40 l0 8 2 (fun v41 => gR hp40 v41 6 5 (fun v42 => gR hp40 l0 8 1 (fun v43 => gR hp40 v43 7 6 (fun v44 => aI hp40 v44 l1 (fun v45 => sI hp40 v42 v2 v45 (fun hp46 => gR hp46 l0 8 1 (fun v47 => gR hp46 v47 7 6 (fun v48 => aI hp46 v48 l1 (fun v49 => sI hp46 v48 l1 (v49 + (1 : Int32)) (fun hp50 => rV hp50 l0 8 (bN (R 137 [.ref l0, .int v2] hp50) (fun  hp51 => gR hp51 l0 8 2 (fun v52 => gR hp51 v52 6 6 (fun v53 => aI hp51 v53 v2 (fun v54 => pI hp51 l0 8 10 v54 (fun hp55 => gR hp55 l0 8 8 (fun v56 => gR hp55 l0 8 0 (fun v57 => rV hp55 v57 9 (bI (R 167 [.ref v57] hp55) (fun v58 hp59 => sI hp59 v56 v2 v58 (fun hp60 => rV hp60 l0 8 (bN (R 139 [.ref l0] hp60) (fun  hp61 => gR hp61 l0 8 2 (fun v62 => gR hp61 v62 6 8 (fun v63 => gI hp61 l0 8 10 (fun v64 => sI hp61 v63 v2 v64 (fun hp65 => some (none, hp65))))))))))))))))))))))))))))))) else gR hp37 l0 8 0 (fun v66 => rV hp37 v66 9 (bN (R 166 [.ref v66] hp37) (fun  hp67 => gR hp67 l0 8 2 (fun v68 => gR hp67 v68 6 5 (fun v69 => gR hp67 l0 8 1 (fun v70 => gR hp67 v70 7 7 (fun v71 => aI hp67 v71 l1 (fun v72 => sI hp67 v69 v2 v72 (fun hp73 => gR hp73 l0 8 1 (fun v74 => gR hp73 v74 7 7 (fun v75 => aI hp73 v75 l1 (fun v76 => sI hp73 v75 l1 (v76 + (1 : Int32)) (fun hp77 => some (none, hp77)))))))))))))))))))))))))))))))))))))))))))))))))))) else b_136_21 R l0 hp))))
theorem t_136_0 {X : mjX} {d C S kc ks : Nat} {R : mjR} (hR : mjC R d) (h1 : kc ≤ C) (h2 : ks ≤ S) : P_136_0 X (d + 1) C S kc ks (b_136_0 R) := by
  intro l0 l1 l2 hp q h
  unfold b_136_0 at h
  refine mjr_aload_n (x := l0) D_136_0 rfl ?_
  refine mjq_gR D_136_1 fr_8_25 h (fun v1 h => ?_)
  refine mjq_gI D_136_4 fr_8_99 h (fun v2 h => ?_)
  refine mjq_istore_n (lo' := [some (.ref l0), some (.int l1), some (.int l2), some (.int v2)]) D_136_7 (Nat.le_of_ble_eq_true rfl) rfl ?_
  refine mjr_iload_n (x := l2) D_136_8 rfl ?_
  refine mjq_bi (v := (24 : Int32)) D_136_9 rfl ?_
  refine mjq_icmp_eq (tgt := 21) D_136_11 rfl h (fun h => ?_) (fun h => ?_)
  · exact mjG.fg (lo' := [some (.ref l0), none, none, none]) (And.intro rfl True.intro) ((t_136_21 hR h1 h2) _ _ _ h)
  · refine mjr_iload_n (x := v2) D_136_14 rfl ?_
    refine mjq_si (v := (384 : Int32)) D_136_15 rfl ?_
    refine mjq_icmp_lt (tgt := 30) D_136_18 rfl h (fun h => ?_) (fun h => ?_)
    · refine mjr_aload_n (x := l0) D_136_30 rfl ?_
      refine mjq_gR D_136_31 fr_8_25 h (fun v3 h => ?_)
      refine mjr_dup D_136_34 rfl ?_
      refine mjq_gI D_136_35 fr_8_99 h (fun v4 h => ?_)
      refine mjq_ic (v := (1 : Int32)) D_136_38 rfl ?_
      refine mjr_iadd D_136_39 ?_
      refine mjq_pI D_136_40 fr_8_99 rfl rfl h (fun hp5 h => ?_)
      refine mjr_aload_n (x := l0) D_136_43 rfl ?_
      refine mjq_gR D_136_44 fr_8_15 h (fun v6 h => ?_)
      refine mjq_gR D_136_47 fr_8_134 h (fun v7 h => ?_)
      refine mjr_iload_n (x := l1) D_136_50 rfl ?_
      refine mjr_dup2 D_136_51 rfl rfl ?_
      refine mjq_aI D_136_52 h (fun v8 h => ?_)
      refine mjq_ic (v := (1 : Int32)) D_136_53 rfl ?_
      refine mjr_iadd D_136_54 ?_
      refine mjq_sI D_136_55 h (fun hp9 h => ?_)
      refine mjr_aload_n (x := l0) D_136_56 rfl ?_
      refine mjq_gR D_136_57 fr_8_25 h (fun v10 h => ?_)
      refine mjq_gR D_136_60 fr_8_137 h (fun v11 h => ?_)
      refine mjr_iload_n (x := v2) D_136_63 rfl ?_
      refine mjr_iload_n (x := l1) D_136_64 rfl ?_
      refine mjq_sI D_136_65 h (fun hp12 h => ?_)
      refine mjr_aload_n (x := l0) D_136_66 rfl ?_
      refine mjq_gR D_136_67 fr_8_38 h (fun v13 h => ?_)
      refine mjr_iload_n (x := v2) D_136_70 rfl ?_
      refine mjr_aload_n (x := l0) D_136_71 rfl ?_
      refine mjq_gR D_136_72 fr_8_9 h (fun v14 h => ?_)
      refine mjq_vI (As := []) (rest := [.int v2, .ref v13]) D_136_75 mr_8_78 V_167 rfl rfl rfl hR (Nat.le_refl _) h1 h2 h (fun v15 hp16 h => ?_)
      refine mjq_sI D_136_78 h (fun hp17 h => ?_)
      refine mjr_aload_n (x := l0) D_136_79 rfl ?_
      refine mjq_ic (v := (1 : Int32)) D_136_80 rfl ?_
      refine mjq_vN (As := [.int (1 : Int32)]) (rest := []) D_136_81 mr_8_112 V_130 rfl rfl rfl hR (Nat.le_refl _) h1 h2 h (fun  hp18 h => ?_)
      refine mjr_aload_n (x := l0) D_136_84 rfl ?_
      refine mjq_gR D_136_85 fr_8_41 h (fun v19 h => ?_)
      refine mjr_iload_n (x := v2) D_136_88 rfl ?_
      refine mjr_aload_n (x := l0) D_136_89 rfl ?_
      refine mjq_gR D_136_90 fr_8_9 h (fun v20 h => ?_)
      refine mjq_vI (As := []) (rest := [.int v2, .ref v19]) D_136_93 mr_8_78 V_167 rfl rfl rfl hR (Nat.le_refl _) h1 h2 h (fun v21 hp22 h => ?_)
      refine mjq_sI D_136_96 h (fun hp23 h => ?_)
      refine mjr_aload_n (x := l0) D_136_97 rfl ?_
      refine mjq_gR D_136_98 fr_8_25 h (fun v24 h => ?_)
      refine mjq_gR D_136_101 fr_8_140 h (fun v25 h => ?_)
      refine mjr_iload_n (x := v2) D_136_104 rfl ?_
      refine mjr_aload_n (x := l0) D_136_105 rfl ?_
      refine mjq_gR D_136_106 fr_8_9 h (fun v26 h => ?_)
      refine mjr_aload_n (x := l0) D_136_109 rfl ?_
      refine mjq_gR D_136_110 fr_8_9 h (fun v27 h => ?_)
      refine mjq_vI (As := []) (rest := [.ref v26, .int v2, .ref v25]) D_136_113 mr_8_78 V_167 rfl rfl rfl hR (Nat.le_refl _) h1 h2 h (fun v28 hp29 h => ?_)
      refine mjq_vL (As := [.int v28]) (rest := [.int v2, .ref v25]) D_136_116 mr_8_144 V_170 rfl rfl rfl hR (Nat.le_refl _) h1 h2 h (fun v30 hp31 h => ?_)
      refine mjq_sL D_136_119 h (fun hp32 h => ?_)
      refine mjr_aload_n (x := l0) D_136_120 rfl ?_
      refine mjq_gR D_136_121 fr_8_9 h (fun v33 h => ?_)
      refine mjq_ic (v := (3 : Int32)) D_136_124 rfl ?_
      refine mjq_vN (As := [.int (3 : Int32)]) (rest := []) D_136_125 mr_8_72 V_169 rfl rfl rfl hR (Nat.le_refl _) h1 h2 h (fun  hp34 h => ?_)
      refine mjr_aload_n (x := l0) D_136_128 rfl ?_
      refine mjq_gR D_136_129 fr_8_9 h (fun v35 h => ?_)
      refine mjq_bi (v := (59 : Int32)) D_136_132 rfl ?_
      refine mjq_vI (As := [.int (59 : Int32)]) (rest := []) D_136_134 mr_8_53 V_164 rfl rfl rfl hR (Nat.le_refl _) h1 h2 h (fun v36 hp37 h => ?_)
      refine mjq_if_eq (tgt := 179) D_136_137 rfl h (fun h => ?_) (fun h => ?_)
      · refine mjr_aload_n (x := l0) D_136_179 rfl ?_
        refine mjq_gR D_136_180 fr_8_25 h (fun v38 h => ?_)
        refine mjq_gR D_136_183 fr_8_154 h (fun v39 h => ?_)
        refine mjr_iload_n (x := v2) D_136_186 rfl ?_
        refine mjq_ic (v := (1 : Int32)) D_136_187 rfl ?_
        refine mjq_sB D_136_188 h (fun hp40 h => ?_)
        refine mjr_aload_n (x := l0) D_136_189 rfl ?_
        refine mjq_gR D_136_190 fr_8_25 h (fun v41 h => ?_)
        refine mjq_gR D_136_193 fr_8_148 h (fun v42 h => ?_)
        refine mjr_iload_n (x := v2) D_136_196 rfl ?_
        refine mjr_aload_n (x := l0) D_136_197 rfl ?_
        refine mjq_gR D_136_198 fr_8_15 h (fun v43 h => ?_)
        refine mjq_gR D_136_201 fr_8_158 h (fun v44 h => ?_)
        refine mjr_iload_n (x := l1) D_136_204 rfl ?_
        refine mjq_aI D_136_205 h (fun v45 h => ?_)
        refine mjq_sI D_136_206 h (fun hp46 h => ?_)
        refine mjr_aload_n (x := l0) D_136_207 rfl ?_
        refine mjq_gR D_136_208 fr_8_15 h (fun v47 h => ?_)
        refine mjq_gR D_136_211 fr_8_158 h (fun v48 h => ?_)
        refine mjr_iload_n (x := l1) D_136_214 rfl ?_
        refine mjr_dup2 D_136_215 rfl rfl ?_
        refine mjq_aI D_136_216 h (fun v49 h => ?_)
        refine mjq_ic (v := (1 : Int32)) D_136_217 rfl ?_
        refine mjr_iadd D_136_218 ?_
        refine mjq_sI D_136_219 h (fun hp50 h => ?_)
        refine mjr_aload_n (x := l0) D_136_220 rfl ?_
        refine mjr_iload_n (x := v2) D_136_221 rfl ?_
        refine mjq_vN (As := [.int v2]) (rest := []) D_136_222 mr_8_161 V_137 rfl rfl rfl hR (Nat.le_refl _) h1 h2 h (fun  hp51 h => ?_)
        refine mjr_aload_n (x := l0) D_136_225 rfl ?_
        refine mjr_aload_n (x := l0) D_136_226 rfl ?_
        refine mjq_gR D_136_227 fr_8_25 h (fun v52 h => ?_)
        refine mjq_gR D_136_230 fr_8_164 h (fun v53 h => ?_)
        refine mjr_iload_n (x := v2) D_136_233 rfl ?_
        refine mjq_aI D_136_234 h (fun v54 h => ?_)
        refine mjq_pI D_136_235 fr_8_75 rfl rfl h (fun hp55 h => ?_)
        refine mjr_aload_n (x := l0) D_136_238 rfl ?_
        refine mjq_gR D_136_239 fr_8_44 h (fun v56 h => ?_)
        refine mjr_iload_n (x := v2) D_136_242 rfl ?_
        refine mjr_aload_n (x := l0) D_136_243 rfl ?_
        refine mjq_gR D_136_244 fr_8_9 h (fun v57 h => ?_)
        refine mjq_vI (As := []) (rest := [.int v2, .ref v56]) D_136_247 mr_8_78 V_167 rfl rfl rfl hR (Nat.le_refl _) h1 h2 h (fun v58 hp59 h => ?_)
        refine mjq_sI D_136_250 h (fun hp60 h => ?_)
        refine mjr_aload_n (x := l0) D_136_251 rfl ?_
        refine mjq_vN (As := []) (rest := []) D_136_252 mr_8_82 V_139 rfl rfl rfl hR (Nat.le_refl _) h1 h2 h (fun  hp61 h => ?_)
        refine mjr_aload_n (x := l0) D_136_255 rfl ?_
        refine mjq_gR D_136_256 fr_8_25 h (fun v62 h => ?_)
        refine mjq_gR D_136_259 fr_8_85 h (fun v63 h => ?_)
        refine mjr_iload_n (x := v2) D_136_262 rfl ?_
        refine mjr_aload_n (x := l0) D_136_263 rfl ?_
        refine mjq_gI D_136_264 fr_8_75 h (fun v64 h => ?_)
        refine mjq_sI D_136_267 h (fun hp65 h => ?_)
        exact mjq_nret D_136_268 rfl h1 h2 h
      · refine mjr_aload_n (x := l0) D_136_140 rfl ?_
        refine mjq_gR D_136_141 fr_8_9 h (fun v66 h => ?_)
        refine mjq_vN (As := []) (rest := []) D_136_144 mr_8_90 V_166 rfl rfl rfl hR (Nat.le_refl _) h1 h2 h (fun  hp67 h => ?_)
        refine mjr_aload_n (x := l0) D_136_147 rfl ?_
        refine mjq_gR D_136_148 fr_8_25 h (fun v68 h => ?_)
        refine mjq_gR D_136_151 fr_8_148 h (fun v69 h => ?_)
        refine mjr_iload_n (x := v2) D_136_154 rfl ?_
        refine mjr_aload_n (x := l0) D_136_155 rfl ?_
        refine mjq_gR D_136_156 fr_8_15 h (fun v70 h => ?_)
        refine mjq_gR D_136_159 fr_8_151 h (fun v71 h => ?_)
        refine mjr_iload_n (x := l1) D_136_162 rfl ?_
        refine mjq_aI D_136_163 h (fun v72 h => ?_)
        refine mjq_sI D_136_164 h (fun hp73 h => ?_)
        refine mjr_aload_n (x := l0) D_136_165 rfl ?_
        refine mjq_gR D_136_166 fr_8_15 h (fun v74 h => ?_)
        refine mjq_gR D_136_169 fr_8_151 h (fun v75 h => ?_)
        refine mjr_iload_n (x := l1) D_136_172 rfl ?_
        refine mjr_dup2 D_136_173 rfl rfl ?_
        refine mjq_aI D_136_174 h (fun v76 h => ?_)
        refine mjq_ic (v := (1 : Int32)) D_136_175 rfl ?_
        refine mjr_iadd D_136_176 ?_
        refine mjq_sI D_136_177 h (fun hp77 h => ?_)
        exact mjq_nret D_136_178 rfl h1 h2 h
    · exact mjG.fg (lo' := [some (.ref l0), none, none, none]) (And.intro rfl True.intro) ((t_136_21 hR h1 h2) _ _ _ h)
noncomputable def f_136 (R : mjR) (a0 : Nat) (a1 : Int32) (a2 : Int32) (hp : mjH) : mjU := b_136_0 R a0 a1 a2 hp
theorem c_136 {R : mjR} {d : Nat} (hR : mjC R d) {a0 : Nat} {a1 : Int32} {a2 : Int32} {hp : mjH} {q : Option Value × mjH} (h : f_136 R a0 a1 a2 hp = some q) : mjM (d + 1) 0 0 136 [.ref a0, .int a1, .int a2] hp (mjEq q) :=
  mjM_of Ja_136 (Nat.le_of_ble_eq_true rfl) (mjG.fg (lo' := [some (.ref a0), some (.int a1), some (.int a2), none]) (And.intro rfl (And.intro rfl (And.intro rfl True.intro))) ((t_136_0 hR (Nat.le_refl 0) (Nat.le_refl 0)) a0 a1 a2 hp q h))
def J_137 : mjI := (⟨"OwnerHeap$Reader", "readParams", "(I)V"⟩, 8, prog_10_method_11_code, 4, none, 1, false)
theorem Ja_137 : mjMt 137 = some J_137 := by rfl
theorem D_137_0 : decode J_137.2.2.1 0 = .ok (.aload_n 0, 1) := dzq_42 (by decide +kernel)
theorem D_137_1 : decode J_137.2.2.1 1 = .ok (.bipush 40, 2) := dzq_16 (by decide +kernel)
theorem D_137_3 : decode J_137.2.2.1 3 = .ok (.invokevirtual 119, 3) := dzq_182 (by decide +kernel)
theorem D_137_6 : decode J_137.2.2.1 6 = .ok (.aload_n 0, 1) := dzq_42 (by decide +kernel)
theorem D_137_7 : decode J_137.2.2.1 7 = .ok (.getfield 9, 3) := dzq_180 (by decide +kernel)
theorem D_137_10 : decode J_137.2.2.1 10 = .ok (.bipush 41, 2) := dzq_16 (by decide +kernel)
theorem D_137_12 : decode J_137.2.2.1 12 = .ok (.invokevirtual 53, 3) := dzq_182 (by decide +kernel)
theorem D_137_15 : decode J_137.2.2.1 15 = .ok (.ifCond .ne 7, 3) := dzq_154 (by decide +kernel)
theorem D_137_18 : decode J_137.2.2.1 18 = .ok (.iconst 1, 1) := dzq_4 (by decide +kernel)
theorem D_137_19 : decode J_137.2.2.1 19 = .ok (.goto 4, 3) := dzq_167 (by decide +kernel)
theorem D_137_22 : decode J_137.2.2.1 22 = .ok (.iconst 0, 1) := dzq_3 (by decide +kernel)
theorem D_137_23 : decode J_137.2.2.1 23 = .ok (.istore_n 2, 1) := dzq_61 (by decide +kernel)
theorem D_137_24 : decode J_137.2.2.1 24 = .ok (.iconst 0, 1) := dzq_3 (by decide +kernel)
theorem D_137_25 : decode J_137.2.2.1 25 = .ok (.istore_n 3, 1) := dzq_62 (by decide +kernel)
theorem D_137_26 : decode J_137.2.2.1 26 = .ok (.iload_n 3, 1) := dzq_29 (by decide +kernel)
theorem D_137_27 : decode J_137.2.2.1 27 = .ok (.bipush 6, 2) := dzq_16 (by decide +kernel)
theorem D_137_29 : decode J_137.2.2.1 29 = .ok (.if_icmp .gt 85, 3) := dzq_163 (by decide +kernel)
theorem D_137_32 : decode J_137.2.2.1 32 = .ok (.iload_n 2, 1) := dzq_28 (by decide +kernel)
theorem D_137_33 : decode J_137.2.2.1 33 = .ok (.ifCond .eq 81, 3) := dzq_153 (by decide +kernel)
theorem D_137_36 : decode J_137.2.2.1 36 = .ok (.iload_n 3, 1) := dzq_29 (by decide +kernel)
theorem D_137_37 : decode J_137.2.2.1 37 = .ok (.bipush 6, 2) := dzq_16 (by decide +kernel)
theorem D_137_39 : decode J_137.2.2.1 39 = .ok (.if_icmp .ne 18, 3) := dzq_160 (by decide +kernel)
theorem D_137_42 : decode J_137.2.2.1 42 = .ok (.aload_n 0, 1) := dzq_42 (by decide +kernel)
theorem D_137_43 : decode J_137.2.2.1 43 = .ok (.invokevirtual 61, 3) := dzq_182 (by decide +kernel)
theorem D_137_46 : decode J_137.2.2.1 46 = .ok (.ifCond .eq 11, 3) := dzq_153 (by decide +kernel)
theorem D_137_49 : decode J_137.2.2.1 49 = .ok (.aload_n 0, 1) := dzq_42 (by decide +kernel)
theorem D_137_50 : decode J_137.2.2.1 50 = .ok (.getfield 9, 3) := dzq_180 (by decide +kernel)
theorem D_137_53 : decode J_137.2.2.1 53 = .ok (.iconst 3, 1) := dzq_6 (by decide +kernel)
theorem D_137_54 : decode J_137.2.2.1 54 = .ok (.invokevirtual 87, 3) := dzq_182 (by decide +kernel)
theorem D_137_57 : decode J_137.2.2.1 57 = .ok (.aload_n 0, 1) := dzq_42 (by decide +kernel)
theorem D_137_58 : decode J_137.2.2.1 58 = .ok (.iconst 1, 1) := dzq_4 (by decide +kernel)
theorem D_137_59 : decode J_137.2.2.1 59 = .ok (.invokevirtual 112, 3) := dzq_182 (by decide +kernel)
theorem D_137_62 : decode J_137.2.2.1 62 = .ok (.aload_n 0, 1) := dzq_42 (by decide +kernel)
theorem D_137_63 : decode J_137.2.2.1 63 = .ok (.getfield 9, 3) := dzq_180 (by decide +kernel)
theorem D_137_66 : decode J_137.2.2.1 66 = .ok (.iconst 3, 1) := dzq_6 (by decide +kernel)
theorem D_137_67 : decode J_137.2.2.1 67 = .ok (.invokevirtual 72, 3) := dzq_182 (by decide +kernel)
theorem D_137_70 : decode J_137.2.2.1 70 = .ok (.aload_n 0, 1) := dzq_42 (by decide +kernel)
theorem D_137_71 : decode J_137.2.2.1 71 = .ok (.getfield 25, 3) := dzq_180 (by decide +kernel)
theorem D_137_74 : decode J_137.2.2.1 74 = .ok (.getfield 164, 3) := dzq_180 (by decide +kernel)
theorem D_137_77 : decode J_137.2.2.1 77 = .ok (.iload_n 1, 1) := dzq_27 (by decide +kernel)
theorem D_137_78 : decode J_137.2.2.1 78 = .ok (.iload_n 3, 1) := dzq_29 (by decide +kernel)
theorem D_137_79 : decode J_137.2.2.1 79 = .ok (.iconst 1, 1) := dzq_4 (by decide +kernel)
theorem D_137_80 : decode J_137.2.2.1 80 = .ok (.iadd, 1) := dzq_96 (by decide +kernel)
theorem D_137_81 : decode J_137.2.2.1 81 = .ok (.bipush 6, 2) := dzq_16 (by decide +kernel)
theorem D_137_83 : decode J_137.2.2.1 83 = .ok (.invokestatic 167, 3) := dzq_184 (by decide +kernel)
theorem D_137_86 : decode J_137.2.2.1 86 = .ok (.iastore, 1) := dzq_79 (by decide +kernel)
theorem D_137_87 : decode J_137.2.2.1 87 = .ok (.aload_n 0, 1) := dzq_42 (by decide +kernel)
theorem D_137_88 : decode J_137.2.2.1 88 = .ok (.getfield 9, 3) := dzq_180 (by decide +kernel)
theorem D_137_91 : decode J_137.2.2.1 91 = .ok (.bipush 44, 2) := dzq_16 (by decide +kernel)
theorem D_137_93 : decode J_137.2.2.1 93 = .ok (.invokevirtual 53, 3) := dzq_182 (by decide +kernel)
theorem D_137_96 : decode J_137.2.2.1 96 = .ok (.istore_n 2, 1) := dzq_61 (by decide +kernel)
theorem D_137_97 : decode J_137.2.2.1 97 = .ok (.iload_n 2, 1) := dzq_28 (by decide +kernel)
theorem D_137_98 : decode J_137.2.2.1 98 = .ok (.ifCond .eq 10, 3) := dzq_153 (by decide +kernel)
theorem D_137_101 : decode J_137.2.2.1 101 = .ok (.aload_n 0, 1) := dzq_42 (by decide +kernel)
theorem D_137_102 : decode J_137.2.2.1 102 = .ok (.getfield 9, 3) := dzq_180 (by decide +kernel)
theorem D_137_105 : decode J_137.2.2.1 105 = .ok (.invokevirtual 90, 3) := dzq_182 (by decide +kernel)
theorem D_137_108 : decode J_137.2.2.1 108 = .ok (.iinc 3 1, 3) := dzq_132 (by decide +kernel)
theorem D_137_111 : decode J_137.2.2.1 111 = .ok (.goto (-85), 3) := dzq_167 (by decide +kernel)
theorem D_137_114 : decode J_137.2.2.1 114 = .ok (.aload_n 0, 1) := dzq_42 (by decide +kernel)
theorem D_137_115 : decode J_137.2.2.1 115 = .ok (.bipush 41, 2) := dzq_16 (by decide +kernel)
theorem D_137_117 : decode J_137.2.2.1 117 = .ok (.invokevirtual 69, 3) := dzq_182 (by decide +kernel)
theorem D_137_120 : decode J_137.2.2.1 120 = .ok (.return_, 1) := dzq_177 (by decide +kernel)
def P_137_114 (X : mjX) (d C S kc ks : Nat) (k : Nat → mjH → mjU) : Prop := ∀ (l0 : Nat) (hp : mjH) (q : Option Value × mjH), k l0 hp = some q → mjG X d C S J_137 (mjEq q) 114 [some (.ref l0), none, none, none] [] hp kc ks
def P_137_108 (X : mjX) (d C S kc ks : Nat) (k : Nat → Int32 → Int32 → Int32 → mjH → mjU) : Prop := ∀ (l0 : Nat) (l1 : Int32) (l2 : Int32) (l3 : Int32) (hp : mjH) (q : Option Value × mjH), k l0 l1 l2 l3 hp = some q → mjG X d C S J_137 (mjEq q) 108 [some (.ref l0), some (.int l1), some (.int l2), some (.int l3)] [] hp kc ks
def P_137_57 (X : mjX) (d C S kc ks : Nat) (k : Nat → Int32 → Int32 → mjH → mjU) : Prop := ∀ (l0 : Nat) (l1 : Int32) (l3 : Int32) (hp : mjH) (q : Option Value × mjH), k l0 l1 l3 hp = some q → mjG X d C S J_137 (mjEq q) 57 [some (.ref l0), some (.int l1), none, some (.int l3)] [] hp kc ks
def P_137_26 (X : mjX) (d C S kc ks : Nat) (k : Nat → Int32 → Int32 → Int32 → mjH → mjU) : Prop := ∀ (l0 : Nat) (l1 : Int32) (l2 : Int32) (l3 : Int32) (hp : mjH) (q : Option Value × mjH), k l0 l1 l2 l3 hp = some q → mjG X d C S J_137 (mjEq q) 26 [some (.ref l0), some (.int l1), some (.int l2), some (.int l3)] [] hp kc ks
def P_137_23 (X : mjX) (d C S kc ks : Nat) (k : Nat → Int32 → Int32 → mjH → mjU) : Prop := ∀ (l0 : Nat) (l1 : Int32) (s0 : Int32) (hp : mjH) (q : Option Value × mjH), k l0 l1 s0 hp = some q → mjG X d C S J_137 (mjEq q) 23 [some (.ref l0), some (.int l1), none, none] [.int s0] hp kc ks
def P_137_0 (X : mjX) (d C S kc ks : Nat) (k : Nat → Int32 → mjH → mjU) : Prop := ∀ (l0 : Nat) (l1 : Int32) (hp : mjH) (q : Option Value × mjH), k l0 l1 hp = some q → mjG X d C S J_137 (mjEq q) 0 [some (.ref l0), some (.int l1), none, none] [] hp kc ks
noncomputable def b_137_114 (R : mjR) (l0 : Nat) (hp : mjH) : mjU := rV hp l0 8 (bN (R 138 [.ref l0, .int (41 : Int32)] hp) (fun  hp1 => some (none, hp1)))
theorem t_137_114 {X : mjX} {d C S kc ks : Nat} {R : mjR} (hR : mjC R d) (h1 : kc ≤ C) (h2 : ks ≤ S) : P_137_114 X (d + 1) C S kc ks (b_137_114 R) := by
  intro l0 hp q h
  unfold b_137_114 at h
  refine mjr_aload_n (x := l0) D_137_114 rfl ?_
  refine mjq_bi (v := (41 : Int32)) D_137_115 rfl ?_
  refine mjq_vN (As := [.int (41 : Int32)]) (rest := []) D_137_117 mr_8_69 V_138 rfl rfl rfl hR (Nat.le_refl _) h1 h2 h (fun  hp1 h => ?_)
  exact mjq_nret D_137_120 rfl h1 h2 h
noncomputable def b_137_108 (R : mjR) (k26 : Nat → Int32 → Int32 → Int32 → mjH → mjU) (l0 : Nat) (l1 : Int32) (l2 : Int32) (l3 : Int32) (hp : mjH) : mjU := k26 l0 l1 l2 (l3 + (1 : Int32)) hp
theorem t_137_108 {X : mjX} {d C S kc ks : Nat} {R : mjR} (hR : mjC R d) (h1 : kc ≤ C) (h2 : ks ≤ S) {k26 : Nat → Int32 → Int32 → Int32 → mjH → mjU} (hk26 : P_137_26 X (d + 1) C S kc ks k26) : P_137_108 X (d + 1) C S kc ks (b_137_108 R k26) := by
  intro l0 l1 l2 l3 hp q h
  unfold b_137_108 at h
  refine mjq_iinc (x := l3) (c := (1 : Int32)) (lo' := [some (.ref l0), some (.int l1), some (.int l2), some (.int (l3 + (1 : Int32)))]) D_137_108 rfl (Nat.le_of_ble_eq_true rfl) rfl rfl ?_
  refine mjr_goto (tgt := 26) D_137_111 rfl ?_
  exact hk26 _ _ _ _ _ _ h
noncomputable def b_137_57 (R : mjR) (k26 : Nat → Int32 → Int32 → Int32 → mjH → mjU) (l0 : Nat) (l1 : Int32) (l3 : Int32) (hp : mjH) : mjU := rV hp l0 8 (bN (R 130 [.ref l0, .int (1 : Int32)] hp) (fun  hp1 => gR hp1 l0 8 0 (fun v2 => rV hp1 v2 9 (bN (R 169 [.ref v2, .int (3 : Int32)] hp1) (fun  hp3 => gR hp3 l0 8 2 (fun v4 => gR hp3 v4 6 6 (fun v5 => bI (R 355 [.int (l3 + (1 : Int32)), .int (6 : Int32)] hp3) (fun v6 hp7 => sI hp7 v5 l1 v6 (fun hp8 => gR hp8 l0 8 0 (fun v9 => rV hp8 v9 9 (bI (R 164 [.ref v9, .int (44 : Int32)] hp8) (fun v10 hp11 => (if v10 = 0 then b_137_108 R k26 l0 l1 v10 l3 hp11 else gR hp11 l0 8 0 (fun v12 => rV hp11 v12 9 (bN (R 166 [.ref v12] hp11) (fun  hp13 => b_137_108 R k26 l0 l1 v10 l3 hp13))))))))))))))))
theorem t_137_57 {X : mjX} {d C S kc ks : Nat} {R : mjR} (hR : mjC R d) (h1 : kc ≤ C) (h2 : ks ≤ S) {k26 : Nat → Int32 → Int32 → Int32 → mjH → mjU} (hk26 : P_137_26 X (d + 1) C S kc ks k26) : P_137_57 X (d + 1) C S kc ks (b_137_57 R k26) := by
  intro l0 l1 l3 hp q h
  unfold b_137_57 at h
  refine mjr_aload_n (x := l0) D_137_57 rfl ?_
  refine mjq_ic (v := (1 : Int32)) D_137_58 rfl ?_
  refine mjq_vN (As := [.int (1 : Int32)]) (rest := []) D_137_59 mr_8_112 V_130 rfl rfl rfl hR (Nat.le_refl _) h1 h2 h (fun  hp1 h => ?_)
  refine mjr_aload_n (x := l0) D_137_62 rfl ?_
  refine mjq_gR D_137_63 fr_8_9 h (fun v2 h => ?_)
  refine mjq_ic (v := (3 : Int32)) D_137_66 rfl ?_
  refine mjq_vN (As := [.int (3 : Int32)]) (rest := []) D_137_67 mr_8_72 V_169 rfl rfl rfl hR (Nat.le_refl _) h1 h2 h (fun  hp3 h => ?_)
  refine mjr_aload_n (x := l0) D_137_70 rfl ?_
  refine mjq_gR D_137_71 fr_8_25 h (fun v4 h => ?_)
  refine mjq_gR D_137_74 fr_8_164 h (fun v5 h => ?_)
  refine mjr_iload_n (x := l1) D_137_77 rfl ?_
  refine mjr_iload_n (x := l3) D_137_78 rfl ?_
  refine mjq_ic (v := (1 : Int32)) D_137_79 rfl ?_
  refine mjr_iadd D_137_80 ?_
  refine mjq_bi (v := (6 : Int32)) D_137_81 rfl ?_
  refine mjq_scI (As := [.int (l3 + (1 : Int32)), .int (6 : Int32)]) (rest := [.int l1, .ref v5]) D_137_83 mr_8_167 V_355 rfl rfl rfl hR (Nat.le_refl _) h1 h2 h (fun v6 hp7 h => ?_)
  refine mjq_sI D_137_86 h (fun hp8 h => ?_)
  refine mjr_aload_n (x := l0) D_137_87 rfl ?_
  refine mjq_gR D_137_88 fr_8_9 h (fun v9 h => ?_)
  refine mjq_bi (v := (44 : Int32)) D_137_91 rfl ?_
  refine mjq_vI (As := [.int (44 : Int32)]) (rest := []) D_137_93 mr_8_53 V_164 rfl rfl rfl hR (Nat.le_refl _) h1 h2 h (fun v10 hp11 h => ?_)
  refine mjq_istore_n (lo' := [some (.ref l0), some (.int l1), some (.int v10), some (.int l3)]) D_137_96 (Nat.le_of_ble_eq_true rfl) rfl ?_
  refine mjr_iload_n (x := v10) D_137_97 rfl ?_
  refine mjq_if_eq (tgt := 108) D_137_98 rfl h (fun h => ?_) (fun h => ?_)
  · exact (t_137_108 hR h1 h2 hk26) _ _ _ _ _ _ h
  · refine mjr_aload_n (x := l0) D_137_101 rfl ?_
    refine mjq_gR D_137_102 fr_8_9 h (fun v12 h => ?_)
    refine mjq_vN (As := []) (rest := []) D_137_105 mr_8_90 V_166 rfl rfl rfl hR (Nat.le_refl _) h1 h2 h (fun  hp13 h => ?_)
    exact (t_137_108 hR h1 h2 hk26) _ _ _ _ _ _ h
noncomputable def b_137_26 (R : mjR) (k26 : Nat → Int32 → Int32 → Int32 → mjH → mjU) (l0 : Nat) (l1 : Int32) (l2 : Int32) (l3 : Int32) (hp : mjH) : mjU := (if (6 : Int32) < l3 then b_137_114 R l0 hp else (if l2 = 0 then b_137_114 R l0 hp else (if l3 = (6 : Int32) then rV hp l0 8 (bI (R 135 [.ref l0] hp) (fun v1 hp2 => (if v1 = 0 then b_137_57 R k26 l0 l1 l3 hp2 else gR hp2 l0 8 0 (fun v3 => rV hp2 v3 9 (bN (R 165 [.ref v3, .int (3 : Int32)] hp2) (fun  hp4 => b_137_57 R k26 l0 l1 l3 hp4)))))) else b_137_57 R k26 l0 l1 l3 hp)))
theorem t_137_26 {X : mjX} {d C S kc ks : Nat} {R : mjR} (hR : mjC R d) (h1 : kc ≤ C) (h2 : ks ≤ S) {k26 : Nat → Int32 → Int32 → Int32 → mjH → mjU} (hk26 : P_137_26 X (d + 1) C S kc ks k26) : P_137_26 X (d + 1) C S kc ks (b_137_26 R k26) := by
  intro l0 l1 l2 l3 hp q h
  unfold b_137_26 at h
  refine mjr_iload_n (x := l3) D_137_26 rfl ?_
  refine mjq_bi (v := (6 : Int32)) D_137_27 rfl ?_
  refine mjq_icmp_gt (tgt := 114) D_137_29 rfl h (fun h => ?_) (fun h => ?_)
  · exact mjG.fg (lo' := [some (.ref l0), none, none, none]) (And.intro rfl True.intro) ((t_137_114 hR h1 h2) _ _ _ h)
  · refine mjr_iload_n (x := l2) D_137_32 rfl ?_
    refine mjq_if_eq (tgt := 114) D_137_33 rfl h (fun h => ?_) (fun h => ?_)
    · exact mjG.fg (lo' := [some (.ref l0), none, none, none]) (And.intro rfl True.intro) ((t_137_114 hR h1 h2) _ _ _ h)
    · refine mjr_iload_n (x := l3) D_137_36 rfl ?_
      refine mjq_bi (v := (6 : Int32)) D_137_37 rfl ?_
      refine mjq_icmp_ne (tgt := 57) D_137_39 rfl h (fun h => ?_) (fun h => ?_)
      · exact mjG.fg (lo' := [some (.ref l0), some (.int l1), none, some (.int l3)]) (And.intro rfl (And.intro rfl (And.intro rfl True.intro))) ((t_137_57 hR h1 h2 hk26) _ _ _ _ _ h)
      · refine mjr_aload_n (x := l0) D_137_42 rfl ?_
        refine mjq_vI (As := []) (rest := []) D_137_43 mr_8_61 V_135 rfl rfl rfl hR (Nat.le_refl _) h1 h2 h (fun v1 hp2 h => ?_)
        refine mjq_if_eq (tgt := 57) D_137_46 rfl h (fun h => ?_) (fun h => ?_)
        · exact mjG.fg (lo' := [some (.ref l0), some (.int l1), none, some (.int l3)]) (And.intro rfl (And.intro rfl (And.intro rfl True.intro))) ((t_137_57 hR h1 h2 hk26) _ _ _ _ _ h)
        · refine mjr_aload_n (x := l0) D_137_49 rfl ?_
          refine mjq_gR D_137_50 fr_8_9 h (fun v3 h => ?_)
          refine mjq_ic (v := (3 : Int32)) D_137_53 rfl ?_
          refine mjq_vN (As := [.int (3 : Int32)]) (rest := []) D_137_54 mr_8_87 V_165 rfl rfl rfl hR (Nat.le_refl _) h1 h2 h (fun  hp4 h => ?_)
          exact mjG.fg (lo' := [some (.ref l0), some (.int l1), none, some (.int l3)]) (And.intro rfl (And.intro rfl (And.intro rfl True.intro))) ((t_137_57 hR h1 h2 hk26) _ _ _ _ _ h)
noncomputable def L_137_26 (R : mjR) (n : Nat) : Nat → Int32 → Int32 → Int32 → mjH → mjU := Nat.rec (motive := fun _ => Nat → Int32 → Int32 → Int32 → mjH → mjU) (fun _ _ _ _ _ => none) (fun _ self => b_137_26 R self) n
theorem T_137_26 {X : mjX} {d C S kc ks : Nat} {R : mjR} (hR : mjC R d) (h1 : kc ≤ C) (h2 : ks ≤ S) (n : Nat) : P_137_26 X (d + 1) C S kc ks (L_137_26 R n) := by
  induction n with
  | zero => intro _ _ _ _ _ _ h; exact mj_no h
  | succ n ih => exact t_137_26 hR h1 h2 ih
noncomputable def b_137_23 (R : mjR) (l0 : Nat) (l1 : Int32) (s0 : Int32) (hp : mjH) : mjU := L_137_26 R mjN l0 l1 s0 (0 : Int32) hp
theorem t_137_23 {X : mjX} {d C S kc ks : Nat} {R : mjR} (hR : mjC R d) (h1 : kc ≤ C) (h2 : ks ≤ S) : P_137_23 X (d + 1) C S kc ks (b_137_23 R) := by
  intro l0 l1 s0 hp q h
  unfold b_137_23 at h
  refine mjq_istore_n (lo' := [some (.ref l0), some (.int l1), some (.int s0), none]) D_137_23 (Nat.le_of_ble_eq_true rfl) rfl ?_
  refine mjq_ic (v := (0 : Int32)) D_137_24 rfl ?_
  refine mjq_istore_n (lo' := [some (.ref l0), some (.int l1), some (.int s0), some (.int (0 : Int32))]) D_137_25 (Nat.le_of_ble_eq_true rfl) rfl ?_
  exact (T_137_26 hR h1 h2 mjN) _ _ _ _ _ _ h
noncomputable def b_137_0 (R : mjR) (l0 : Nat) (l1 : Int32) (hp : mjH) : mjU := rV hp l0 8 (bN (R 134 [.ref l0, .int (40 : Int32)] hp) (fun  hp1 => gR hp1 l0 8 0 (fun v2 => rV hp1 v2 9 (bI (R 164 [.ref v2, .int (41 : Int32)] hp1) (fun v3 hp4 => (if v3 = 0 then b_137_23 R l0 l1 (1 : Int32) hp4 else b_137_23 R l0 l1 (0 : Int32) hp4))))))
theorem t_137_0 {X : mjX} {d C S kc ks : Nat} {R : mjR} (hR : mjC R d) (h1 : kc ≤ C) (h2 : ks ≤ S) : P_137_0 X (d + 1) C S kc ks (b_137_0 R) := by
  intro l0 l1 hp q h
  unfold b_137_0 at h
  refine mjr_aload_n (x := l0) D_137_0 rfl ?_
  refine mjq_bi (v := (40 : Int32)) D_137_1 rfl ?_
  refine mjq_vN (As := [.int (40 : Int32)]) (rest := []) D_137_3 mr_8_119 V_134 rfl rfl rfl hR (Nat.le_refl _) h1 h2 h (fun  hp1 h => ?_)
  refine mjr_aload_n (x := l0) D_137_6 rfl ?_
  refine mjq_gR D_137_7 fr_8_9 h (fun v2 h => ?_)
  refine mjq_bi (v := (41 : Int32)) D_137_10 rfl ?_
  refine mjq_vI (As := [.int (41 : Int32)]) (rest := []) D_137_12 mr_8_53 V_164 rfl rfl rfl hR (Nat.le_refl _) h1 h2 h (fun v3 hp4 h => ?_)
  refine mjq_if_ne (tgt := 22) D_137_15 rfl h (fun h => ?_) (fun h => ?_)
  · refine mjq_ic (v := (0 : Int32)) D_137_22 rfl ?_
    exact (t_137_23 hR h1 h2) _ _ _ _ _ h
  · refine mjq_ic (v := (1 : Int32)) D_137_18 rfl ?_
    refine mjr_goto (tgt := 23) D_137_19 rfl ?_
    exact (t_137_23 hR h1 h2) _ _ _ _ _ h
noncomputable def f_137 (R : mjR) (a0 : Nat) (a1 : Int32) (hp : mjH) : mjU := b_137_0 R a0 a1 hp
theorem c_137 {R : mjR} {d : Nat} (hR : mjC R d) {a0 : Nat} {a1 : Int32} {hp : mjH} {q : Option Value × mjH} (h : f_137 R a0 a1 hp = some q) : mjM (d + 1) 0 0 137 [.ref a0, .int a1] hp (mjEq q) :=
  mjM_of Ja_137 (Nat.le_of_ble_eq_true rfl) (mjG.fg (lo' := [some (.ref a0), some (.int a1), none, none]) (And.intro rfl (And.intro rfl True.intro)) ((t_137_0 hR (Nat.le_refl 0) (Nat.le_refl 0)) a0 a1 hp q h))
def J_138 : mjI := (⟨"OwnerHeap$Reader", "close", "(I)V"⟩, 8, prog_10_method_4_code, 2, none, 1, false)
theorem Ja_138 : mjMt 138 = some J_138 := by rfl
theorem D_138_0 : decode J_138.2.2.1 0 = .ok (.aload_n 0, 1) := dzq_42 (by decide +kernel)
theorem D_138_1 : decode J_138.2.2.1 1 = .ok (.getfield 9, 3) := dzq_180 (by decide +kernel)
theorem D_138_4 : decode J_138.2.2.1 4 = .ok (.iload_n 1, 1) := dzq_27 (by decide +kernel)
theorem D_138_5 : decode J_138.2.2.1 5 = .ok (.invokevirtual 72, 3) := dzq_182 (by decide +kernel)
theorem D_138_8 : decode J_138.2.2.1 8 = .ok (.aload_n 0, 1) := dzq_42 (by decide +kernel)
theorem D_138_9 : decode J_138.2.2.1 9 = .ok (.dup, 1) := dzq_89 (by decide +kernel)
theorem D_138_10 : decode J_138.2.2.1 10 = .ok (.getfield 47, 3) := dzq_180 (by decide +kernel)
theorem D_138_13 : decode J_138.2.2.1 13 = .ok (.iconst 1, 1) := dzq_4 (by decide +kernel)
theorem D_138_14 : decode J_138.2.2.1 14 = .ok (.isub, 1) := dzq_100 (by decide +kernel)
theorem D_138_15 : decode J_138.2.2.1 15 = .ok (.putfield 47, 3) := dzq_181 (by decide +kernel)
theorem D_138_18 : decode J_138.2.2.1 18 = .ok (.return_, 1) := dzq_177 (by decide +kernel)
def P_138_0 (X : mjX) (d C S kc ks : Nat) (k : Nat → Int32 → mjH → mjU) : Prop := ∀ (l0 : Nat) (l1 : Int32) (hp : mjH) (q : Option Value × mjH), k l0 l1 hp = some q → mjG X d C S J_138 (mjEq q) 0 [some (.ref l0), some (.int l1)] [] hp kc ks
noncomputable def b_138_0 (R : mjR) (l0 : Nat) (l1 : Int32) (hp : mjH) : mjU := gR hp l0 8 0 (fun v1 => rV hp v1 9 (bN (R 169 [.ref v1, .int l1] hp) (fun  hp2 => gI hp2 l0 8 9 (fun v3 => pI hp2 l0 8 9 (v3 - (1 : Int32)) (fun hp4 => some (none, hp4))))))
theorem t_138_0 {X : mjX} {d C S kc ks : Nat} {R : mjR} (hR : mjC R d) (h1 : kc ≤ C) (h2 : ks ≤ S) : P_138_0 X (d + 1) C S kc ks (b_138_0 R) := by
  intro l0 l1 hp q h
  unfold b_138_0 at h
  refine mjr_aload_n (x := l0) D_138_0 rfl ?_
  refine mjq_gR D_138_1 fr_8_9 h (fun v1 h => ?_)
  refine mjr_iload_n (x := l1) D_138_4 rfl ?_
  refine mjq_vN (As := [.int l1]) (rest := []) D_138_5 mr_8_72 V_169 rfl rfl rfl hR (Nat.le_refl _) h1 h2 h (fun  hp2 h => ?_)
  refine mjr_aload_n (x := l0) D_138_8 rfl ?_
  refine mjr_dup D_138_9 rfl ?_
  refine mjq_gI D_138_10 fr_8_47 h (fun v3 h => ?_)
  refine mjq_ic (v := (1 : Int32)) D_138_13 rfl ?_
  refine mjr_isub D_138_14 ?_
  refine mjq_pI D_138_15 fr_8_47 rfl rfl h (fun hp4 h => ?_)
  exact mjq_nret D_138_18 rfl h1 h2 h
noncomputable def f_138 (R : mjR) (a0 : Nat) (a1 : Int32) (hp : mjH) : mjU := b_138_0 R a0 a1 hp
theorem c_138 {R : mjR} {d : Nat} (hR : mjC R d) {a0 : Nat} {a1 : Int32} {hp : mjH} {q : Option Value × mjH} (h : f_138 R a0 a1 hp = some q) : mjM (d + 1) 0 0 138 [.ref a0, .int a1] hp (mjEq q) :=
  mjM_of Ja_138 (Nat.le_of_ble_eq_true rfl) (mjG.fg (lo' := [some (.ref a0), some (.int a1)]) (And.intro rfl (And.intro rfl True.intro)) ((t_138_0 hR (Nat.le_refl 0) (Nat.le_refl 0)) a0 a1 hp q h))
def J_139 : mjI := (⟨"OwnerHeap$Reader", "readBlock", "()V"⟩, 8, prog_10_method_15_code, 2, none, 0, false)
theorem Ja_139 : mjMt 139 = some J_139 := by rfl
theorem D_139_0 : decode J_139.2.2.1 0 = .ok (.aload_n 0, 1) := dzq_42 (by decide +kernel)
theorem D_139_1 : decode J_139.2.2.1 1 = .ok (.bipush 123, 2) := dzq_16 (by decide +kernel)
theorem D_139_3 : decode J_139.2.2.1 3 = .ok (.invokevirtual 119, 3) := dzq_182 (by decide +kernel)
theorem D_139_6 : decode J_139.2.2.1 6 = .ok (.iconst 0, 1) := dzq_3 (by decide +kernel)
theorem D_139_7 : decode J_139.2.2.1 7 = .ok (.istore_n 1, 1) := dzq_60 (by decide +kernel)
theorem D_139_8 : decode J_139.2.2.1 8 = .ok (.iload_n 1, 1) := dzq_27 (by decide +kernel)
theorem D_139_9 : decode J_139.2.2.1 9 = .ok (.aload_n 0, 1) := dzq_42 (by decide +kernel)
theorem D_139_10 : decode J_139.2.2.1 10 = .ok (.getfield 9, 3) := dzq_180 (by decide +kernel)
theorem D_139_13 : decode J_139.2.2.1 13 = .ok (.invokevirtual 176, 3) := dzq_182 (by decide +kernel)
theorem D_139_16 : decode J_139.2.2.1 16 = .ok (.if_icmp .ge 35, 3) := dzq_162 (by decide +kernel)
theorem D_139_19 : decode J_139.2.2.1 19 = .ok (.aload_n 0, 1) := dzq_42 (by decide +kernel)
theorem D_139_20 : decode J_139.2.2.1 20 = .ok (.getfield 9, 3) := dzq_180 (by decide +kernel)
theorem D_139_23 : decode J_139.2.2.1 23 = .ok (.bipush 125, 2) := dzq_16 (by decide +kernel)
theorem D_139_25 : decode J_139.2.2.1 25 = .ok (.invokevirtual 53, 3) := dzq_182 (by decide +kernel)
theorem D_139_28 : decode J_139.2.2.1 28 = .ok (.ifCond .ne 23, 3) := dzq_154 (by decide +kernel)
theorem D_139_31 : decode J_139.2.2.1 31 = .ok (.aload_n 0, 1) := dzq_42 (by decide +kernel)
theorem D_139_32 : decode J_139.2.2.1 32 = .ok (.getfield 9, 3) := dzq_180 (by decide +kernel)
theorem D_139_35 : decode J_139.2.2.1 35 = .ok (.invokevirtual 179, 3) := dzq_182 (by decide +kernel)
theorem D_139_38 : decode J_139.2.2.1 38 = .ok (.ifCond .eq 13, 3) := dzq_153 (by decide +kernel)
theorem D_139_41 : decode J_139.2.2.1 41 = .ok (.aload_n 0, 1) := dzq_42 (by decide +kernel)
theorem D_139_42 : decode J_139.2.2.1 42 = .ok (.invokevirtual 182, 3) := dzq_182 (by decide +kernel)
theorem D_139_45 : decode J_139.2.2.1 45 = .ok (.iinc 1 1, 3) := dzq_132 (by decide +kernel)
theorem D_139_48 : decode J_139.2.2.1 48 = .ok (.goto (-40), 3) := dzq_167 (by decide +kernel)
theorem D_139_51 : decode J_139.2.2.1 51 = .ok (.aload_n 0, 1) := dzq_42 (by decide +kernel)
theorem D_139_52 : decode J_139.2.2.1 52 = .ok (.bipush 125, 2) := dzq_16 (by decide +kernel)
theorem D_139_54 : decode J_139.2.2.1 54 = .ok (.invokevirtual 69, 3) := dzq_182 (by decide +kernel)
theorem D_139_57 : decode J_139.2.2.1 57 = .ok (.return_, 1) := dzq_177 (by decide +kernel)
def P_139_51 (X : mjX) (d C S kc ks : Nat) (k : Nat → mjH → mjU) : Prop := ∀ (l0 : Nat) (hp : mjH) (q : Option Value × mjH), k l0 hp = some q → mjG X d C S J_139 (mjEq q) 51 [some (.ref l0), none] [] hp kc ks
def P_139_8 (X : mjX) (d C S kc ks : Nat) (k : Nat → Int32 → mjH → mjU) : Prop := ∀ (l0 : Nat) (l1 : Int32) (hp : mjH) (q : Option Value × mjH), k l0 l1 hp = some q → mjG X d C S J_139 (mjEq q) 8 [some (.ref l0), some (.int l1)] [] hp kc ks
def P_139_0 (X : mjX) (d C S kc ks : Nat) (k : Nat → mjH → mjU) : Prop := ∀ (l0 : Nat) (hp : mjH) (q : Option Value × mjH), k l0 hp = some q → mjG X d C S J_139 (mjEq q) 0 [some (.ref l0), none] [] hp kc ks
noncomputable def b_139_51 (R : mjR) (l0 : Nat) (hp : mjH) : mjU := rV hp l0 8 (bN (R 138 [.ref l0, .int (125 : Int32)] hp) (fun  hp1 => some (none, hp1)))
theorem t_139_51 {X : mjX} {d C S kc ks : Nat} {R : mjR} (hR : mjC R d) (h1 : kc ≤ C) (h2 : ks ≤ S) : P_139_51 X (d + 1) C S kc ks (b_139_51 R) := by
  intro l0 hp q h
  unfold b_139_51 at h
  refine mjr_aload_n (x := l0) D_139_51 rfl ?_
  refine mjq_bi (v := (125 : Int32)) D_139_52 rfl ?_
  refine mjq_vN (As := [.int (125 : Int32)]) (rest := []) D_139_54 mr_8_69 V_138 rfl rfl rfl hR (Nat.le_refl _) h1 h2 h (fun  hp1 h => ?_)
  exact mjq_nret D_139_57 rfl h1 h2 h
noncomputable def b_139_8 (R : mjR) (k8 : Nat → Int32 → mjH → mjU) (l0 : Nat) (l1 : Int32) (hp : mjH) : mjU := gR hp l0 8 0 (fun v1 => rV hp v1 9 (bI (R 171 [.ref v1] hp) (fun v2 hp3 => (if v2 ≤ l1 then b_139_51 R l0 hp3 else gR hp3 l0 8 0 (fun v4 => rV hp3 v4 9 (bI (R 164 [.ref v4, .int (125 : Int32)] hp3) (fun v5 hp6 => (if v5 = 0 then gR hp6 l0 8 0 (fun v7 => rV hp6 v7 9 (bI (R 172 [.ref v7] hp6) (fun v8 hp9 => (if v8 = 0 then b_139_51 R l0 hp9 else rV hp9 l0 8 (bN (R 140 [.ref l0] hp9) (fun  hp10 => k8 l0 (l1 + (1 : Int32)) hp10)))))) else b_139_51 R l0 hp6))))))))
theorem t_139_8 {X : mjX} {d C S kc ks : Nat} {R : mjR} (hR : mjC R d) (h1 : kc ≤ C) (h2 : ks ≤ S) {k8 : Nat → Int32 → mjH → mjU} (hk8 : P_139_8 X (d + 1) C S kc ks k8) : P_139_8 X (d + 1) C S kc ks (b_139_8 R k8) := by
  intro l0 l1 hp q h
  unfold b_139_8 at h
  refine mjr_iload_n (x := l1) D_139_8 rfl ?_
  refine mjr_aload_n (x := l0) D_139_9 rfl ?_
  refine mjq_gR D_139_10 fr_8_9 h (fun v1 h => ?_)
  refine mjq_vI (As := []) (rest := [.int l1]) D_139_13 mr_8_176 V_171 rfl rfl rfl hR (Nat.le_refl _) h1 h2 h (fun v2 hp3 h => ?_)
  refine mjq_icmp_ge (tgt := 51) D_139_16 rfl h (fun h => ?_) (fun h => ?_)
  · exact mjG.fg (lo' := [some (.ref l0), none]) (And.intro rfl True.intro) ((t_139_51 hR h1 h2) _ _ _ h)
  · refine mjr_aload_n (x := l0) D_139_19 rfl ?_
    refine mjq_gR D_139_20 fr_8_9 h (fun v4 h => ?_)
    refine mjq_bi (v := (125 : Int32)) D_139_23 rfl ?_
    refine mjq_vI (As := [.int (125 : Int32)]) (rest := []) D_139_25 mr_8_53 V_164 rfl rfl rfl hR (Nat.le_refl _) h1 h2 h (fun v5 hp6 h => ?_)
    refine mjq_if_ne (tgt := 51) D_139_28 rfl h (fun h => ?_) (fun h => ?_)
    · exact mjG.fg (lo' := [some (.ref l0), none]) (And.intro rfl True.intro) ((t_139_51 hR h1 h2) _ _ _ h)
    · refine mjr_aload_n (x := l0) D_139_31 rfl ?_
      refine mjq_gR D_139_32 fr_8_9 h (fun v7 h => ?_)
      refine mjq_vI (As := []) (rest := []) D_139_35 mr_8_179 V_172 rfl rfl rfl hR (Nat.le_refl _) h1 h2 h (fun v8 hp9 h => ?_)
      refine mjq_if_eq (tgt := 51) D_139_38 rfl h (fun h => ?_) (fun h => ?_)
      · exact mjG.fg (lo' := [some (.ref l0), none]) (And.intro rfl True.intro) ((t_139_51 hR h1 h2) _ _ _ h)
      · refine mjr_aload_n (x := l0) D_139_41 rfl ?_
        refine mjq_vN (As := []) (rest := []) D_139_42 mr_8_182 V_140 rfl rfl rfl hR (Nat.le_refl _) h1 h2 h (fun  hp10 h => ?_)
        refine mjq_iinc (x := l1) (c := (1 : Int32)) (lo' := [some (.ref l0), some (.int (l1 + (1 : Int32)))]) D_139_45 rfl (Nat.le_of_ble_eq_true rfl) rfl rfl ?_
        refine mjr_goto (tgt := 8) D_139_48 rfl ?_
        exact hk8 _ _ _ _ h
noncomputable def L_139_8 (R : mjR) (n : Nat) : Nat → Int32 → mjH → mjU := Nat.rec (motive := fun _ => Nat → Int32 → mjH → mjU) (fun _ _ _ => none) (fun _ self => b_139_8 R self) n
theorem T_139_8 {X : mjX} {d C S kc ks : Nat} {R : mjR} (hR : mjC R d) (h1 : kc ≤ C) (h2 : ks ≤ S) (n : Nat) : P_139_8 X (d + 1) C S kc ks (L_139_8 R n) := by
  induction n with
  | zero => intro _ _ _ _ h; exact mj_no h
  | succ n ih => exact t_139_8 hR h1 h2 ih
noncomputable def b_139_0 (R : mjR) (l0 : Nat) (hp : mjH) : mjU := rV hp l0 8 (bN (R 134 [.ref l0, .int (123 : Int32)] hp) (fun  hp1 => L_139_8 R mjN l0 (0 : Int32) hp1))
theorem t_139_0 {X : mjX} {d C S kc ks : Nat} {R : mjR} (hR : mjC R d) (h1 : kc ≤ C) (h2 : ks ≤ S) : P_139_0 X (d + 1) C S kc ks (b_139_0 R) := by
  intro l0 hp q h
  unfold b_139_0 at h
  refine mjr_aload_n (x := l0) D_139_0 rfl ?_
  refine mjq_bi (v := (123 : Int32)) D_139_1 rfl ?_
  refine mjq_vN (As := [.int (123 : Int32)]) (rest := []) D_139_3 mr_8_119 V_134 rfl rfl rfl hR (Nat.le_refl _) h1 h2 h (fun  hp1 h => ?_)
  refine mjq_ic (v := (0 : Int32)) D_139_6 rfl ?_
  refine mjq_istore_n (lo' := [some (.ref l0), some (.int (0 : Int32))]) D_139_7 (Nat.le_of_ble_eq_true rfl) rfl ?_
  exact (T_139_8 hR h1 h2 mjN) _ _ _ _ h
noncomputable def f_139 (R : mjR) (a0 : Nat) (hp : mjH) : mjU := b_139_0 R a0 hp
theorem c_139 {R : mjR} {d : Nat} (hR : mjC R d) {a0 : Nat} {hp : mjH} {q : Option Value × mjH} (h : f_139 R a0 hp = some q) : mjM (d + 1) 0 0 139 [.ref a0] hp (mjEq q) :=
  mjM_of Ja_139 (Nat.le_of_ble_eq_true rfl) (mjG.fg (lo' := [some (.ref a0), none]) (And.intro rfl True.intro) ((t_139_0 hR (Nat.le_refl 0) (Nat.le_refl 0)) a0 hp q h))
def J_140 : mjI := (⟨"OwnerHeap$Reader", "readStatement", "()V"⟩, 8, prog_10_method_16_code, 1, none, 0, false)
theorem Ja_140 : mjMt 140 = some J_140 := by rfl
theorem D_140_0 : decode J_140.2.2.1 0 = .ok (.aload_n 0, 1) := dzq_42 (by decide +kernel)
theorem D_140_1 : decode J_140.2.2.1 1 = .ok (.getfield 9, 3) := dzq_180 (by decide +kernel)
theorem D_140_4 : decode J_140.2.2.1 4 = .ok (.invokevirtual 185, 3) := dzq_182 (by decide +kernel)
theorem D_140_7 : decode J_140.2.2.1 7 = .ok (.lookupswitch 154 #[(2, 109), (10, 109), (15, 72), (17, 102), (18, 130), (19, 130), (123, 65)], 65) := by decide +kernel
theorem D_140_72 : decode J_140.2.2.1 72 = .ok (.aload_n 0, 1) := dzq_42 (by decide +kernel)
theorem D_140_73 : decode J_140.2.2.1 73 = .ok (.invokevirtual 82, 3) := dzq_182 (by decide +kernel)
theorem D_140_76 : decode J_140.2.2.1 76 = .ok (.goto 110, 3) := dzq_167 (by decide +kernel)
theorem D_140_79 : decode J_140.2.2.1 79 = .ok (.aload_n 0, 1) := dzq_42 (by decide +kernel)
theorem D_140_80 : decode J_140.2.2.1 80 = .ok (.invokevirtual 188, 3) := dzq_182 (by decide +kernel)
theorem D_140_83 : decode J_140.2.2.1 83 = .ok (.aload_n 0, 1) := dzq_42 (by decide +kernel)
theorem D_140_84 : decode J_140.2.2.1 84 = .ok (.getfield 9, 3) := dzq_180 (by decide +kernel)
theorem D_140_87 : decode J_140.2.2.1 87 = .ok (.bipush 16, 2) := dzq_16 (by decide +kernel)
theorem D_140_89 : decode J_140.2.2.1 89 = .ok (.invokevirtual 53, 3) := dzq_182 (by decide +kernel)
theorem D_140_92 : decode J_140.2.2.1 92 = .ok (.ifCond .eq 94, 3) := dzq_153 (by decide +kernel)
theorem D_140_95 : decode J_140.2.2.1 95 = .ok (.aload_n 0, 1) := dzq_42 (by decide +kernel)
theorem D_140_96 : decode J_140.2.2.1 96 = .ok (.getfield 9, 3) := dzq_180 (by decide +kernel)
theorem D_140_99 : decode J_140.2.2.1 99 = .ok (.invokevirtual 90, 3) := dzq_182 (by decide +kernel)
theorem D_140_102 : decode J_140.2.2.1 102 = .ok (.aload_n 0, 1) := dzq_42 (by decide +kernel)
theorem D_140_103 : decode J_140.2.2.1 103 = .ok (.invokevirtual 82, 3) := dzq_182 (by decide +kernel)
theorem D_140_106 : decode J_140.2.2.1 106 = .ok (.goto 80, 3) := dzq_167 (by decide +kernel)
theorem D_140_109 : decode J_140.2.2.1 109 = .ok (.aload_n 0, 1) := dzq_42 (by decide +kernel)
theorem D_140_110 : decode J_140.2.2.1 110 = .ok (.invokevirtual 188, 3) := dzq_182 (by decide +kernel)
theorem D_140_113 : decode J_140.2.2.1 113 = .ok (.goto 73, 3) := dzq_167 (by decide +kernel)
theorem D_140_116 : decode J_140.2.2.1 116 = .ok (.aload_n 0, 1) := dzq_42 (by decide +kernel)
theorem D_140_117 : decode J_140.2.2.1 117 = .ok (.invokevirtual 191, 3) := dzq_182 (by decide +kernel)
theorem D_140_120 : decode J_140.2.2.1 120 = .ok (.aload_n 0, 1) := dzq_42 (by decide +kernel)
theorem D_140_121 : decode J_140.2.2.1 121 = .ok (.invokevirtual 194, 3) := dzq_182 (by decide +kernel)
theorem D_140_124 : decode J_140.2.2.1 124 = .ok (.pop, 1) := dzq_87 (by decide +kernel)
theorem D_140_125 : decode J_140.2.2.1 125 = .ok (.aload_n 0, 1) := dzq_42 (by decide +kernel)
theorem D_140_126 : decode J_140.2.2.1 126 = .ok (.getfield 9, 3) := dzq_180 (by decide +kernel)
theorem D_140_129 : decode J_140.2.2.1 129 = .ok (.bipush 59, 2) := dzq_16 (by decide +kernel)
theorem D_140_131 : decode J_140.2.2.1 131 = .ok (.invokevirtual 72, 3) := dzq_182 (by decide +kernel)
theorem D_140_134 : decode J_140.2.2.1 134 = .ok (.goto 52, 3) := dzq_167 (by decide +kernel)
theorem D_140_137 : decode J_140.2.2.1 137 = .ok (.aload_n 0, 1) := dzq_42 (by decide +kernel)
theorem D_140_138 : decode J_140.2.2.1 138 = .ok (.getfield 9, 3) := dzq_180 (by decide +kernel)
theorem D_140_141 : decode J_140.2.2.1 141 = .ok (.invokevirtual 90, 3) := dzq_182 (by decide +kernel)
theorem D_140_144 : decode J_140.2.2.1 144 = .ok (.aload_n 0, 1) := dzq_42 (by decide +kernel)
theorem D_140_145 : decode J_140.2.2.1 145 = .ok (.invokevirtual 194, 3) := dzq_182 (by decide +kernel)
theorem D_140_148 : decode J_140.2.2.1 148 = .ok (.pop, 1) := dzq_87 (by decide +kernel)
theorem D_140_149 : decode J_140.2.2.1 149 = .ok (.aload_n 0, 1) := dzq_42 (by decide +kernel)
theorem D_140_150 : decode J_140.2.2.1 150 = .ok (.getfield 9, 3) := dzq_180 (by decide +kernel)
theorem D_140_153 : decode J_140.2.2.1 153 = .ok (.bipush 59, 2) := dzq_16 (by decide +kernel)
theorem D_140_155 : decode J_140.2.2.1 155 = .ok (.invokevirtual 72, 3) := dzq_182 (by decide +kernel)
theorem D_140_158 : decode J_140.2.2.1 158 = .ok (.goto 28, 3) := dzq_167 (by decide +kernel)
theorem D_140_161 : decode J_140.2.2.1 161 = .ok (.aload_n 0, 1) := dzq_42 (by decide +kernel)
theorem D_140_162 : decode J_140.2.2.1 162 = .ok (.aload_n 0, 1) := dzq_42 (by decide +kernel)
theorem D_140_163 : decode J_140.2.2.1 163 = .ok (.invokevirtual 194, 3) := dzq_182 (by decide +kernel)
theorem D_140_166 : decode J_140.2.2.1 166 = .ok (.invokevirtual 197, 3) := dzq_182 (by decide +kernel)
theorem D_140_169 : decode J_140.2.2.1 169 = .ok (.ifCond .eq 8, 3) := dzq_153 (by decide +kernel)
theorem D_140_172 : decode J_140.2.2.1 172 = .ok (.aload_n 0, 1) := dzq_42 (by decide +kernel)
theorem D_140_173 : decode J_140.2.2.1 173 = .ok (.invokevirtual 194, 3) := dzq_182 (by decide +kernel)
theorem D_140_176 : decode J_140.2.2.1 176 = .ok (.pop, 1) := dzq_87 (by decide +kernel)
theorem D_140_177 : decode J_140.2.2.1 177 = .ok (.aload_n 0, 1) := dzq_42 (by decide +kernel)
theorem D_140_178 : decode J_140.2.2.1 178 = .ok (.getfield 9, 3) := dzq_180 (by decide +kernel)
theorem D_140_181 : decode J_140.2.2.1 181 = .ok (.bipush 59, 2) := dzq_16 (by decide +kernel)
theorem D_140_183 : decode J_140.2.2.1 183 = .ok (.invokevirtual 72, 3) := dzq_182 (by decide +kernel)
theorem D_140_186 : decode J_140.2.2.1 186 = .ok (.return_, 1) := dzq_177 (by decide +kernel)
def P_140_116 (X : mjX) (d C S kc ks : Nat) (k : Nat → mjH → mjU) : Prop := ∀ (l0 : Nat) (hp : mjH) (q : Option Value × mjH), k l0 hp = some q → mjG X d C S J_140 (mjEq q) 116 [some (.ref l0)] [] hp kc ks
def P_140_137 (X : mjX) (d C S kc ks : Nat) (k : Nat → mjH → mjU) : Prop := ∀ (l0 : Nat) (hp : mjH) (q : Option Value × mjH), k l0 hp = some q → mjG X d C S J_140 (mjEq q) 137 [some (.ref l0)] [] hp kc ks
def P_140_177 (X : mjX) (d C S kc ks : Nat) (k : Nat → mjH → mjU) : Prop := ∀ (l0 : Nat) (hp : mjH) (q : Option Value × mjH), k l0 hp = some q → mjG X d C S J_140 (mjEq q) 177 [some (.ref l0)] [] hp kc ks
def P_140_0 (X : mjX) (d C S kc ks : Nat) (k : Nat → mjH → mjU) : Prop := ∀ (l0 : Nat) (hp : mjH) (q : Option Value × mjH), k l0 hp = some q → mjG X d C S J_140 (mjEq q) 0 [some (.ref l0)] [] hp kc ks
noncomputable def b_140_116 (R : mjR) (l0 : Nat) (hp : mjH) : mjU := rV hp l0 8 (bN (R 150 [.ref l0] hp) (fun  hp1 => rV hp1 l0 8 (bI (R 142 [.ref l0] hp1) (fun v2 hp3 => gR hp3 l0 8 0 (fun v4 => rV hp3 v4 9 (bN (R 169 [.ref v4, .int (59 : Int32)] hp3) (fun  hp5 => some (none, hp5))))))))
theorem t_140_116 {X : mjX} {d C S kc ks : Nat} {R : mjR} (hR : mjC R d) (h1 : kc ≤ C) (h2 : ks ≤ S) : P_140_116 X (d + 1) C S kc ks (b_140_116 R) := by
  intro l0 hp q h
  unfold b_140_116 at h
  refine mjr_aload_n (x := l0) D_140_116 rfl ?_
  refine mjq_vN (As := []) (rest := []) D_140_117 mr_8_191 V_150 rfl rfl rfl hR (Nat.le_refl _) h1 h2 h (fun  hp1 h => ?_)
  refine mjr_aload_n (x := l0) D_140_120 rfl ?_
  refine mjq_vI (As := []) (rest := []) D_140_121 mr_8_194 V_142 rfl rfl rfl hR (Nat.le_refl _) h1 h2 h (fun v2 hp3 h => ?_)
  refine mjr_pop D_140_124 rfl ?_
  refine mjr_aload_n (x := l0) D_140_125 rfl ?_
  refine mjq_gR D_140_126 fr_8_9 h (fun v4 h => ?_)
  refine mjq_bi (v := (59 : Int32)) D_140_129 rfl ?_
  refine mjq_vN (As := [.int (59 : Int32)]) (rest := []) D_140_131 mr_8_72 V_169 rfl rfl rfl hR (Nat.le_refl _) h1 h2 h (fun  hp5 h => ?_)
  refine mjr_goto (tgt := 186) D_140_134 rfl ?_
  exact mjq_nret D_140_186 rfl h1 h2 h
noncomputable def b_140_137 (R : mjR) (l0 : Nat) (hp : mjH) : mjU := gR hp l0 8 0 (fun v1 => rV hp v1 9 (bN (R 166 [.ref v1] hp) (fun  hp2 => rV hp2 l0 8 (bI (R 142 [.ref l0] hp2) (fun v3 hp4 => gR hp4 l0 8 0 (fun v5 => rV hp4 v5 9 (bN (R 169 [.ref v5, .int (59 : Int32)] hp4) (fun  hp6 => some (none, hp6)))))))))
theorem t_140_137 {X : mjX} {d C S kc ks : Nat} {R : mjR} (hR : mjC R d) (h1 : kc ≤ C) (h2 : ks ≤ S) : P_140_137 X (d + 1) C S kc ks (b_140_137 R) := by
  intro l0 hp q h
  unfold b_140_137 at h
  refine mjr_aload_n (x := l0) D_140_137 rfl ?_
  refine mjq_gR D_140_138 fr_8_9 h (fun v1 h => ?_)
  refine mjq_vN (As := []) (rest := []) D_140_141 mr_8_90 V_166 rfl rfl rfl hR (Nat.le_refl _) h1 h2 h (fun  hp2 h => ?_)
  refine mjr_aload_n (x := l0) D_140_144 rfl ?_
  refine mjq_vI (As := []) (rest := []) D_140_145 mr_8_194 V_142 rfl rfl rfl hR (Nat.le_refl _) h1 h2 h (fun v3 hp4 h => ?_)
  refine mjr_pop D_140_148 rfl ?_
  refine mjr_aload_n (x := l0) D_140_149 rfl ?_
  refine mjq_gR D_140_150 fr_8_9 h (fun v5 h => ?_)
  refine mjq_bi (v := (59 : Int32)) D_140_153 rfl ?_
  refine mjq_vN (As := [.int (59 : Int32)]) (rest := []) D_140_155 mr_8_72 V_169 rfl rfl rfl hR (Nat.le_refl _) h1 h2 h (fun  hp6 h => ?_)
  refine mjr_goto (tgt := 186) D_140_158 rfl ?_
  exact mjq_nret D_140_186 rfl h1 h2 h
noncomputable def b_140_177 (R : mjR) (l0 : Nat) (hp : mjH) : mjU := gR hp l0 8 0 (fun v1 => rV hp v1 9 (bN (R 169 [.ref v1, .int (59 : Int32)] hp) (fun  hp2 => some (none, hp2))))
theorem t_140_177 {X : mjX} {d C S kc ks : Nat} {R : mjR} (hR : mjC R d) (h1 : kc ≤ C) (h2 : ks ≤ S) : P_140_177 X (d + 1) C S kc ks (b_140_177 R) := by
  intro l0 hp q h
  unfold b_140_177 at h
  refine mjr_aload_n (x := l0) D_140_177 rfl ?_
  refine mjq_gR D_140_178 fr_8_9 h (fun v1 h => ?_)
  refine mjq_bi (v := (59 : Int32)) D_140_181 rfl ?_
  refine mjq_vN (As := [.int (59 : Int32)]) (rest := []) D_140_183 mr_8_72 V_169 rfl rfl rfl hR (Nat.le_refl _) h1 h2 h (fun  hp2 h => ?_)
  exact mjq_nret D_140_186 rfl h1 h2 h
noncomputable def b_140_0 (R : mjR) (l0 : Nat) (hp : mjH) : mjU := gR hp l0 8 0 (fun v1 => rV hp v1 9 (bI (R 173 [.ref v1] hp) (fun v2 hp3 => (if v2 = (2 : Int32) then b_140_116 R l0 hp3 else if v2 = (10 : Int32) then b_140_116 R l0 hp3 else if v2 = (15 : Int32) then rV hp3 l0 8 (bN (R 141 [.ref l0] hp3) (fun  hp7 => gR hp7 l0 8 0 (fun v8 => rV hp7 v8 9 (bI (R 164 [.ref v8, .int (16 : Int32)] hp7) (fun v9 hp10 => (if v9 = 0 then some (none, hp10) else gR hp10 l0 8 0 (fun v11 => rV hp10 v11 9 (bN (R 166 [.ref v11] hp10) (fun  hp12 => rV hp12 l0 8 (bN (R 139 [.ref l0] hp12) (fun  hp13 => some (none, hp13)))))))))))) else if v2 = (17 : Int32) then rV hp3 l0 8 (bN (R 141 [.ref l0] hp3) (fun  hp15 => some (none, hp15))) else if v2 = (18 : Int32) then b_140_137 R l0 hp3 else if v2 = (19 : Int32) then b_140_137 R l0 hp3 else if v2 = (123 : Int32) then rV hp3 l0 8 (bN (R 139 [.ref l0] hp3) (fun  hp19 => some (none, hp19))) else rV hp3 l0 8 (bI (R 142 [.ref l0] hp3) (fun v20 hp21 => rV hp21 l0 8 (bI (R 151 [.ref l0, .int v20] hp21) (fun v22 hp23 => (if v22 = 0 then b_140_177 R l0 hp23 else rV hp23 l0 8 (bI (R 142 [.ref l0] hp23) (fun v24 hp25 => b_140_177 R l0 hp25)))))))))))
theorem t_140_0 {X : mjX} {d C S kc ks : Nat} {R : mjR} (hR : mjC R d) (h1 : kc ≤ C) (h2 : ks ≤ S) : P_140_0 X (d + 1) C S kc ks (b_140_0 R) := by
  intro l0 hp q h
  unfold b_140_0 at h
  refine mjr_aload_n (x := l0) D_140_0 rfl ?_
  refine mjq_gR D_140_1 fr_8_9 h (fun v1 h => ?_)
  refine mjq_vI (As := []) (rest := []) D_140_4 mr_8_185 V_173 rfl rfl rfl hR (Nat.le_refl _) h1 h2 h (fun v2 hp3 h => ?_)
  refine mjq_lsw (c := (2 : Int32)) (tgt := 116) D_140_7 rfl (by decide) h (fun h => ?_) (fun n4 h => ?_)
  · exact (t_140_116 hR h1 h2) _ _ _ h
  refine mjq_lsw (c := (10 : Int32)) (tgt := 116) D_140_7 rfl (by decide) h (fun h => ?_) (fun n5 h => ?_)
  · exact (t_140_116 hR h1 h2) _ _ _ h
  refine mjq_lsw (c := (15 : Int32)) (tgt := 79) D_140_7 rfl (by decide) h (fun h => ?_) (fun n6 h => ?_)
  · refine mjr_aload_n (x := l0) D_140_79 rfl ?_
    refine mjq_vN (As := []) (rest := []) D_140_80 mr_8_188 V_141 rfl rfl rfl hR (Nat.le_refl _) h1 h2 h (fun  hp7 h => ?_)
    refine mjr_aload_n (x := l0) D_140_83 rfl ?_
    refine mjq_gR D_140_84 fr_8_9 h (fun v8 h => ?_)
    refine mjq_bi (v := (16 : Int32)) D_140_87 rfl ?_
    refine mjq_vI (As := [.int (16 : Int32)]) (rest := []) D_140_89 mr_8_53 V_164 rfl rfl rfl hR (Nat.le_refl _) h1 h2 h (fun v9 hp10 h => ?_)
    refine mjq_if_eq (tgt := 186) D_140_92 rfl h (fun h => ?_) (fun h => ?_)
    · exact mjq_nret D_140_186 rfl h1 h2 h
    · refine mjr_aload_n (x := l0) D_140_95 rfl ?_
      refine mjq_gR D_140_96 fr_8_9 h (fun v11 h => ?_)
      refine mjq_vN (As := []) (rest := []) D_140_99 mr_8_90 V_166 rfl rfl rfl hR (Nat.le_refl _) h1 h2 h (fun  hp12 h => ?_)
      refine mjr_aload_n (x := l0) D_140_102 rfl ?_
      refine mjq_vN (As := []) (rest := []) D_140_103 mr_8_82 V_139 rfl rfl rfl hR (Nat.le_refl _) h1 h2 h (fun  hp13 h => ?_)
      refine mjr_goto (tgt := 186) D_140_106 rfl ?_
      exact mjq_nret D_140_186 rfl h1 h2 h
  refine mjq_lsw (c := (17 : Int32)) (tgt := 109) D_140_7 rfl (by decide) h (fun h => ?_) (fun n14 h => ?_)
  · refine mjr_aload_n (x := l0) D_140_109 rfl ?_
    refine mjq_vN (As := []) (rest := []) D_140_110 mr_8_188 V_141 rfl rfl rfl hR (Nat.le_refl _) h1 h2 h (fun  hp15 h => ?_)
    refine mjr_goto (tgt := 186) D_140_113 rfl ?_
    exact mjq_nret D_140_186 rfl h1 h2 h
  refine mjq_lsw (c := (18 : Int32)) (tgt := 137) D_140_7 rfl (by decide) h (fun h => ?_) (fun n16 h => ?_)
  · exact (t_140_137 hR h1 h2) _ _ _ h
  refine mjq_lsw (c := (19 : Int32)) (tgt := 137) D_140_7 rfl (by decide) h (fun h => ?_) (fun n17 h => ?_)
  · exact (t_140_137 hR h1 h2) _ _ _ h
  refine mjq_lsw (c := (123 : Int32)) (tgt := 72) D_140_7 rfl (by decide) h (fun h => ?_) (fun n18 h => ?_)
  · refine mjr_aload_n (x := l0) D_140_72 rfl ?_
    refine mjq_vN (As := []) (rest := []) D_140_73 mr_8_82 V_139 rfl rfl rfl hR (Nat.le_refl _) h1 h2 h (fun  hp19 h => ?_)
    refine mjr_goto (tgt := 186) D_140_76 rfl ?_
    exact mjq_nret D_140_186 rfl h1 h2 h
  refine mjq_lswD (tgt := 161) [(2 : Int32), (10 : Int32), (15 : Int32), (17 : Int32), (18 : Int32), (19 : Int32), (123 : Int32)] D_140_7 rfl (by decide) (mj_all1 n4 (mj_all1 n5 (mj_all1 n6 (mj_all1 n14 (mj_all1 n16 (mj_all1 n17 (mj_all1 n18 mj_all0))))))) rfl ?_
  refine mjr_aload_n (x := l0) D_140_161 rfl ?_
  refine mjr_aload_n (x := l0) D_140_162 rfl ?_
  refine mjq_vI (As := []) (rest := [.ref l0]) D_140_163 mr_8_194 V_142 rfl rfl rfl hR (Nat.le_refl _) h1 h2 h (fun v20 hp21 h => ?_)
  refine mjq_vI (As := [.int v20]) (rest := []) D_140_166 mr_8_197 V_151 rfl rfl rfl hR (Nat.le_refl _) h1 h2 h (fun v22 hp23 h => ?_)
  refine mjq_if_eq (tgt := 177) D_140_169 rfl h (fun h => ?_) (fun h => ?_)
  · exact (t_140_177 hR h1 h2) _ _ _ h
  · refine mjr_aload_n (x := l0) D_140_172 rfl ?_
    refine mjq_vI (As := []) (rest := []) D_140_173 mr_8_194 V_142 rfl rfl rfl hR (Nat.le_refl _) h1 h2 h (fun v24 hp25 h => ?_)
    refine mjr_pop D_140_176 rfl ?_
    exact (t_140_177 hR h1 h2) _ _ _ h
noncomputable def f_140 (R : mjR) (a0 : Nat) (hp : mjH) : mjU := b_140_0 R a0 hp
theorem c_140 {R : mjR} {d : Nat} (hR : mjC R d) {a0 : Nat} {hp : mjH} {q : Option Value × mjH} (h : f_140 R a0 hp = some q) : mjM (d + 1) 0 0 140 [.ref a0] hp (mjEq q) :=
  mjM_of Ja_140 (Nat.le_of_ble_eq_true rfl) (mjG.fg (lo' := [some (.ref a0)]) (And.intro rfl True.intro) ((t_140_0 hR (Nat.le_refl 0) (Nat.le_refl 0)) a0 hp q h))
def J_141 : mjI := (⟨"OwnerHeap$Reader", "readGuarded", "()V"⟩, 8, prog_10_method_17_code, 1, none, 0, false)
theorem Ja_141 : mjMt 141 = some J_141 := by rfl
theorem D_141_0 : decode J_141.2.2.1 0 = .ok (.aload_n 0, 1) := dzq_42 (by decide +kernel)
theorem D_141_1 : decode J_141.2.2.1 1 = .ok (.getfield 9, 3) := dzq_180 (by decide +kernel)
theorem D_141_4 : decode J_141.2.2.1 4 = .ok (.invokevirtual 90, 3) := dzq_182 (by decide +kernel)
theorem D_141_7 : decode J_141.2.2.1 7 = .ok (.aload_n 0, 1) := dzq_42 (by decide +kernel)
theorem D_141_8 : decode J_141.2.2.1 8 = .ok (.bipush 40, 2) := dzq_16 (by decide +kernel)
theorem D_141_10 : decode J_141.2.2.1 10 = .ok (.invokevirtual 119, 3) := dzq_182 (by decide +kernel)
theorem D_141_13 : decode J_141.2.2.1 13 = .ok (.aload_n 0, 1) := dzq_42 (by decide +kernel)
theorem D_141_14 : decode J_141.2.2.1 14 = .ok (.invokevirtual 194, 3) := dzq_182 (by decide +kernel)
theorem D_141_17 : decode J_141.2.2.1 17 = .ok (.pop, 1) := dzq_87 (by decide +kernel)
theorem D_141_18 : decode J_141.2.2.1 18 = .ok (.aload_n 0, 1) := dzq_42 (by decide +kernel)
theorem D_141_19 : decode J_141.2.2.1 19 = .ok (.bipush 41, 2) := dzq_16 (by decide +kernel)
theorem D_141_21 : decode J_141.2.2.1 21 = .ok (.invokevirtual 69, 3) := dzq_182 (by decide +kernel)
theorem D_141_24 : decode J_141.2.2.1 24 = .ok (.aload_n 0, 1) := dzq_42 (by decide +kernel)
theorem D_141_25 : decode J_141.2.2.1 25 = .ok (.invokevirtual 82, 3) := dzq_182 (by decide +kernel)
theorem D_141_28 : decode J_141.2.2.1 28 = .ok (.return_, 1) := dzq_177 (by decide +kernel)
def P_141_0 (X : mjX) (d C S kc ks : Nat) (k : Nat → mjH → mjU) : Prop := ∀ (l0 : Nat) (hp : mjH) (q : Option Value × mjH), k l0 hp = some q → mjG X d C S J_141 (mjEq q) 0 [some (.ref l0)] [] hp kc ks
noncomputable def b_141_0 (R : mjR) (l0 : Nat) (hp : mjH) : mjU := gR hp l0 8 0 (fun v1 => rV hp v1 9 (bN (R 166 [.ref v1] hp) (fun  hp2 => rV hp2 l0 8 (bN (R 134 [.ref l0, .int (40 : Int32)] hp2) (fun  hp3 => rV hp3 l0 8 (bI (R 142 [.ref l0] hp3) (fun v4 hp5 => rV hp5 l0 8 (bN (R 138 [.ref l0, .int (41 : Int32)] hp5) (fun  hp6 => rV hp6 l0 8 (bN (R 139 [.ref l0] hp6) (fun  hp7 => some (none, hp7))))))))))))
theorem t_141_0 {X : mjX} {d C S kc ks : Nat} {R : mjR} (hR : mjC R d) (h1 : kc ≤ C) (h2 : ks ≤ S) : P_141_0 X (d + 1) C S kc ks (b_141_0 R) := by
  intro l0 hp q h
  unfold b_141_0 at h
  refine mjr_aload_n (x := l0) D_141_0 rfl ?_
  refine mjq_gR D_141_1 fr_8_9 h (fun v1 h => ?_)
  refine mjq_vN (As := []) (rest := []) D_141_4 mr_8_90 V_166 rfl rfl rfl hR (Nat.le_refl _) h1 h2 h (fun  hp2 h => ?_)
  refine mjr_aload_n (x := l0) D_141_7 rfl ?_
  refine mjq_bi (v := (40 : Int32)) D_141_8 rfl ?_
  refine mjq_vN (As := [.int (40 : Int32)]) (rest := []) D_141_10 mr_8_119 V_134 rfl rfl rfl hR (Nat.le_refl _) h1 h2 h (fun  hp3 h => ?_)
  refine mjr_aload_n (x := l0) D_141_13 rfl ?_
  refine mjq_vI (As := []) (rest := []) D_141_14 mr_8_194 V_142 rfl rfl rfl hR (Nat.le_refl _) h1 h2 h (fun v4 hp5 h => ?_)
  refine mjr_pop D_141_17 rfl ?_
  refine mjr_aload_n (x := l0) D_141_18 rfl ?_
  refine mjq_bi (v := (41 : Int32)) D_141_19 rfl ?_
  refine mjq_vN (As := [.int (41 : Int32)]) (rest := []) D_141_21 mr_8_69 V_138 rfl rfl rfl hR (Nat.le_refl _) h1 h2 h (fun  hp6 h => ?_)
  refine mjr_aload_n (x := l0) D_141_24 rfl ?_
  refine mjq_vN (As := []) (rest := []) D_141_25 mr_8_82 V_139 rfl rfl rfl hR (Nat.le_refl _) h1 h2 h (fun  hp7 h => ?_)
  exact mjq_nret D_141_28 rfl h1 h2 h
noncomputable def f_141 (R : mjR) (a0 : Nat) (hp : mjH) : mjU := b_141_0 R a0 hp
theorem c_141 {R : mjR} {d : Nat} (hR : mjC R d) {a0 : Nat} {hp : mjH} {q : Option Value × mjH} (h : f_141 R a0 hp = some q) : mjM (d + 1) 0 0 141 [.ref a0] hp (mjEq q) :=
  mjM_of Ja_141 (Nat.le_of_ble_eq_true rfl) (mjG.fg (lo' := [some (.ref a0)]) (And.intro rfl True.intro) ((t_141_0 hR (Nat.le_refl 0) (Nat.le_refl 0)) a0 hp q h))
def J_142 : mjI := (⟨"OwnerHeap$Reader", "readValue", "()I"⟩, 8, prog_10_method_20_code, 2, (some .int), 0, false)
theorem Ja_142 : mjMt 142 = some J_142 := by rfl
theorem D_142_0 : decode J_142.2.2.1 0 = .ok (.aload_n 0, 1) := dzq_42 (by decide +kernel)
theorem D_142_1 : decode J_142.2.2.1 1 = .ok (.invokevirtual 200, 3) := dzq_182 (by decide +kernel)
theorem D_142_4 : decode J_142.2.2.1 4 = .ok (.istore_n 1, 1) := dzq_60 (by decide +kernel)
theorem D_142_5 : decode J_142.2.2.1 5 = .ok (.aload_n 0, 1) := dzq_42 (by decide +kernel)
theorem D_142_6 : decode J_142.2.2.1 6 = .ok (.getfield 9, 3) := dzq_180 (by decide +kernel)
theorem D_142_9 : decode J_142.2.2.1 9 = .ok (.invokevirtual 203, 3) := dzq_182 (by decide +kernel)
theorem D_142_12 : decode J_142.2.2.1 12 = .ok (.ifCond .eq 17, 3) := dzq_153 (by decide +kernel)
theorem D_142_15 : decode J_142.2.2.1 15 = .ok (.aload_n 0, 1) := dzq_42 (by decide +kernel)
theorem D_142_16 : decode J_142.2.2.1 16 = .ok (.getfield 9, 3) := dzq_180 (by decide +kernel)
theorem D_142_19 : decode J_142.2.2.1 19 = .ok (.invokevirtual 90, 3) := dzq_182 (by decide +kernel)
theorem D_142_22 : decode J_142.2.2.1 22 = .ok (.aload_n 0, 1) := dzq_42 (by decide +kernel)
theorem D_142_23 : decode J_142.2.2.1 23 = .ok (.invokevirtual 200, 3) := dzq_182 (by decide +kernel)
theorem D_142_26 : decode J_142.2.2.1 26 = .ok (.pop, 1) := dzq_87 (by decide +kernel)
theorem D_142_27 : decode J_142.2.2.1 27 = .ok (.iconst 0, 1) := dzq_3 (by decide +kernel)
theorem D_142_28 : decode J_142.2.2.1 28 = .ok (.ireturn, 1) := dzq_172 (by decide +kernel)
theorem D_142_29 : decode J_142.2.2.1 29 = .ok (.iload_n 1, 1) := dzq_27 (by decide +kernel)
theorem D_142_30 : decode J_142.2.2.1 30 = .ok (.ireturn, 1) := dzq_172 (by decide +kernel)
def P_142_0 (X : mjX) (d C S kc ks : Nat) (k : Nat → mjH → mjU) : Prop := ∀ (l0 : Nat) (hp : mjH) (q : Option Value × mjH), k l0 hp = some q → mjG X d C S J_142 (mjEq q) 0 [some (.ref l0), none] [] hp kc ks
noncomputable def b_142_0 (R : mjR) (l0 : Nat) (hp : mjH) : mjU := rV hp l0 8 (bI (R 143 [.ref l0] hp) (fun v1 hp2 => gR hp2 l0 8 0 (fun v3 => rV hp2 v3 9 (bI (R 177 [.ref v3] hp2) (fun v4 hp5 => (if v4 = 0 then some (some (.int v1), hp5) else gR hp5 l0 8 0 (fun v6 => rV hp5 v6 9 (bN (R 166 [.ref v6] hp5) (fun  hp7 => rV hp7 l0 8 (bI (R 143 [.ref l0] hp7) (fun v8 hp9 => some (some (.int (0 : Int32)), hp9))))))))))))
theorem t_142_0 {X : mjX} {d C S kc ks : Nat} {R : mjR} (hR : mjC R d) (h1 : kc ≤ C) (h2 : ks ≤ S) : P_142_0 X (d + 1) C S kc ks (b_142_0 R) := by
  intro l0 hp q h
  unfold b_142_0 at h
  refine mjr_aload_n (x := l0) D_142_0 rfl ?_
  refine mjq_vI (As := []) (rest := []) D_142_1 mr_8_200 V_143 rfl rfl rfl hR (Nat.le_refl _) h1 h2 h (fun v1 hp2 h => ?_)
  refine mjq_istore_n (lo' := [some (.ref l0), some (.int v1)]) D_142_4 (Nat.le_of_ble_eq_true rfl) rfl ?_
  refine mjr_aload_n (x := l0) D_142_5 rfl ?_
  refine mjq_gR D_142_6 fr_8_9 h (fun v3 h => ?_)
  refine mjq_vI (As := []) (rest := []) D_142_9 mr_8_203 V_177 rfl rfl rfl hR (Nat.le_refl _) h1 h2 h (fun v4 hp5 h => ?_)
  refine mjq_if_eq (tgt := 29) D_142_12 rfl h (fun h => ?_) (fun h => ?_)
  · refine mjr_iload_n (x := v1) D_142_29 rfl ?_
    exact mjq_ret D_142_30 rfl h1 h2 h
  · refine mjr_aload_n (x := l0) D_142_15 rfl ?_
    refine mjq_gR D_142_16 fr_8_9 h (fun v6 h => ?_)
    refine mjq_vN (As := []) (rest := []) D_142_19 mr_8_90 V_166 rfl rfl rfl hR (Nat.le_refl _) h1 h2 h (fun  hp7 h => ?_)
    refine mjr_aload_n (x := l0) D_142_22 rfl ?_
    refine mjq_vI (As := []) (rest := []) D_142_23 mr_8_200 V_143 rfl rfl rfl hR (Nat.le_refl _) h1 h2 h (fun v8 hp9 h => ?_)
    refine mjr_pop D_142_26 rfl ?_
    refine mjq_ic (v := (0 : Int32)) D_142_27 rfl ?_
    exact mjq_ret D_142_28 rfl h1 h2 h
noncomputable def f_142 (R : mjR) (a0 : Nat) (hp : mjH) : mjU := b_142_0 R a0 hp
theorem c_142 {R : mjR} {d : Nat} (hR : mjC R d) {a0 : Nat} {hp : mjH} {q : Option Value × mjH} (h : f_142 R a0 hp = some q) : mjM (d + 1) 0 0 142 [.ref a0] hp (mjEq q) :=
  mjM_of Ja_142 (Nat.le_of_ble_eq_true rfl) (mjG.fg (lo' := [some (.ref a0), none]) (And.intro rfl True.intro) ((t_142_0 hR (Nat.le_refl 0) (Nat.le_refl 0)) a0 hp q h))
def J_143 : mjI := (⟨"OwnerHeap$Reader", "readSum", "()I"⟩, 8, prog_10_method_21_code, 3, (some .int), 0, false)
theorem Ja_143 : mjMt 143 = some J_143 := by rfl
theorem D_143_0 : decode J_143.2.2.1 0 = .ok (.aload_n 0, 1) := dzq_42 (by decide +kernel)
theorem D_143_1 : decode J_143.2.2.1 1 = .ok (.invokevirtual 206, 3) := dzq_182 (by decide +kernel)
theorem D_143_4 : decode J_143.2.2.1 4 = .ok (.istore_n 1, 1) := dzq_60 (by decide +kernel)
theorem D_143_5 : decode J_143.2.2.1 5 = .ok (.iconst 0, 1) := dzq_3 (by decide +kernel)
theorem D_143_6 : decode J_143.2.2.1 6 = .ok (.istore_n 2, 1) := dzq_61 (by decide +kernel)
theorem D_143_7 : decode J_143.2.2.1 7 = .ok (.iload_n 2, 1) := dzq_28 (by decide +kernel)
theorem D_143_8 : decode J_143.2.2.1 8 = .ok (.aload_n 0, 1) := dzq_42 (by decide +kernel)
theorem D_143_9 : decode J_143.2.2.1 9 = .ok (.getfield 9, 3) := dzq_180 (by decide +kernel)
theorem D_143_12 : decode J_143.2.2.1 12 = .ok (.invokevirtual 176, 3) := dzq_182 (by decide +kernel)
theorem D_143_15 : decode J_143.2.2.1 15 = .ok (.if_icmp .ge 33, 3) := dzq_162 (by decide +kernel)
theorem D_143_18 : decode J_143.2.2.1 18 = .ok (.aload_n 0, 1) := dzq_42 (by decide +kernel)
theorem D_143_19 : decode J_143.2.2.1 19 = .ok (.getfield 9, 3) := dzq_180 (by decide +kernel)
theorem D_143_22 : decode J_143.2.2.1 22 = .ok (.invokevirtual 209, 3) := dzq_182 (by decide +kernel)
theorem D_143_25 : decode J_143.2.2.1 25 = .ok (.ifCond .eq 23, 3) := dzq_153 (by decide +kernel)
theorem D_143_28 : decode J_143.2.2.1 28 = .ok (.aload_n 0, 1) := dzq_42 (by decide +kernel)
theorem D_143_29 : decode J_143.2.2.1 29 = .ok (.getfield 9, 3) := dzq_180 (by decide +kernel)
theorem D_143_32 : decode J_143.2.2.1 32 = .ok (.invokevirtual 90, 3) := dzq_182 (by decide +kernel)
theorem D_143_35 : decode J_143.2.2.1 35 = .ok (.aload_n 0, 1) := dzq_42 (by decide +kernel)
theorem D_143_36 : decode J_143.2.2.1 36 = .ok (.invokevirtual 206, 3) := dzq_182 (by decide +kernel)
theorem D_143_39 : decode J_143.2.2.1 39 = .ok (.pop, 1) := dzq_87 (by decide +kernel)
theorem D_143_40 : decode J_143.2.2.1 40 = .ok (.iconst 0, 1) := dzq_3 (by decide +kernel)
theorem D_143_41 : decode J_143.2.2.1 41 = .ok (.istore_n 1, 1) := dzq_60 (by decide +kernel)
theorem D_143_42 : decode J_143.2.2.1 42 = .ok (.iinc 2 1, 3) := dzq_132 (by decide +kernel)
theorem D_143_45 : decode J_143.2.2.1 45 = .ok (.goto (-38), 3) := dzq_167 (by decide +kernel)
theorem D_143_48 : decode J_143.2.2.1 48 = .ok (.iload_n 1, 1) := dzq_27 (by decide +kernel)
theorem D_143_49 : decode J_143.2.2.1 49 = .ok (.ireturn, 1) := dzq_172 (by decide +kernel)
def P_143_48 (X : mjX) (d C S kc ks : Nat) (k : Int32 → mjH → mjU) : Prop := ∀ (l1 : Int32) (hp : mjH) (q : Option Value × mjH), k l1 hp = some q → mjG X d C S J_143 (mjEq q) 48 [none, some (.int l1), none] [] hp kc ks
def P_143_7 (X : mjX) (d C S kc ks : Nat) (k : Nat → Int32 → Int32 → mjH → mjU) : Prop := ∀ (l0 : Nat) (l1 : Int32) (l2 : Int32) (hp : mjH) (q : Option Value × mjH), k l0 l1 l2 hp = some q → mjG X d C S J_143 (mjEq q) 7 [some (.ref l0), some (.int l1), some (.int l2)] [] hp kc ks
def P_143_0 (X : mjX) (d C S kc ks : Nat) (k : Nat → mjH → mjU) : Prop := ∀ (l0 : Nat) (hp : mjH) (q : Option Value × mjH), k l0 hp = some q → mjG X d C S J_143 (mjEq q) 0 [some (.ref l0), none, none] [] hp kc ks
noncomputable def b_143_48 (R : mjR) (l1 : Int32) (hp : mjH) : mjU := some (some (.int l1), hp)
theorem t_143_48 {X : mjX} {d C S kc ks : Nat} {R : mjR} (hR : mjC R d) (h1 : kc ≤ C) (h2 : ks ≤ S) : P_143_48 X (d + 1) C S kc ks (b_143_48 R) := by
  intro l1 hp q h
  unfold b_143_48 at h
  refine mjr_iload_n (x := l1) D_143_48 rfl ?_
  exact mjq_ret D_143_49 rfl h1 h2 h
noncomputable def b_143_7 (R : mjR) (k7 : Nat → Int32 → Int32 → mjH → mjU) (l0 : Nat) (l1 : Int32) (l2 : Int32) (hp : mjH) : mjU := gR hp l0 8 0 (fun v1 => rV hp v1 9 (bI (R 171 [.ref v1] hp) (fun v2 hp3 => (if v2 ≤ l2 then b_143_48 R l1 hp3 else gR hp3 l0 8 0 (fun v4 => rV hp3 v4 9 (bI (R 176 [.ref v4] hp3) (fun v5 hp6 => (if v5 = 0 then b_143_48 R l1 hp6 else gR hp6 l0 8 0 (fun v7 => rV hp6 v7 9 (bN (R 166 [.ref v7] hp6) (fun  hp8 => rV hp8 l0 8 (bI (R 144 [.ref l0] hp8) (fun v9 hp10 => k7 l0 (0 : Int32) (l2 + (1 : Int32)) hp10)))))))))))))
theorem t_143_7 {X : mjX} {d C S kc ks : Nat} {R : mjR} (hR : mjC R d) (h1 : kc ≤ C) (h2 : ks ≤ S) {k7 : Nat → Int32 → Int32 → mjH → mjU} (hk7 : P_143_7 X (d + 1) C S kc ks k7) : P_143_7 X (d + 1) C S kc ks (b_143_7 R k7) := by
  intro l0 l1 l2 hp q h
  unfold b_143_7 at h
  refine mjr_iload_n (x := l2) D_143_7 rfl ?_
  refine mjr_aload_n (x := l0) D_143_8 rfl ?_
  refine mjq_gR D_143_9 fr_8_9 h (fun v1 h => ?_)
  refine mjq_vI (As := []) (rest := [.int l2]) D_143_12 mr_8_176 V_171 rfl rfl rfl hR (Nat.le_refl _) h1 h2 h (fun v2 hp3 h => ?_)
  refine mjq_icmp_ge (tgt := 48) D_143_15 rfl h (fun h => ?_) (fun h => ?_)
  · exact mjG.fg (lo' := [none, some (.int l1), none]) (And.intro rfl True.intro) ((t_143_48 hR h1 h2) _ _ _ h)
  · refine mjr_aload_n (x := l0) D_143_18 rfl ?_
    refine mjq_gR D_143_19 fr_8_9 h (fun v4 h => ?_)
    refine mjq_vI (As := []) (rest := []) D_143_22 mr_8_209 V_176 rfl rfl rfl hR (Nat.le_refl _) h1 h2 h (fun v5 hp6 h => ?_)
    refine mjq_if_eq (tgt := 48) D_143_25 rfl h (fun h => ?_) (fun h => ?_)
    · exact mjG.fg (lo' := [none, some (.int l1), none]) (And.intro rfl True.intro) ((t_143_48 hR h1 h2) _ _ _ h)
    · refine mjr_aload_n (x := l0) D_143_28 rfl ?_
      refine mjq_gR D_143_29 fr_8_9 h (fun v7 h => ?_)
      refine mjq_vN (As := []) (rest := []) D_143_32 mr_8_90 V_166 rfl rfl rfl hR (Nat.le_refl _) h1 h2 h (fun  hp8 h => ?_)
      refine mjr_aload_n (x := l0) D_143_35 rfl ?_
      refine mjq_vI (As := []) (rest := []) D_143_36 mr_8_206 V_144 rfl rfl rfl hR (Nat.le_refl _) h1 h2 h (fun v9 hp10 h => ?_)
      refine mjr_pop D_143_39 rfl ?_
      refine mjq_ic (v := (0 : Int32)) D_143_40 rfl ?_
      refine mjq_istore_n (lo' := [some (.ref l0), some (.int (0 : Int32)), some (.int l2)]) D_143_41 (Nat.le_of_ble_eq_true rfl) rfl ?_
      refine mjq_iinc (x := l2) (c := (1 : Int32)) (lo' := [some (.ref l0), some (.int (0 : Int32)), some (.int (l2 + (1 : Int32)))]) D_143_42 rfl (Nat.le_of_ble_eq_true rfl) rfl rfl ?_
      refine mjr_goto (tgt := 7) D_143_45 rfl ?_
      exact hk7 _ _ _ _ _ h
noncomputable def L_143_7 (R : mjR) (n : Nat) : Nat → Int32 → Int32 → mjH → mjU := Nat.rec (motive := fun _ => Nat → Int32 → Int32 → mjH → mjU) (fun _ _ _ _ => none) (fun _ self => b_143_7 R self) n
theorem T_143_7 {X : mjX} {d C S kc ks : Nat} {R : mjR} (hR : mjC R d) (h1 : kc ≤ C) (h2 : ks ≤ S) (n : Nat) : P_143_7 X (d + 1) C S kc ks (L_143_7 R n) := by
  induction n with
  | zero => intro _ _ _ _ _ h; exact mj_no h
  | succ n ih => exact t_143_7 hR h1 h2 ih
noncomputable def b_143_0 (R : mjR) (l0 : Nat) (hp : mjH) : mjU := rV hp l0 8 (bI (R 144 [.ref l0] hp) (fun v1 hp2 => L_143_7 R mjN l0 v1 (0 : Int32) hp2))
theorem t_143_0 {X : mjX} {d C S kc ks : Nat} {R : mjR} (hR : mjC R d) (h1 : kc ≤ C) (h2 : ks ≤ S) : P_143_0 X (d + 1) C S kc ks (b_143_0 R) := by
  intro l0 hp q h
  unfold b_143_0 at h
  refine mjr_aload_n (x := l0) D_143_0 rfl ?_
  refine mjq_vI (As := []) (rest := []) D_143_1 mr_8_206 V_144 rfl rfl rfl hR (Nat.le_refl _) h1 h2 h (fun v1 hp2 h => ?_)
  refine mjq_istore_n (lo' := [some (.ref l0), some (.int v1), none]) D_143_4 (Nat.le_of_ble_eq_true rfl) rfl ?_
  refine mjq_ic (v := (0 : Int32)) D_143_5 rfl ?_
  refine mjq_istore_n (lo' := [some (.ref l0), some (.int v1), some (.int (0 : Int32))]) D_143_6 (Nat.le_of_ble_eq_true rfl) rfl ?_
  exact (T_143_7 hR h1 h2 mjN) _ _ _ _ _ h
noncomputable def f_143 (R : mjR) (a0 : Nat) (hp : mjH) : mjU := b_143_0 R a0 hp
theorem c_143 {R : mjR} {d : Nat} (hR : mjC R d) {a0 : Nat} {hp : mjH} {q : Option Value × mjH} (h : f_143 R a0 hp = some q) : mjM (d + 1) 0 0 143 [.ref a0] hp (mjEq q) :=
  mjM_of Ja_143 (Nat.le_of_ble_eq_true rfl) (mjG.fg (lo' := [some (.ref a0), none, none]) (And.intro rfl True.intro) ((t_143_0 hR (Nat.le_refl 0) (Nat.le_refl 0)) a0 hp q h))
def J_144 : mjI := (⟨"OwnerHeap$Reader", "readProduct", "()I"⟩, 8, prog_10_method_22_code, 3, (some .int), 0, false)
theorem Ja_144 : mjMt 144 = some J_144 := by rfl
theorem D_144_0 : decode J_144.2.2.1 0 = .ok (.aload_n 0, 1) := dzq_42 (by decide +kernel)
theorem D_144_1 : decode J_144.2.2.1 1 = .ok (.invokevirtual 212, 3) := dzq_182 (by decide +kernel)
theorem D_144_4 : decode J_144.2.2.1 4 = .ok (.istore_n 1, 1) := dzq_60 (by decide +kernel)
theorem D_144_5 : decode J_144.2.2.1 5 = .ok (.iconst 0, 1) := dzq_3 (by decide +kernel)
theorem D_144_6 : decode J_144.2.2.1 6 = .ok (.istore_n 2, 1) := dzq_61 (by decide +kernel)
theorem D_144_7 : decode J_144.2.2.1 7 = .ok (.iload_n 2, 1) := dzq_28 (by decide +kernel)
theorem D_144_8 : decode J_144.2.2.1 8 = .ok (.aload_n 0, 1) := dzq_42 (by decide +kernel)
theorem D_144_9 : decode J_144.2.2.1 9 = .ok (.getfield 9, 3) := dzq_180 (by decide +kernel)
theorem D_144_12 : decode J_144.2.2.1 12 = .ok (.invokevirtual 176, 3) := dzq_182 (by decide +kernel)
theorem D_144_15 : decode J_144.2.2.1 15 = .ok (.if_icmp .ge 33, 3) := dzq_162 (by decide +kernel)
theorem D_144_18 : decode J_144.2.2.1 18 = .ok (.aload_n 0, 1) := dzq_42 (by decide +kernel)
theorem D_144_19 : decode J_144.2.2.1 19 = .ok (.getfield 9, 3) := dzq_180 (by decide +kernel)
theorem D_144_22 : decode J_144.2.2.1 22 = .ok (.invokevirtual 215, 3) := dzq_182 (by decide +kernel)
theorem D_144_25 : decode J_144.2.2.1 25 = .ok (.ifCond .eq 23, 3) := dzq_153 (by decide +kernel)
theorem D_144_28 : decode J_144.2.2.1 28 = .ok (.aload_n 0, 1) := dzq_42 (by decide +kernel)
theorem D_144_29 : decode J_144.2.2.1 29 = .ok (.getfield 9, 3) := dzq_180 (by decide +kernel)
theorem D_144_32 : decode J_144.2.2.1 32 = .ok (.invokevirtual 90, 3) := dzq_182 (by decide +kernel)
theorem D_144_35 : decode J_144.2.2.1 35 = .ok (.aload_n 0, 1) := dzq_42 (by decide +kernel)
theorem D_144_36 : decode J_144.2.2.1 36 = .ok (.invokevirtual 212, 3) := dzq_182 (by decide +kernel)
theorem D_144_39 : decode J_144.2.2.1 39 = .ok (.pop, 1) := dzq_87 (by decide +kernel)
theorem D_144_40 : decode J_144.2.2.1 40 = .ok (.iconst 0, 1) := dzq_3 (by decide +kernel)
theorem D_144_41 : decode J_144.2.2.1 41 = .ok (.istore_n 1, 1) := dzq_60 (by decide +kernel)
theorem D_144_42 : decode J_144.2.2.1 42 = .ok (.iinc 2 1, 3) := dzq_132 (by decide +kernel)
theorem D_144_45 : decode J_144.2.2.1 45 = .ok (.goto (-38), 3) := dzq_167 (by decide +kernel)
theorem D_144_48 : decode J_144.2.2.1 48 = .ok (.iload_n 1, 1) := dzq_27 (by decide +kernel)
theorem D_144_49 : decode J_144.2.2.1 49 = .ok (.ireturn, 1) := dzq_172 (by decide +kernel)
def P_144_48 (X : mjX) (d C S kc ks : Nat) (k : Int32 → mjH → mjU) : Prop := ∀ (l1 : Int32) (hp : mjH) (q : Option Value × mjH), k l1 hp = some q → mjG X d C S J_144 (mjEq q) 48 [none, some (.int l1), none] [] hp kc ks
def P_144_7 (X : mjX) (d C S kc ks : Nat) (k : Nat → Int32 → Int32 → mjH → mjU) : Prop := ∀ (l0 : Nat) (l1 : Int32) (l2 : Int32) (hp : mjH) (q : Option Value × mjH), k l0 l1 l2 hp = some q → mjG X d C S J_144 (mjEq q) 7 [some (.ref l0), some (.int l1), some (.int l2)] [] hp kc ks
def P_144_0 (X : mjX) (d C S kc ks : Nat) (k : Nat → mjH → mjU) : Prop := ∀ (l0 : Nat) (hp : mjH) (q : Option Value × mjH), k l0 hp = some q → mjG X d C S J_144 (mjEq q) 0 [some (.ref l0), none, none] [] hp kc ks
noncomputable def b_144_48 (R : mjR) (l1 : Int32) (hp : mjH) : mjU := some (some (.int l1), hp)
theorem t_144_48 {X : mjX} {d C S kc ks : Nat} {R : mjR} (hR : mjC R d) (h1 : kc ≤ C) (h2 : ks ≤ S) : P_144_48 X (d + 1) C S kc ks (b_144_48 R) := by
  intro l1 hp q h
  unfold b_144_48 at h
  refine mjr_iload_n (x := l1) D_144_48 rfl ?_
  exact mjq_ret D_144_49 rfl h1 h2 h
noncomputable def b_144_7 (R : mjR) (k7 : Nat → Int32 → Int32 → mjH → mjU) (l0 : Nat) (l1 : Int32) (l2 : Int32) (hp : mjH) : mjU := gR hp l0 8 0 (fun v1 => rV hp v1 9 (bI (R 171 [.ref v1] hp) (fun v2 hp3 => (if v2 ≤ l2 then b_144_48 R l1 hp3 else gR hp3 l0 8 0 (fun v4 => rV hp3 v4 9 (bI (R 175 [.ref v4] hp3) (fun v5 hp6 => (if v5 = 0 then b_144_48 R l1 hp6 else gR hp6 l0 8 0 (fun v7 => rV hp6 v7 9 (bN (R 166 [.ref v7] hp6) (fun  hp8 => rV hp8 l0 8 (bI (R 145 [.ref l0] hp8) (fun v9 hp10 => k7 l0 (0 : Int32) (l2 + (1 : Int32)) hp10)))))))))))))
theorem t_144_7 {X : mjX} {d C S kc ks : Nat} {R : mjR} (hR : mjC R d) (h1 : kc ≤ C) (h2 : ks ≤ S) {k7 : Nat → Int32 → Int32 → mjH → mjU} (hk7 : P_144_7 X (d + 1) C S kc ks k7) : P_144_7 X (d + 1) C S kc ks (b_144_7 R k7) := by
  intro l0 l1 l2 hp q h
  unfold b_144_7 at h
  refine mjr_iload_n (x := l2) D_144_7 rfl ?_
  refine mjr_aload_n (x := l0) D_144_8 rfl ?_
  refine mjq_gR D_144_9 fr_8_9 h (fun v1 h => ?_)
  refine mjq_vI (As := []) (rest := [.int l2]) D_144_12 mr_8_176 V_171 rfl rfl rfl hR (Nat.le_refl _) h1 h2 h (fun v2 hp3 h => ?_)
  refine mjq_icmp_ge (tgt := 48) D_144_15 rfl h (fun h => ?_) (fun h => ?_)
  · exact mjG.fg (lo' := [none, some (.int l1), none]) (And.intro rfl True.intro) ((t_144_48 hR h1 h2) _ _ _ h)
  · refine mjr_aload_n (x := l0) D_144_18 rfl ?_
    refine mjq_gR D_144_19 fr_8_9 h (fun v4 h => ?_)
    refine mjq_vI (As := []) (rest := []) D_144_22 mr_8_215 V_175 rfl rfl rfl hR (Nat.le_refl _) h1 h2 h (fun v5 hp6 h => ?_)
    refine mjq_if_eq (tgt := 48) D_144_25 rfl h (fun h => ?_) (fun h => ?_)
    · exact mjG.fg (lo' := [none, some (.int l1), none]) (And.intro rfl True.intro) ((t_144_48 hR h1 h2) _ _ _ h)
    · refine mjr_aload_n (x := l0) D_144_28 rfl ?_
      refine mjq_gR D_144_29 fr_8_9 h (fun v7 h => ?_)
      refine mjq_vN (As := []) (rest := []) D_144_32 mr_8_90 V_166 rfl rfl rfl hR (Nat.le_refl _) h1 h2 h (fun  hp8 h => ?_)
      refine mjr_aload_n (x := l0) D_144_35 rfl ?_
      refine mjq_vI (As := []) (rest := []) D_144_36 mr_8_212 V_145 rfl rfl rfl hR (Nat.le_refl _) h1 h2 h (fun v9 hp10 h => ?_)
      refine mjr_pop D_144_39 rfl ?_
      refine mjq_ic (v := (0 : Int32)) D_144_40 rfl ?_
      refine mjq_istore_n (lo' := [some (.ref l0), some (.int (0 : Int32)), some (.int l2)]) D_144_41 (Nat.le_of_ble_eq_true rfl) rfl ?_
      refine mjq_iinc (x := l2) (c := (1 : Int32)) (lo' := [some (.ref l0), some (.int (0 : Int32)), some (.int (l2 + (1 : Int32)))]) D_144_42 rfl (Nat.le_of_ble_eq_true rfl) rfl rfl ?_
      refine mjr_goto (tgt := 7) D_144_45 rfl ?_
      exact hk7 _ _ _ _ _ h
noncomputable def L_144_7 (R : mjR) (n : Nat) : Nat → Int32 → Int32 → mjH → mjU := Nat.rec (motive := fun _ => Nat → Int32 → Int32 → mjH → mjU) (fun _ _ _ _ => none) (fun _ self => b_144_7 R self) n
theorem T_144_7 {X : mjX} {d C S kc ks : Nat} {R : mjR} (hR : mjC R d) (h1 : kc ≤ C) (h2 : ks ≤ S) (n : Nat) : P_144_7 X (d + 1) C S kc ks (L_144_7 R n) := by
  induction n with
  | zero => intro _ _ _ _ _ h; exact mj_no h
  | succ n ih => exact t_144_7 hR h1 h2 ih
noncomputable def b_144_0 (R : mjR) (l0 : Nat) (hp : mjH) : mjU := rV hp l0 8 (bI (R 145 [.ref l0] hp) (fun v1 hp2 => L_144_7 R mjN l0 v1 (0 : Int32) hp2))
theorem t_144_0 {X : mjX} {d C S kc ks : Nat} {R : mjR} (hR : mjC R d) (h1 : kc ≤ C) (h2 : ks ≤ S) : P_144_0 X (d + 1) C S kc ks (b_144_0 R) := by
  intro l0 hp q h
  unfold b_144_0 at h
  refine mjr_aload_n (x := l0) D_144_0 rfl ?_
  refine mjq_vI (As := []) (rest := []) D_144_1 mr_8_212 V_145 rfl rfl rfl hR (Nat.le_refl _) h1 h2 h (fun v1 hp2 h => ?_)
  refine mjq_istore_n (lo' := [some (.ref l0), some (.int v1), none]) D_144_4 (Nat.le_of_ble_eq_true rfl) rfl ?_
  refine mjq_ic (v := (0 : Int32)) D_144_5 rfl ?_
  refine mjq_istore_n (lo' := [some (.ref l0), some (.int v1), some (.int (0 : Int32))]) D_144_6 (Nat.le_of_ble_eq_true rfl) rfl ?_
  exact (T_144_7 hR h1 h2 mjN) _ _ _ _ _ h
noncomputable def f_144 (R : mjR) (a0 : Nat) (hp : mjH) : mjU := b_144_0 R a0 hp
theorem c_144 {R : mjR} {d : Nat} (hR : mjC R d) {a0 : Nat} {hp : mjH} {q : Option Value × mjH} (h : f_144 R a0 hp = some q) : mjM (d + 1) 0 0 144 [.ref a0] hp (mjEq q) :=
  mjM_of Ja_144 (Nat.le_of_ble_eq_true rfl) (mjG.fg (lo' := [some (.ref a0), none, none]) (And.intro rfl True.intro) ((t_144_0 hR (Nat.le_refl 0) (Nat.le_refl 0)) a0 hp q h))
def J_145 : mjI := (⟨"OwnerHeap$Reader", "readUnit", "()I"⟩, 8, prog_10_method_23_code, 1, (some .int), 0, false)
theorem Ja_145 : mjMt 145 = some J_145 := by rfl
theorem D_145_0 : decode J_145.2.2.1 0 = .ok (.aload_n 0, 1) := dzq_42 (by decide +kernel)
theorem D_145_1 : decode J_145.2.2.1 1 = .ok (.getfield 9, 3) := dzq_180 (by decide +kernel)
theorem D_145_4 : decode J_145.2.2.1 4 = .ok (.bipush 45, 2) := dzq_16 (by decide +kernel)
theorem D_145_6 : decode J_145.2.2.1 6 = .ok (.invokevirtual 53, 3) := dzq_182 (by decide +kernel)
theorem D_145_9 : decode J_145.2.2.1 9 = .ok (.ifCond .ne 8, 3) := dzq_154 (by decide +kernel)
theorem D_145_12 : decode J_145.2.2.1 12 = .ok (.aload_n 0, 1) := dzq_42 (by decide +kernel)
theorem D_145_13 : decode J_145.2.2.1 13 = .ok (.invokevirtual 218, 3) := dzq_182 (by decide +kernel)
theorem D_145_16 : decode J_145.2.2.1 16 = .ok (.ireturn, 1) := dzq_172 (by decide +kernel)
theorem D_145_17 : decode J_145.2.2.1 17 = .ok (.aload_n 0, 1) := dzq_42 (by decide +kernel)
theorem D_145_18 : decode J_145.2.2.1 18 = .ok (.bipush 45, 2) := dzq_16 (by decide +kernel)
theorem D_145_20 : decode J_145.2.2.1 20 = .ok (.invokevirtual 119, 3) := dzq_182 (by decide +kernel)
theorem D_145_23 : decode J_145.2.2.1 23 = .ok (.aload_n 0, 1) := dzq_42 (by decide +kernel)
theorem D_145_24 : decode J_145.2.2.1 24 = .ok (.invokevirtual 212, 3) := dzq_182 (by decide +kernel)
theorem D_145_27 : decode J_145.2.2.1 27 = .ok (.pop, 1) := dzq_87 (by decide +kernel)
theorem D_145_28 : decode J_145.2.2.1 28 = .ok (.aload_n 0, 1) := dzq_42 (by decide +kernel)
theorem D_145_29 : decode J_145.2.2.1 29 = .ok (.dup, 1) := dzq_89 (by decide +kernel)
theorem D_145_30 : decode J_145.2.2.1 30 = .ok (.getfield 47, 3) := dzq_180 (by decide +kernel)
theorem D_145_33 : decode J_145.2.2.1 33 = .ok (.iconst 1, 1) := dzq_4 (by decide +kernel)
theorem D_145_34 : decode J_145.2.2.1 34 = .ok (.isub, 1) := dzq_100 (by decide +kernel)
theorem D_145_35 : decode J_145.2.2.1 35 = .ok (.putfield 47, 3) := dzq_181 (by decide +kernel)
theorem D_145_38 : decode J_145.2.2.1 38 = .ok (.iconst 0, 1) := dzq_3 (by decide +kernel)
theorem D_145_39 : decode J_145.2.2.1 39 = .ok (.ireturn, 1) := dzq_172 (by decide +kernel)
def P_145_0 (X : mjX) (d C S kc ks : Nat) (k : Nat → mjH → mjU) : Prop := ∀ (l0 : Nat) (hp : mjH) (q : Option Value × mjH), k l0 hp = some q → mjG X d C S J_145 (mjEq q) 0 [some (.ref l0)] [] hp kc ks
noncomputable def b_145_0 (R : mjR) (l0 : Nat) (hp : mjH) : mjU := gR hp l0 8 0 (fun v1 => rV hp v1 9 (bI (R 164 [.ref v1, .int (45 : Int32)] hp) (fun v2 hp3 => (if v2 = 0 then rV hp3 l0 8 (bI (R 146 [.ref l0] hp3) (fun v9 hp10 => some (some (.int v9), hp10))) else rV hp3 l0 8 (bN (R 134 [.ref l0, .int (45 : Int32)] hp3) (fun  hp4 => rV hp4 l0 8 (bI (R 145 [.ref l0] hp4) (fun v5 hp6 => gI hp6 l0 8 9 (fun v7 => pI hp6 l0 8 9 (v7 - (1 : Int32)) (fun hp8 => some (some (.int (0 : Int32)), hp8)))))))))))
theorem t_145_0 {X : mjX} {d C S kc ks : Nat} {R : mjR} (hR : mjC R d) (h1 : kc ≤ C) (h2 : ks ≤ S) : P_145_0 X (d + 1) C S kc ks (b_145_0 R) := by
  intro l0 hp q h
  unfold b_145_0 at h
  refine mjr_aload_n (x := l0) D_145_0 rfl ?_
  refine mjq_gR D_145_1 fr_8_9 h (fun v1 h => ?_)
  refine mjq_bi (v := (45 : Int32)) D_145_4 rfl ?_
  refine mjq_vI (As := [.int (45 : Int32)]) (rest := []) D_145_6 mr_8_53 V_164 rfl rfl rfl hR (Nat.le_refl _) h1 h2 h (fun v2 hp3 h => ?_)
  refine mjq_if_ne (tgt := 17) D_145_9 rfl h (fun h => ?_) (fun h => ?_)
  · refine mjr_aload_n (x := l0) D_145_17 rfl ?_
    refine mjq_bi (v := (45 : Int32)) D_145_18 rfl ?_
    refine mjq_vN (As := [.int (45 : Int32)]) (rest := []) D_145_20 mr_8_119 V_134 rfl rfl rfl hR (Nat.le_refl _) h1 h2 h (fun  hp4 h => ?_)
    refine mjr_aload_n (x := l0) D_145_23 rfl ?_
    refine mjq_vI (As := []) (rest := []) D_145_24 mr_8_212 V_145 rfl rfl rfl hR (Nat.le_refl _) h1 h2 h (fun v5 hp6 h => ?_)
    refine mjr_pop D_145_27 rfl ?_
    refine mjr_aload_n (x := l0) D_145_28 rfl ?_
    refine mjr_dup D_145_29 rfl ?_
    refine mjq_gI D_145_30 fr_8_47 h (fun v7 h => ?_)
    refine mjq_ic (v := (1 : Int32)) D_145_33 rfl ?_
    refine mjr_isub D_145_34 ?_
    refine mjq_pI D_145_35 fr_8_47 rfl rfl h (fun hp8 h => ?_)
    refine mjq_ic (v := (0 : Int32)) D_145_38 rfl ?_
    exact mjq_ret D_145_39 rfl h1 h2 h
  · refine mjr_aload_n (x := l0) D_145_12 rfl ?_
    refine mjq_vI (As := []) (rest := []) D_145_13 mr_8_218 V_146 rfl rfl rfl hR (Nat.le_refl _) h1 h2 h (fun v9 hp10 h => ?_)
    exact mjq_ret D_145_16 rfl h1 h2 h
noncomputable def f_145 (R : mjR) (a0 : Nat) (hp : mjH) : mjU := b_145_0 R a0 hp
theorem c_145 {R : mjR} {d : Nat} (hR : mjC R d) {a0 : Nat} {hp : mjH} {q : Option Value × mjH} (h : f_145 R a0 hp = some q) : mjM (d + 1) 0 0 145 [.ref a0] hp (mjEq q) :=
  mjM_of Ja_145 (Nat.le_of_ble_eq_true rfl) (mjG.fg (lo' := [some (.ref a0)]) (And.intro rfl True.intro) ((t_145_0 hR (Nat.le_refl 0) (Nat.le_refl 0)) a0 hp q h))
def J_146 : mjI := (⟨"OwnerHeap$Reader", "readPost", "()I"⟩, 8, prog_10_method_24_code, 3, (some .int), 0, false)
theorem Ja_146 : mjMt 146 = some J_146 := by rfl
theorem D_146_0 : decode J_146.2.2.1 0 = .ok (.aload_n 0, 1) := dzq_42 (by decide +kernel)
theorem D_146_1 : decode J_146.2.2.1 1 = .ok (.invokevirtual 221, 3) := dzq_182 (by decide +kernel)
theorem D_146_4 : decode J_146.2.2.1 4 = .ok (.istore_n 1, 1) := dzq_60 (by decide +kernel)
theorem D_146_5 : decode J_146.2.2.1 5 = .ok (.iconst 0, 1) := dzq_3 (by decide +kernel)
theorem D_146_6 : decode J_146.2.2.1 6 = .ok (.istore_n 2, 1) := dzq_61 (by decide +kernel)
theorem D_146_7 : decode J_146.2.2.1 7 = .ok (.iload_n 2, 1) := dzq_28 (by decide +kernel)
theorem D_146_8 : decode J_146.2.2.1 8 = .ok (.aload_n 0, 1) := dzq_42 (by decide +kernel)
theorem D_146_9 : decode J_146.2.2.1 9 = .ok (.getfield 9, 3) := dzq_180 (by decide +kernel)
theorem D_146_12 : decode J_146.2.2.1 12 = .ok (.invokevirtual 176, 3) := dzq_182 (by decide +kernel)
theorem D_146_15 : decode J_146.2.2.1 15 = .ok (.if_icmp .ge 98, 3) := dzq_162 (by decide +kernel)
theorem D_146_18 : decode J_146.2.2.1 18 = .ok (.aload_n 0, 1) := dzq_42 (by decide +kernel)
theorem D_146_19 : decode J_146.2.2.1 19 = .ok (.getfield 9, 3) := dzq_180 (by decide +kernel)
theorem D_146_22 : decode J_146.2.2.1 22 = .ok (.bipush 46, 2) := dzq_16 (by decide +kernel)
theorem D_146_24 : decode J_146.2.2.1 24 = .ok (.invokevirtual 53, 3) := dzq_182 (by decide +kernel)
theorem D_146_27 : decode J_146.2.2.1 27 = .ok (.ifCond .ne 15, 3) := dzq_154 (by decide +kernel)
theorem D_146_30 : decode J_146.2.2.1 30 = .ok (.aload_n 0, 1) := dzq_42 (by decide +kernel)
theorem D_146_31 : decode J_146.2.2.1 31 = .ok (.getfield 9, 3) := dzq_180 (by decide +kernel)
theorem D_146_34 : decode J_146.2.2.1 34 = .ok (.bipush 20, 2) := dzq_16 (by decide +kernel)
theorem D_146_36 : decode J_146.2.2.1 36 = .ok (.invokevirtual 53, 3) := dzq_182 (by decide +kernel)
theorem D_146_39 : decode J_146.2.2.1 39 = .ok (.ifCond .eq 74, 3) := dzq_153 (by decide +kernel)
theorem D_146_42 : decode J_146.2.2.1 42 = .ok (.aload_n 0, 1) := dzq_42 (by decide +kernel)
theorem D_146_43 : decode J_146.2.2.1 43 = .ok (.getfield 9, 3) := dzq_180 (by decide +kernel)
theorem D_146_46 : decode J_146.2.2.1 46 = .ok (.bipush 20, 2) := dzq_16 (by decide +kernel)
theorem D_146_48 : decode J_146.2.2.1 48 = .ok (.invokevirtual 53, 3) := dzq_182 (by decide +kernel)
theorem D_146_51 : decode J_146.2.2.1 51 = .ok (.ifCond .eq 20, 3) := dzq_153 (by decide +kernel)
theorem D_146_54 : decode J_146.2.2.1 54 = .ok (.aload_n 0, 1) := dzq_42 (by decide +kernel)
theorem D_146_55 : decode J_146.2.2.1 55 = .ok (.getfield 9, 3) := dzq_180 (by decide +kernel)
theorem D_146_58 : decode J_146.2.2.1 58 = .ok (.invokevirtual 90, 3) := dzq_182 (by decide +kernel)
theorem D_146_61 : decode J_146.2.2.1 61 = .ok (.aload_n 0, 1) := dzq_42 (by decide +kernel)
theorem D_146_62 : decode J_146.2.2.1 62 = .ok (.iconst 0, 1) := dzq_3 (by decide +kernel)
theorem D_146_63 : decode J_146.2.2.1 63 = .ok (.invokevirtual 112, 3) := dzq_182 (by decide +kernel)
theorem D_146_66 : decode J_146.2.2.1 66 = .ok (.iconst 0, 1) := dzq_3 (by decide +kernel)
theorem D_146_67 : decode J_146.2.2.1 67 = .ok (.istore_n 1, 1) := dzq_60 (by decide +kernel)
theorem D_146_68 : decode J_146.2.2.1 68 = .ok (.goto 39, 3) := dzq_167 (by decide +kernel)
theorem D_146_71 : decode J_146.2.2.1 71 = .ok (.aload_n 0, 1) := dzq_42 (by decide +kernel)
theorem D_146_72 : decode J_146.2.2.1 72 = .ok (.getfield 9, 3) := dzq_180 (by decide +kernel)
theorem D_146_75 : decode J_146.2.2.1 75 = .ok (.invokevirtual 90, 3) := dzq_182 (by decide +kernel)
theorem D_146_78 : decode J_146.2.2.1 78 = .ok (.aload_n 0, 1) := dzq_42 (by decide +kernel)
theorem D_146_79 : decode J_146.2.2.1 79 = .ok (.getfield 9, 3) := dzq_180 (by decide +kernel)
theorem D_146_82 : decode J_146.2.2.1 82 = .ok (.iconst 3, 1) := dzq_6 (by decide +kernel)
theorem D_146_83 : decode J_146.2.2.1 83 = .ok (.invokevirtual 72, 3) := dzq_182 (by decide +kernel)
theorem D_146_86 : decode J_146.2.2.1 86 = .ok (.aload_n 0, 1) := dzq_42 (by decide +kernel)
theorem D_146_87 : decode J_146.2.2.1 87 = .ok (.getfield 9, 3) := dzq_180 (by decide +kernel)
theorem D_146_90 : decode J_146.2.2.1 90 = .ok (.bipush 40, 2) := dzq_16 (by decide +kernel)
theorem D_146_92 : decode J_146.2.2.1 92 = .ok (.invokevirtual 53, 3) := dzq_182 (by decide +kernel)
theorem D_146_95 : decode J_146.2.2.1 95 = .ok (.ifCond .eq 10, 3) := dzq_153 (by decide +kernel)
theorem D_146_98 : decode J_146.2.2.1 98 = .ok (.aload_n 0, 1) := dzq_42 (by decide +kernel)
theorem D_146_99 : decode J_146.2.2.1 99 = .ok (.invokevirtual 224, 3) := dzq_182 (by decide +kernel)
theorem D_146_102 : decode J_146.2.2.1 102 = .ok (.goto 4, 3) := dzq_167 (by decide +kernel)
theorem D_146_105 : decode J_146.2.2.1 105 = .ok (.iconst 2, 1) := dzq_5 (by decide +kernel)
theorem D_146_106 : decode J_146.2.2.1 106 = .ok (.istore_n 1, 1) := dzq_60 (by decide +kernel)
theorem D_146_107 : decode J_146.2.2.1 107 = .ok (.iinc 2 1, 3) := dzq_132 (by decide +kernel)
theorem D_146_110 : decode J_146.2.2.1 110 = .ok (.goto (-103), 3) := dzq_167 (by decide +kernel)
theorem D_146_113 : decode J_146.2.2.1 113 = .ok (.iload_n 1, 1) := dzq_27 (by decide +kernel)
theorem D_146_114 : decode J_146.2.2.1 114 = .ok (.ireturn, 1) := dzq_172 (by decide +kernel)
def P_146_113 (X : mjX) (d C S kc ks : Nat) (k : Int32 → mjH → mjU) : Prop := ∀ (l1 : Int32) (hp : mjH) (q : Option Value × mjH), k l1 hp = some q → mjG X d C S J_146 (mjEq q) 113 [none, some (.int l1), none] [] hp kc ks
def P_146_107 (X : mjX) (d C S kc ks : Nat) (k : Nat → Int32 → Int32 → mjH → mjU) : Prop := ∀ (l0 : Nat) (l1 : Int32) (l2 : Int32) (hp : mjH) (q : Option Value × mjH), k l0 l1 l2 hp = some q → mjG X d C S J_146 (mjEq q) 107 [some (.ref l0), some (.int l1), some (.int l2)] [] hp kc ks
def P_146_106 (X : mjX) (d C S kc ks : Nat) (k : Nat → Int32 → Int32 → mjH → mjU) : Prop := ∀ (l0 : Nat) (l2 : Int32) (s0 : Int32) (hp : mjH) (q : Option Value × mjH), k l0 l2 s0 hp = some q → mjG X d C S J_146 (mjEq q) 106 [some (.ref l0), none, some (.int l2)] [.int s0] hp kc ks
def P_146_42 (X : mjX) (d C S kc ks : Nat) (k : Nat → Int32 → mjH → mjU) : Prop := ∀ (l0 : Nat) (l2 : Int32) (hp : mjH) (q : Option Value × mjH), k l0 l2 hp = some q → mjG X d C S J_146 (mjEq q) 42 [some (.ref l0), none, some (.int l2)] [] hp kc ks
def P_146_7 (X : mjX) (d C S kc ks : Nat) (k : Nat → Int32 → Int32 → mjH → mjU) : Prop := ∀ (l0 : Nat) (l1 : Int32) (l2 : Int32) (hp : mjH) (q : Option Value × mjH), k l0 l1 l2 hp = some q → mjG X d C S J_146 (mjEq q) 7 [some (.ref l0), some (.int l1), some (.int l2)] [] hp kc ks
def P_146_0 (X : mjX) (d C S kc ks : Nat) (k : Nat → mjH → mjU) : Prop := ∀ (l0 : Nat) (hp : mjH) (q : Option Value × mjH), k l0 hp = some q → mjG X d C S J_146 (mjEq q) 0 [some (.ref l0), none, none] [] hp kc ks
noncomputable def b_146_113 (R : mjR) (l1 : Int32) (hp : mjH) : mjU := some (some (.int l1), hp)
theorem t_146_113 {X : mjX} {d C S kc ks : Nat} {R : mjR} (hR : mjC R d) (h1 : kc ≤ C) (h2 : ks ≤ S) : P_146_113 X (d + 1) C S kc ks (b_146_113 R) := by
  intro l1 hp q h
  unfold b_146_113 at h
  refine mjr_iload_n (x := l1) D_146_113 rfl ?_
  exact mjq_ret D_146_114 rfl h1 h2 h
noncomputable def b_146_107 (R : mjR) (k7 : Nat → Int32 → Int32 → mjH → mjU) (l0 : Nat) (l1 : Int32) (l2 : Int32) (hp : mjH) : mjU := k7 l0 l1 (l2 + (1 : Int32)) hp
theorem t_146_107 {X : mjX} {d C S kc ks : Nat} {R : mjR} (hR : mjC R d) (h1 : kc ≤ C) (h2 : ks ≤ S) {k7 : Nat → Int32 → Int32 → mjH → mjU} (hk7 : P_146_7 X (d + 1) C S kc ks k7) : P_146_107 X (d + 1) C S kc ks (b_146_107 R k7) := by
  intro l0 l1 l2 hp q h
  unfold b_146_107 at h
  refine mjq_iinc (x := l2) (c := (1 : Int32)) (lo' := [some (.ref l0), some (.int l1), some (.int (l2 + (1 : Int32)))]) D_146_107 rfl (Nat.le_of_ble_eq_true rfl) rfl rfl ?_
  refine mjr_goto (tgt := 7) D_146_110 rfl ?_
  exact hk7 _ _ _ _ _ h
noncomputable def b_146_106 (R : mjR) (k7 : Nat → Int32 → Int32 → mjH → mjU) (l0 : Nat) (l2 : Int32) (s0 : Int32) (hp : mjH) : mjU := b_146_107 R k7 l0 s0 l2 hp
theorem t_146_106 {X : mjX} {d C S kc ks : Nat} {R : mjR} (hR : mjC R d) (h1 : kc ≤ C) (h2 : ks ≤ S) {k7 : Nat → Int32 → Int32 → mjH → mjU} (hk7 : P_146_7 X (d + 1) C S kc ks k7) : P_146_106 X (d + 1) C S kc ks (b_146_106 R k7) := by
  intro l0 l2 s0 hp q h
  unfold b_146_106 at h
  refine mjq_istore_n (lo' := [some (.ref l0), some (.int s0), some (.int l2)]) D_146_106 (Nat.le_of_ble_eq_true rfl) rfl ?_
  exact (t_146_107 hR h1 h2 hk7) _ _ _ _ _ h
noncomputable def b_146_42 (R : mjR) (k7 : Nat → Int32 → Int32 → mjH → mjU) (l0 : Nat) (l2 : Int32) (hp : mjH) : mjU := gR hp l0 8 0 (fun v1 => rV hp v1 9 (bI (R 164 [.ref v1, .int (20 : Int32)] hp) (fun v2 hp3 => (if v2 = 0 then gR hp3 l0 8 0 (fun v4 => rV hp3 v4 9 (bN (R 166 [.ref v4] hp3) (fun  hp5 => gR hp5 l0 8 0 (fun v6 => rV hp5 v6 9 (bN (R 169 [.ref v6, .int (3 : Int32)] hp5) (fun  hp7 => gR hp7 l0 8 0 (fun v8 => rV hp7 v8 9 (bI (R 164 [.ref v8, .int (40 : Int32)] hp7) (fun v9 hp10 => (if v9 = 0 then b_146_106 R k7 l0 l2 (2 : Int32) hp10 else rV hp10 l0 8 (bI (R 148 [.ref l0] hp10) (fun v11 hp12 => b_146_106 R k7 l0 l2 v11 hp12)))))))))))) else gR hp3 l0 8 0 (fun v13 => rV hp3 v13 9 (bN (R 166 [.ref v13] hp3) (fun  hp14 => rV hp14 l0 8 (bN (R 130 [.ref l0, .int (0 : Int32)] hp14) (fun  hp15 => b_146_107 R k7 l0 (0 : Int32) l2 hp15)))))))))
theorem t_146_42 {X : mjX} {d C S kc ks : Nat} {R : mjR} (hR : mjC R d) (h1 : kc ≤ C) (h2 : ks ≤ S) {k7 : Nat → Int32 → Int32 → mjH → mjU} (hk7 : P_146_7 X (d + 1) C S kc ks k7) : P_146_42 X (d + 1) C S kc ks (b_146_42 R k7) := by
  intro l0 l2 hp q h
  unfold b_146_42 at h
  refine mjr_aload_n (x := l0) D_146_42 rfl ?_
  refine mjq_gR D_146_43 fr_8_9 h (fun v1 h => ?_)
  refine mjq_bi (v := (20 : Int32)) D_146_46 rfl ?_
  refine mjq_vI (As := [.int (20 : Int32)]) (rest := []) D_146_48 mr_8_53 V_164 rfl rfl rfl hR (Nat.le_refl _) h1 h2 h (fun v2 hp3 h => ?_)
  refine mjq_if_eq (tgt := 71) D_146_51 rfl h (fun h => ?_) (fun h => ?_)
  · refine mjr_aload_n (x := l0) D_146_71 rfl ?_
    refine mjq_gR D_146_72 fr_8_9 h (fun v4 h => ?_)
    refine mjq_vN (As := []) (rest := []) D_146_75 mr_8_90 V_166 rfl rfl rfl hR (Nat.le_refl _) h1 h2 h (fun  hp5 h => ?_)
    refine mjr_aload_n (x := l0) D_146_78 rfl ?_
    refine mjq_gR D_146_79 fr_8_9 h (fun v6 h => ?_)
    refine mjq_ic (v := (3 : Int32)) D_146_82 rfl ?_
    refine mjq_vN (As := [.int (3 : Int32)]) (rest := []) D_146_83 mr_8_72 V_169 rfl rfl rfl hR (Nat.le_refl _) h1 h2 h (fun  hp7 h => ?_)
    refine mjr_aload_n (x := l0) D_146_86 rfl ?_
    refine mjq_gR D_146_87 fr_8_9 h (fun v8 h => ?_)
    refine mjq_bi (v := (40 : Int32)) D_146_90 rfl ?_
    refine mjq_vI (As := [.int (40 : Int32)]) (rest := []) D_146_92 mr_8_53 V_164 rfl rfl rfl hR (Nat.le_refl _) h1 h2 h (fun v9 hp10 h => ?_)
    refine mjq_if_eq (tgt := 105) D_146_95 rfl h (fun h => ?_) (fun h => ?_)
    · refine mjq_ic (v := (2 : Int32)) D_146_105 rfl ?_
      exact (t_146_106 hR h1 h2 hk7) _ _ _ _ _ h
    · refine mjr_aload_n (x := l0) D_146_98 rfl ?_
      refine mjq_vI (As := []) (rest := []) D_146_99 mr_8_224 V_148 rfl rfl rfl hR (Nat.le_refl _) h1 h2 h (fun v11 hp12 h => ?_)
      refine mjr_goto (tgt := 106) D_146_102 rfl ?_
      exact (t_146_106 hR h1 h2 hk7) _ _ _ _ _ h
  · refine mjr_aload_n (x := l0) D_146_54 rfl ?_
    refine mjq_gR D_146_55 fr_8_9 h (fun v13 h => ?_)
    refine mjq_vN (As := []) (rest := []) D_146_58 mr_8_90 V_166 rfl rfl rfl hR (Nat.le_refl _) h1 h2 h (fun  hp14 h => ?_)
    refine mjr_aload_n (x := l0) D_146_61 rfl ?_
    refine mjq_ic (v := (0 : Int32)) D_146_62 rfl ?_
    refine mjq_vN (As := [.int (0 : Int32)]) (rest := []) D_146_63 mr_8_112 V_130 rfl rfl rfl hR (Nat.le_refl _) h1 h2 h (fun  hp15 h => ?_)
    refine mjq_ic (v := (0 : Int32)) D_146_66 rfl ?_
    refine mjq_istore_n (lo' := [some (.ref l0), some (.int (0 : Int32)), some (.int l2)]) D_146_67 (Nat.le_of_ble_eq_true rfl) rfl ?_
    refine mjr_goto (tgt := 107) D_146_68 rfl ?_
    exact (t_146_107 hR h1 h2 hk7) _ _ _ _ _ h
noncomputable def b_146_7 (R : mjR) (k7 : Nat → Int32 → Int32 → mjH → mjU) (l0 : Nat) (l1 : Int32) (l2 : Int32) (hp : mjH) : mjU := gR hp l0 8 0 (fun v1 => rV hp v1 9 (bI (R 171 [.ref v1] hp) (fun v2 hp3 => (if v2 ≤ l2 then b_146_113 R l1 hp3 else gR hp3 l0 8 0 (fun v4 => rV hp3 v4 9 (bI (R 164 [.ref v4, .int (46 : Int32)] hp3) (fun v5 hp6 => (if v5 = 0 then gR hp6 l0 8 0 (fun v7 => rV hp6 v7 9 (bI (R 164 [.ref v7, .int (20 : Int32)] hp6) (fun v8 hp9 => (if v8 = 0 then b_146_113 R l1 hp9 else b_146_42 R k7 l0 l2 hp9)))) else b_146_42 R k7 l0 l2 hp6))))))))
theorem t_146_7 {X : mjX} {d C S kc ks : Nat} {R : mjR} (hR : mjC R d) (h1 : kc ≤ C) (h2 : ks ≤ S) {k7 : Nat → Int32 → Int32 → mjH → mjU} (hk7 : P_146_7 X (d + 1) C S kc ks k7) : P_146_7 X (d + 1) C S kc ks (b_146_7 R k7) := by
  intro l0 l1 l2 hp q h
  unfold b_146_7 at h
  refine mjr_iload_n (x := l2) D_146_7 rfl ?_
  refine mjr_aload_n (x := l0) D_146_8 rfl ?_
  refine mjq_gR D_146_9 fr_8_9 h (fun v1 h => ?_)
  refine mjq_vI (As := []) (rest := [.int l2]) D_146_12 mr_8_176 V_171 rfl rfl rfl hR (Nat.le_refl _) h1 h2 h (fun v2 hp3 h => ?_)
  refine mjq_icmp_ge (tgt := 113) D_146_15 rfl h (fun h => ?_) (fun h => ?_)
  · exact mjG.fg (lo' := [none, some (.int l1), none]) (And.intro rfl True.intro) ((t_146_113 hR h1 h2) _ _ _ h)
  · refine mjr_aload_n (x := l0) D_146_18 rfl ?_
    refine mjq_gR D_146_19 fr_8_9 h (fun v4 h => ?_)
    refine mjq_bi (v := (46 : Int32)) D_146_22 rfl ?_
    refine mjq_vI (As := [.int (46 : Int32)]) (rest := []) D_146_24 mr_8_53 V_164 rfl rfl rfl hR (Nat.le_refl _) h1 h2 h (fun v5 hp6 h => ?_)
    refine mjq_if_ne (tgt := 42) D_146_27 rfl h (fun h => ?_) (fun h => ?_)
    · exact mjG.fg (lo' := [some (.ref l0), none, some (.int l2)]) (And.intro rfl (And.intro rfl True.intro)) ((t_146_42 hR h1 h2 hk7) _ _ _ _ h)
    · refine mjr_aload_n (x := l0) D_146_30 rfl ?_
      refine mjq_gR D_146_31 fr_8_9 h (fun v7 h => ?_)
      refine mjq_bi (v := (20 : Int32)) D_146_34 rfl ?_
      refine mjq_vI (As := [.int (20 : Int32)]) (rest := []) D_146_36 mr_8_53 V_164 rfl rfl rfl hR (Nat.le_refl _) h1 h2 h (fun v8 hp9 h => ?_)
      refine mjq_if_eq (tgt := 113) D_146_39 rfl h (fun h => ?_) (fun h => ?_)
      · exact mjG.fg (lo' := [none, some (.int l1), none]) (And.intro rfl True.intro) ((t_146_113 hR h1 h2) _ _ _ h)
      · exact mjG.fg (lo' := [some (.ref l0), none, some (.int l2)]) (And.intro rfl (And.intro rfl True.intro)) ((t_146_42 hR h1 h2 hk7) _ _ _ _ h)
noncomputable def L_146_7 (R : mjR) (n : Nat) : Nat → Int32 → Int32 → mjH → mjU := Nat.rec (motive := fun _ => Nat → Int32 → Int32 → mjH → mjU) (fun _ _ _ _ => none) (fun _ self => b_146_7 R self) n
theorem T_146_7 {X : mjX} {d C S kc ks : Nat} {R : mjR} (hR : mjC R d) (h1 : kc ≤ C) (h2 : ks ≤ S) (n : Nat) : P_146_7 X (d + 1) C S kc ks (L_146_7 R n) := by
  induction n with
  | zero => intro _ _ _ _ _ h; exact mj_no h
  | succ n ih => exact t_146_7 hR h1 h2 ih
noncomputable def b_146_0 (R : mjR) (l0 : Nat) (hp : mjH) : mjU := rV hp l0 8 (bI (R 147 [.ref l0] hp) (fun v1 hp2 => L_146_7 R mjN l0 v1 (0 : Int32) hp2))
theorem t_146_0 {X : mjX} {d C S kc ks : Nat} {R : mjR} (hR : mjC R d) (h1 : kc ≤ C) (h2 : ks ≤ S) : P_146_0 X (d + 1) C S kc ks (b_146_0 R) := by
  intro l0 hp q h
  unfold b_146_0 at h
  refine mjr_aload_n (x := l0) D_146_0 rfl ?_
  refine mjq_vI (As := []) (rest := []) D_146_1 mr_8_221 V_147 rfl rfl rfl hR (Nat.le_refl _) h1 h2 h (fun v1 hp2 h => ?_)
  refine mjq_istore_n (lo' := [some (.ref l0), some (.int v1), none]) D_146_4 (Nat.le_of_ble_eq_true rfl) rfl ?_
  refine mjq_ic (v := (0 : Int32)) D_146_5 rfl ?_
  refine mjq_istore_n (lo' := [some (.ref l0), some (.int v1), some (.int (0 : Int32))]) D_146_6 (Nat.le_of_ble_eq_true rfl) rfl ?_
  exact (T_146_7 hR h1 h2 mjN) _ _ _ _ _ h
noncomputable def f_146 (R : mjR) (a0 : Nat) (hp : mjH) : mjU := b_146_0 R a0 hp
theorem c_146 {R : mjR} {d : Nat} (hR : mjC R d) {a0 : Nat} {hp : mjH} {q : Option Value × mjH} (h : f_146 R a0 hp = some q) : mjM (d + 1) 0 0 146 [.ref a0] hp (mjEq q) :=
  mjM_of Ja_146 (Nat.le_of_ble_eq_true rfl) (mjG.fg (lo' := [some (.ref a0), none, none]) (And.intro rfl True.intro) ((t_146_0 hR (Nat.le_refl 0) (Nat.le_refl 0)) a0 hp q h))
def J_147 : mjI := (⟨"OwnerHeap$Reader", "readAtom", "()I"⟩, 8, prog_10_method_27_code, 1, (some .int), 0, false)
theorem Ja_147 : mjMt 147 = some J_147 := by rfl
theorem D_147_0 : decode J_147.2.2.1 0 = .ok (.aload_n 0, 1) := dzq_42 (by decide +kernel)
theorem D_147_1 : decode J_147.2.2.1 1 = .ok (.getfield 9, 3) := dzq_180 (by decide +kernel)
theorem D_147_4 : decode J_147.2.2.1 4 = .ok (.invokevirtual 185, 3) := dzq_182 (by decide +kernel)
theorem D_147_7 : decode J_147.2.2.1 7 = .ok (.lookupswitch 108 #[(3, 66), (4, 57), (11, 57), (12, 57), (14, 75), (40, 89)], 57) := by decide +kernel
theorem D_147_64 : decode J_147.2.2.1 64 = .ok (.aload_n 0, 1) := dzq_42 (by decide +kernel)
theorem D_147_65 : decode J_147.2.2.1 65 = .ok (.getfield 9, 3) := dzq_180 (by decide +kernel)
theorem D_147_68 : decode J_147.2.2.1 68 = .ok (.invokevirtual 90, 3) := dzq_182 (by decide +kernel)
theorem D_147_71 : decode J_147.2.2.1 71 = .ok (.iconst 0, 1) := dzq_3 (by decide +kernel)
theorem D_147_72 : decode J_147.2.2.1 72 = .ok (.ireturn, 1) := dzq_172 (by decide +kernel)
theorem D_147_73 : decode J_147.2.2.1 73 = .ok (.aload_n 0, 1) := dzq_42 (by decide +kernel)
theorem D_147_74 : decode J_147.2.2.1 74 = .ok (.getfield 9, 3) := dzq_180 (by decide +kernel)
theorem D_147_77 : decode J_147.2.2.1 77 = .ok (.invokevirtual 90, 3) := dzq_182 (by decide +kernel)
theorem D_147_80 : decode J_147.2.2.1 80 = .ok (.iconst 1, 1) := dzq_4 (by decide +kernel)
theorem D_147_81 : decode J_147.2.2.1 81 = .ok (.ireturn, 1) := dzq_172 (by decide +kernel)
theorem D_147_82 : decode J_147.2.2.1 82 = .ok (.aload_n 0, 1) := dzq_42 (by decide +kernel)
theorem D_147_83 : decode J_147.2.2.1 83 = .ok (.getfield 9, 3) := dzq_180 (by decide +kernel)
theorem D_147_86 : decode J_147.2.2.1 86 = .ok (.invokevirtual 90, 3) := dzq_182 (by decide +kernel)
theorem D_147_89 : decode J_147.2.2.1 89 = .ok (.aload_n 0, 1) := dzq_42 (by decide +kernel)
theorem D_147_90 : decode J_147.2.2.1 90 = .ok (.iconst 0, 1) := dzq_3 (by decide +kernel)
theorem D_147_91 : decode J_147.2.2.1 91 = .ok (.invokevirtual 112, 3) := dzq_182 (by decide +kernel)
theorem D_147_94 : decode J_147.2.2.1 94 = .ok (.iconst 0, 1) := dzq_3 (by decide +kernel)
theorem D_147_95 : decode J_147.2.2.1 95 = .ok (.ireturn, 1) := dzq_172 (by decide +kernel)
theorem D_147_96 : decode J_147.2.2.1 96 = .ok (.aload_n 0, 1) := dzq_42 (by decide +kernel)
theorem D_147_97 : decode J_147.2.2.1 97 = .ok (.bipush 40, 2) := dzq_16 (by decide +kernel)
theorem D_147_99 : decode J_147.2.2.1 99 = .ok (.invokevirtual 119, 3) := dzq_182 (by decide +kernel)
theorem D_147_102 : decode J_147.2.2.1 102 = .ok (.aload_n 0, 1) := dzq_42 (by decide +kernel)
theorem D_147_103 : decode J_147.2.2.1 103 = .ok (.invokevirtual 194, 3) := dzq_182 (by decide +kernel)
theorem D_147_106 : decode J_147.2.2.1 106 = .ok (.pop, 1) := dzq_87 (by decide +kernel)
theorem D_147_107 : decode J_147.2.2.1 107 = .ok (.aload_n 0, 1) := dzq_42 (by decide +kernel)
theorem D_147_108 : decode J_147.2.2.1 108 = .ok (.bipush 41, 2) := dzq_16 (by decide +kernel)
theorem D_147_110 : decode J_147.2.2.1 110 = .ok (.invokevirtual 69, 3) := dzq_182 (by decide +kernel)
theorem D_147_113 : decode J_147.2.2.1 113 = .ok (.iconst 0, 1) := dzq_3 (by decide +kernel)
theorem D_147_114 : decode J_147.2.2.1 114 = .ok (.ireturn, 1) := dzq_172 (by decide +kernel)
theorem D_147_115 : decode J_147.2.2.1 115 = .ok (.aload_n 0, 1) := dzq_42 (by decide +kernel)
theorem D_147_116 : decode J_147.2.2.1 116 = .ok (.getfield 9, 3) := dzq_180 (by decide +kernel)
theorem D_147_119 : decode J_147.2.2.1 119 = .ok (.iconst 2, 1) := dzq_5 (by decide +kernel)
theorem D_147_120 : decode J_147.2.2.1 120 = .ok (.invokevirtual 87, 3) := dzq_182 (by decide +kernel)
theorem D_147_123 : decode J_147.2.2.1 123 = .ok (.iconst 0, 1) := dzq_3 (by decide +kernel)
theorem D_147_124 : decode J_147.2.2.1 124 = .ok (.ireturn, 1) := dzq_172 (by decide +kernel)
def P_147_64 (X : mjX) (d C S kc ks : Nat) (k : Nat → mjH → mjU) : Prop := ∀ (l0 : Nat) (hp : mjH) (q : Option Value × mjH), k l0 hp = some q → mjG X d C S J_147 (mjEq q) 64 [some (.ref l0)] [] hp kc ks
def P_147_0 (X : mjX) (d C S kc ks : Nat) (k : Nat → mjH → mjU) : Prop := ∀ (l0 : Nat) (hp : mjH) (q : Option Value × mjH), k l0 hp = some q → mjG X d C S J_147 (mjEq q) 0 [some (.ref l0)] [] hp kc ks
noncomputable def b_147_64 (R : mjR) (l0 : Nat) (hp : mjH) : mjU := gR hp l0 8 0 (fun v1 => rV hp v1 9 (bN (R 166 [.ref v1] hp) (fun  hp2 => some (some (.int (0 : Int32)), hp2))))
theorem t_147_64 {X : mjX} {d C S kc ks : Nat} {R : mjR} (hR : mjC R d) (h1 : kc ≤ C) (h2 : ks ≤ S) : P_147_64 X (d + 1) C S kc ks (b_147_64 R) := by
  intro l0 hp q h
  unfold b_147_64 at h
  refine mjr_aload_n (x := l0) D_147_64 rfl ?_
  refine mjq_gR D_147_65 fr_8_9 h (fun v1 h => ?_)
  refine mjq_vN (As := []) (rest := []) D_147_68 mr_8_90 V_166 rfl rfl rfl hR (Nat.le_refl _) h1 h2 h (fun  hp2 h => ?_)
  refine mjq_ic (v := (0 : Int32)) D_147_71 rfl ?_
  exact mjq_ret D_147_72 rfl h1 h2 h
noncomputable def b_147_0 (R : mjR) (l0 : Nat) (hp : mjH) : mjU := gR hp l0 8 0 (fun v1 => rV hp v1 9 (bI (R 173 [.ref v1] hp) (fun v2 hp3 => (if v2 = (3 : Int32) then gR hp3 l0 8 0 (fun v5 => rV hp3 v5 9 (bN (R 166 [.ref v5] hp3) (fun  hp6 => some (some (.int (1 : Int32)), hp6)))) else if v2 = (4 : Int32) then b_147_64 R l0 hp3 else if v2 = (11 : Int32) then b_147_64 R l0 hp3 else if v2 = (12 : Int32) then b_147_64 R l0 hp3 else if v2 = (14 : Int32) then gR hp3 l0 8 0 (fun v11 => rV hp3 v11 9 (bN (R 166 [.ref v11] hp3) (fun  hp12 => rV hp12 l0 8 (bN (R 130 [.ref l0, .int (0 : Int32)] hp12) (fun  hp13 => some (some (.int (0 : Int32)), hp13)))))) else if v2 = (40 : Int32) then rV hp3 l0 8 (bN (R 134 [.ref l0, .int (40 : Int32)] hp3) (fun  hp15 => rV hp15 l0 8 (bI (R 142 [.ref l0] hp15) (fun v16 hp17 => rV hp17 l0 8 (bN (R 138 [.ref l0, .int (41 : Int32)] hp17) (fun  hp18 => some (some (.int (0 : Int32)), hp18))))))) else gR hp3 l0 8 0 (fun v19 => rV hp3 v19 9 (bN (R 165 [.ref v19, .int (2 : Int32)] hp3) (fun  hp20 => some (some (.int (0 : Int32)), hp20))))))))
theorem t_147_0 {X : mjX} {d C S kc ks : Nat} {R : mjR} (hR : mjC R d) (h1 : kc ≤ C) (h2 : ks ≤ S) : P_147_0 X (d + 1) C S kc ks (b_147_0 R) := by
  intro l0 hp q h
  unfold b_147_0 at h
  refine mjr_aload_n (x := l0) D_147_0 rfl ?_
  refine mjq_gR D_147_1 fr_8_9 h (fun v1 h => ?_)
  refine mjq_vI (As := []) (rest := []) D_147_4 mr_8_185 V_173 rfl rfl rfl hR (Nat.le_refl _) h1 h2 h (fun v2 hp3 h => ?_)
  refine mjq_lsw (c := (3 : Int32)) (tgt := 73) D_147_7 rfl (by decide) h (fun h => ?_) (fun n4 h => ?_)
  · refine mjr_aload_n (x := l0) D_147_73 rfl ?_
    refine mjq_gR D_147_74 fr_8_9 h (fun v5 h => ?_)
    refine mjq_vN (As := []) (rest := []) D_147_77 mr_8_90 V_166 rfl rfl rfl hR (Nat.le_refl _) h1 h2 h (fun  hp6 h => ?_)
    refine mjq_ic (v := (1 : Int32)) D_147_80 rfl ?_
    exact mjq_ret D_147_81 rfl h1 h2 h
  refine mjq_lsw (c := (4 : Int32)) (tgt := 64) D_147_7 rfl (by decide) h (fun h => ?_) (fun n7 h => ?_)
  · exact (t_147_64 hR h1 h2) _ _ _ h
  refine mjq_lsw (c := (11 : Int32)) (tgt := 64) D_147_7 rfl (by decide) h (fun h => ?_) (fun n8 h => ?_)
  · exact (t_147_64 hR h1 h2) _ _ _ h
  refine mjq_lsw (c := (12 : Int32)) (tgt := 64) D_147_7 rfl (by decide) h (fun h => ?_) (fun n9 h => ?_)
  · exact (t_147_64 hR h1 h2) _ _ _ h
  refine mjq_lsw (c := (14 : Int32)) (tgt := 82) D_147_7 rfl (by decide) h (fun h => ?_) (fun n10 h => ?_)
  · refine mjr_aload_n (x := l0) D_147_82 rfl ?_
    refine mjq_gR D_147_83 fr_8_9 h (fun v11 h => ?_)
    refine mjq_vN (As := []) (rest := []) D_147_86 mr_8_90 V_166 rfl rfl rfl hR (Nat.le_refl _) h1 h2 h (fun  hp12 h => ?_)
    refine mjr_aload_n (x := l0) D_147_89 rfl ?_
    refine mjq_ic (v := (0 : Int32)) D_147_90 rfl ?_
    refine mjq_vN (As := [.int (0 : Int32)]) (rest := []) D_147_91 mr_8_112 V_130 rfl rfl rfl hR (Nat.le_refl _) h1 h2 h (fun  hp13 h => ?_)
    refine mjq_ic (v := (0 : Int32)) D_147_94 rfl ?_
    exact mjq_ret D_147_95 rfl h1 h2 h
  refine mjq_lsw (c := (40 : Int32)) (tgt := 96) D_147_7 rfl (by decide) h (fun h => ?_) (fun n14 h => ?_)
  · refine mjr_aload_n (x := l0) D_147_96 rfl ?_
    refine mjq_bi (v := (40 : Int32)) D_147_97 rfl ?_
    refine mjq_vN (As := [.int (40 : Int32)]) (rest := []) D_147_99 mr_8_119 V_134 rfl rfl rfl hR (Nat.le_refl _) h1 h2 h (fun  hp15 h => ?_)
    refine mjr_aload_n (x := l0) D_147_102 rfl ?_
    refine mjq_vI (As := []) (rest := []) D_147_103 mr_8_194 V_142 rfl rfl rfl hR (Nat.le_refl _) h1 h2 h (fun v16 hp17 h => ?_)
    refine mjr_pop D_147_106 rfl ?_
    refine mjr_aload_n (x := l0) D_147_107 rfl ?_
    refine mjq_bi (v := (41 : Int32)) D_147_108 rfl ?_
    refine mjq_vN (As := [.int (41 : Int32)]) (rest := []) D_147_110 mr_8_69 V_138 rfl rfl rfl hR (Nat.le_refl _) h1 h2 h (fun  hp18 h => ?_)
    refine mjq_ic (v := (0 : Int32)) D_147_113 rfl ?_
    exact mjq_ret D_147_114 rfl h1 h2 h
  refine mjq_lswD (tgt := 115) [(3 : Int32), (4 : Int32), (11 : Int32), (12 : Int32), (14 : Int32), (40 : Int32)] D_147_7 rfl (by decide) (mj_all1 n4 (mj_all1 n7 (mj_all1 n8 (mj_all1 n9 (mj_all1 n10 (mj_all1 n14 mj_all0)))))) rfl ?_
  refine mjr_aload_n (x := l0) D_147_115 rfl ?_
  refine mjq_gR D_147_116 fr_8_9 h (fun v19 h => ?_)
  refine mjq_ic (v := (2 : Int32)) D_147_119 rfl ?_
  refine mjq_vN (As := [.int (2 : Int32)]) (rest := []) D_147_120 mr_8_87 V_165 rfl rfl rfl hR (Nat.le_refl _) h1 h2 h (fun  hp20 h => ?_)
  refine mjq_ic (v := (0 : Int32)) D_147_123 rfl ?_
  exact mjq_ret D_147_124 rfl h1 h2 h
noncomputable def f_147 (R : mjR) (a0 : Nat) (hp : mjH) : mjU := b_147_0 R a0 hp
theorem c_147 {R : mjR} {d : Nat} (hR : mjC R d) {a0 : Nat} {hp : mjH} {q : Option Value × mjH} (h : f_147 R a0 hp = some q) : mjM (d + 1) 0 0 147 [.ref a0] hp (mjEq q) :=
  mjM_of Ja_147 (Nat.le_of_ble_eq_true rfl) (mjG.fg (lo' := [some (.ref a0)]) (And.intro rfl True.intro) ((t_147_0 hR (Nat.le_refl 0) (Nat.le_refl 0)) a0 hp q h))
def J_148 : mjI := (⟨"OwnerHeap$Reader", "readArguments", "()I"⟩, 8, prog_10_method_25_code, 5, (some .int), 0, false)
theorem Ja_148 : mjMt 148 = some J_148 := by rfl
theorem D_148_0 : decode J_148.2.2.1 0 = .ok (.aload_n 0, 1) := dzq_42 (by decide +kernel)
theorem D_148_1 : decode J_148.2.2.1 1 = .ok (.getfield 9, 3) := dzq_180 (by decide +kernel)
theorem D_148_4 : decode J_148.2.2.1 4 = .ok (.invokevirtual 78, 3) := dzq_182 (by decide +kernel)
theorem D_148_7 : decode J_148.2.2.1 7 = .ok (.istore_n 1, 1) := dzq_60 (by decide +kernel)
theorem D_148_8 : decode J_148.2.2.1 8 = .ok (.iconst 0, 1) := dzq_3 (by decide +kernel)
theorem D_148_9 : decode J_148.2.2.1 9 = .ok (.istore_n 2, 1) := dzq_61 (by decide +kernel)
theorem D_148_10 : decode J_148.2.2.1 10 = .ok (.aload_n 0, 1) := dzq_42 (by decide +kernel)
theorem D_148_11 : decode J_148.2.2.1 11 = .ok (.bipush 40, 2) := dzq_16 (by decide +kernel)
theorem D_148_13 : decode J_148.2.2.1 13 = .ok (.invokevirtual 119, 3) := dzq_182 (by decide +kernel)
theorem D_148_16 : decode J_148.2.2.1 16 = .ok (.aload_n 0, 1) := dzq_42 (by decide +kernel)
theorem D_148_17 : decode J_148.2.2.1 17 = .ok (.getfield 9, 3) := dzq_180 (by decide +kernel)
theorem D_148_20 : decode J_148.2.2.1 20 = .ok (.bipush 41, 2) := dzq_16 (by decide +kernel)
theorem D_148_22 : decode J_148.2.2.1 22 = .ok (.invokevirtual 53, 3) := dzq_182 (by decide +kernel)
theorem D_148_25 : decode J_148.2.2.1 25 = .ok (.ifCond .ne 7, 3) := dzq_154 (by decide +kernel)
theorem D_148_28 : decode J_148.2.2.1 28 = .ok (.iconst 1, 1) := dzq_4 (by decide +kernel)
theorem D_148_29 : decode J_148.2.2.1 29 = .ok (.goto 4, 3) := dzq_167 (by decide +kernel)
theorem D_148_32 : decode J_148.2.2.1 32 = .ok (.iconst 0, 1) := dzq_3 (by decide +kernel)
theorem D_148_33 : decode J_148.2.2.1 33 = .ok (.istore_n 3, 1) := dzq_62 (by decide +kernel)
theorem D_148_34 : decode J_148.2.2.1 34 = .ok (.iconst 0, 1) := dzq_3 (by decide +kernel)
theorem D_148_35 : decode J_148.2.2.1 35 = .ok (.istore 4, 2) := dzq_54 (by decide +kernel)
theorem D_148_37 : decode J_148.2.2.1 37 = .ok (.iload 4, 2) := dzq_21 (by decide +kernel)
theorem D_148_39 : decode J_148.2.2.1 39 = .ok (.bipush 6, 2) := dzq_16 (by decide +kernel)
theorem D_148_41 : decode J_148.2.2.1 41 = .ok (.if_icmp .gt 64, 3) := dzq_163 (by decide +kernel)
theorem D_148_44 : decode J_148.2.2.1 44 = .ok (.iload_n 3, 1) := dzq_29 (by decide +kernel)
theorem D_148_45 : decode J_148.2.2.1 45 = .ok (.ifCond .eq 60, 3) := dzq_153 (by decide +kernel)
theorem D_148_48 : decode J_148.2.2.1 48 = .ok (.iload 4, 2) := dzq_21 (by decide +kernel)
theorem D_148_50 : decode J_148.2.2.1 50 = .ok (.bipush 6, 2) := dzq_16 (by decide +kernel)
theorem D_148_52 : decode J_148.2.2.1 52 = .ok (.if_icmp .ne 18, 3) := dzq_160 (by decide +kernel)
theorem D_148_55 : decode J_148.2.2.1 55 = .ok (.aload_n 0, 1) := dzq_42 (by decide +kernel)
theorem D_148_56 : decode J_148.2.2.1 56 = .ok (.invokevirtual 227, 3) := dzq_182 (by decide +kernel)
theorem D_148_59 : decode J_148.2.2.1 59 = .ok (.ifCond .eq 11, 3) := dzq_153 (by decide +kernel)
theorem D_148_62 : decode J_148.2.2.1 62 = .ok (.aload_n 0, 1) := dzq_42 (by decide +kernel)
theorem D_148_63 : decode J_148.2.2.1 63 = .ok (.getfield 9, 3) := dzq_180 (by decide +kernel)
theorem D_148_66 : decode J_148.2.2.1 66 = .ok (.iconst 3, 1) := dzq_6 (by decide +kernel)
theorem D_148_67 : decode J_148.2.2.1 67 = .ok (.invokevirtual 87, 3) := dzq_182 (by decide +kernel)
theorem D_148_70 : decode J_148.2.2.1 70 = .ok (.aload_n 0, 1) := dzq_42 (by decide +kernel)
theorem D_148_71 : decode J_148.2.2.1 71 = .ok (.invokevirtual 194, 3) := dzq_182 (by decide +kernel)
theorem D_148_74 : decode J_148.2.2.1 74 = .ok (.pop, 1) := dzq_87 (by decide +kernel)
theorem D_148_75 : decode J_148.2.2.1 75 = .ok (.iinc 2 1, 3) := dzq_132 (by decide +kernel)
theorem D_148_78 : decode J_148.2.2.1 78 = .ok (.aload_n 0, 1) := dzq_42 (by decide +kernel)
theorem D_148_79 : decode J_148.2.2.1 79 = .ok (.getfield 9, 3) := dzq_180 (by decide +kernel)
theorem D_148_82 : decode J_148.2.2.1 82 = .ok (.bipush 44, 2) := dzq_16 (by decide +kernel)
theorem D_148_84 : decode J_148.2.2.1 84 = .ok (.invokevirtual 53, 3) := dzq_182 (by decide +kernel)
theorem D_148_87 : decode J_148.2.2.1 87 = .ok (.istore_n 3, 1) := dzq_62 (by decide +kernel)
theorem D_148_88 : decode J_148.2.2.1 88 = .ok (.iload_n 3, 1) := dzq_29 (by decide +kernel)
theorem D_148_89 : decode J_148.2.2.1 89 = .ok (.ifCond .eq 10, 3) := dzq_153 (by decide +kernel)
theorem D_148_92 : decode J_148.2.2.1 92 = .ok (.aload_n 0, 1) := dzq_42 (by decide +kernel)
theorem D_148_93 : decode J_148.2.2.1 93 = .ok (.getfield 9, 3) := dzq_180 (by decide +kernel)
theorem D_148_96 : decode J_148.2.2.1 96 = .ok (.invokevirtual 90, 3) := dzq_182 (by decide +kernel)
theorem D_148_99 : decode J_148.2.2.1 99 = .ok (.iinc 4 1, 3) := dzq_132 (by decide +kernel)
theorem D_148_102 : decode J_148.2.2.1 102 = .ok (.goto (-65), 3) := dzq_167 (by decide +kernel)
theorem D_148_105 : decode J_148.2.2.1 105 = .ok (.aload_n 0, 1) := dzq_42 (by decide +kernel)
theorem D_148_106 : decode J_148.2.2.1 106 = .ok (.bipush 41, 2) := dzq_16 (by decide +kernel)
theorem D_148_108 : decode J_148.2.2.1 108 = .ok (.invokevirtual 69, 3) := dzq_182 (by decide +kernel)
theorem D_148_111 : decode J_148.2.2.1 111 = .ok (.aload_n 0, 1) := dzq_42 (by decide +kernel)
theorem D_148_112 : decode J_148.2.2.1 112 = .ok (.getfield 9, 3) := dzq_180 (by decide +kernel)
theorem D_148_115 : decode J_148.2.2.1 115 = .ok (.iload_n 1, 1) := dzq_27 (by decide +kernel)
theorem D_148_116 : decode J_148.2.2.1 116 = .ok (.iload_n 2, 1) := dzq_28 (by decide +kernel)
theorem D_148_117 : decode J_148.2.2.1 117 = .ok (.invokevirtual 230, 3) := dzq_182 (by decide +kernel)
theorem D_148_120 : decode J_148.2.2.1 120 = .ok (.iconst 3, 1) := dzq_6 (by decide +kernel)
theorem D_148_121 : decode J_148.2.2.1 121 = .ok (.ireturn, 1) := dzq_172 (by decide +kernel)
def P_148_105 (X : mjX) (d C S kc ks : Nat) (k : Nat → Int32 → Int32 → mjH → mjU) : Prop := ∀ (l0 : Nat) (l1 : Int32) (l2 : Int32) (hp : mjH) (q : Option Value × mjH), k l0 l1 l2 hp = some q → mjG X d C S J_148 (mjEq q) 105 [some (.ref l0), some (.int l1), some (.int l2), none, none] [] hp kc ks
def P_148_99 (X : mjX) (d C S kc ks : Nat) (k : Nat → Int32 → Int32 → Int32 → Int32 → mjH → mjU) : Prop := ∀ (l0 : Nat) (l1 : Int32) (l2 : Int32) (l3 : Int32) (l4 : Int32) (hp : mjH) (q : Option Value × mjH), k l0 l1 l2 l3 l4 hp = some q → mjG X d C S J_148 (mjEq q) 99 [some (.ref l0), some (.int l1), some (.int l2), some (.int l3), some (.int l4)] [] hp kc ks
def P_148_70 (X : mjX) (d C S kc ks : Nat) (k : Nat → Int32 → Int32 → Int32 → mjH → mjU) : Prop := ∀ (l0 : Nat) (l1 : Int32) (l2 : Int32) (l4 : Int32) (hp : mjH) (q : Option Value × mjH), k l0 l1 l2 l4 hp = some q → mjG X d C S J_148 (mjEq q) 70 [some (.ref l0), some (.int l1), some (.int l2), none, some (.int l4)] [] hp kc ks
def P_148_37 (X : mjX) (d C S kc ks : Nat) (k : Nat → Int32 → Int32 → Int32 → Int32 → mjH → mjU) : Prop := ∀ (l0 : Nat) (l1 : Int32) (l2 : Int32) (l3 : Int32) (l4 : Int32) (hp : mjH) (q : Option Value × mjH), k l0 l1 l2 l3 l4 hp = some q → mjG X d C S J_148 (mjEq q) 37 [some (.ref l0), some (.int l1), some (.int l2), some (.int l3), some (.int l4)] [] hp kc ks
def P_148_33 (X : mjX) (d C S kc ks : Nat) (k : Nat → Int32 → Int32 → Int32 → mjH → mjU) : Prop := ∀ (l0 : Nat) (l1 : Int32) (l2 : Int32) (s0 : Int32) (hp : mjH) (q : Option Value × mjH), k l0 l1 l2 s0 hp = some q → mjG X d C S J_148 (mjEq q) 33 [some (.ref l0), some (.int l1), some (.int l2), none, none] [.int s0] hp kc ks
def P_148_0 (X : mjX) (d C S kc ks : Nat) (k : Nat → mjH → mjU) : Prop := ∀ (l0 : Nat) (hp : mjH) (q : Option Value × mjH), k l0 hp = some q → mjG X d C S J_148 (mjEq q) 0 [some (.ref l0), none, none, none, none] [] hp kc ks
noncomputable def b_148_105 (R : mjR) (l0 : Nat) (l1 : Int32) (l2 : Int32) (hp : mjH) : mjU := rV hp l0 8 (bN (R 138 [.ref l0, .int (41 : Int32)] hp) (fun  hp1 => gR hp1 l0 8 0 (fun v2 => rV hp1 v2 9 (bN (R 174 [.ref v2, .int l1, .int l2] hp1) (fun  hp3 => some (some (.int (3 : Int32)), hp3))))))
theorem t_148_105 {X : mjX} {d C S kc ks : Nat} {R : mjR} (hR : mjC R d) (h1 : kc ≤ C) (h2 : ks ≤ S) : P_148_105 X (d + 1) C S kc ks (b_148_105 R) := by
  intro l0 l1 l2 hp q h
  unfold b_148_105 at h
  refine mjr_aload_n (x := l0) D_148_105 rfl ?_
  refine mjq_bi (v := (41 : Int32)) D_148_106 rfl ?_
  refine mjq_vN (As := [.int (41 : Int32)]) (rest := []) D_148_108 mr_8_69 V_138 rfl rfl rfl hR (Nat.le_refl _) h1 h2 h (fun  hp1 h => ?_)
  refine mjr_aload_n (x := l0) D_148_111 rfl ?_
  refine mjq_gR D_148_112 fr_8_9 h (fun v2 h => ?_)
  refine mjr_iload_n (x := l1) D_148_115 rfl ?_
  refine mjr_iload_n (x := l2) D_148_116 rfl ?_
  refine mjq_vN (As := [.int l1, .int l2]) (rest := []) D_148_117 mr_8_230 V_174 rfl rfl rfl hR (Nat.le_refl _) h1 h2 h (fun  hp3 h => ?_)
  refine mjq_ic (v := (3 : Int32)) D_148_120 rfl ?_
  exact mjq_ret D_148_121 rfl h1 h2 h
noncomputable def b_148_99 (R : mjR) (k37 : Nat → Int32 → Int32 → Int32 → Int32 → mjH → mjU) (l0 : Nat) (l1 : Int32) (l2 : Int32) (l3 : Int32) (l4 : Int32) (hp : mjH) : mjU := k37 l0 l1 l2 l3 (l4 + (1 : Int32)) hp
theorem t_148_99 {X : mjX} {d C S kc ks : Nat} {R : mjR} (hR : mjC R d) (h1 : kc ≤ C) (h2 : ks ≤ S) {k37 : Nat → Int32 → Int32 → Int32 → Int32 → mjH → mjU} (hk37 : P_148_37 X (d + 1) C S kc ks k37) : P_148_99 X (d + 1) C S kc ks (b_148_99 R k37) := by
  intro l0 l1 l2 l3 l4 hp q h
  unfold b_148_99 at h
  refine mjq_iinc (x := l4) (c := (1 : Int32)) (lo' := [some (.ref l0), some (.int l1), some (.int l2), some (.int l3), some (.int (l4 + (1 : Int32)))]) D_148_99 rfl (Nat.le_of_ble_eq_true rfl) rfl rfl ?_
  refine mjr_goto (tgt := 37) D_148_102 rfl ?_
  exact hk37 _ _ _ _ _ _ _ h
noncomputable def b_148_70 (R : mjR) (k37 : Nat → Int32 → Int32 → Int32 → Int32 → mjH → mjU) (l0 : Nat) (l1 : Int32) (l2 : Int32) (l4 : Int32) (hp : mjH) : mjU := rV hp l0 8 (bI (R 142 [.ref l0] hp) (fun v1 hp2 => gR hp2 l0 8 0 (fun v3 => rV hp2 v3 9 (bI (R 164 [.ref v3, .int (44 : Int32)] hp2) (fun v4 hp5 => (if v4 = 0 then b_148_99 R k37 l0 l1 (l2 + (1 : Int32)) v4 l4 hp5 else gR hp5 l0 8 0 (fun v6 => rV hp5 v6 9 (bN (R 166 [.ref v6] hp5) (fun  hp7 => b_148_99 R k37 l0 l1 (l2 + (1 : Int32)) v4 l4 hp7)))))))))
theorem t_148_70 {X : mjX} {d C S kc ks : Nat} {R : mjR} (hR : mjC R d) (h1 : kc ≤ C) (h2 : ks ≤ S) {k37 : Nat → Int32 → Int32 → Int32 → Int32 → mjH → mjU} (hk37 : P_148_37 X (d + 1) C S kc ks k37) : P_148_70 X (d + 1) C S kc ks (b_148_70 R k37) := by
  intro l0 l1 l2 l4 hp q h
  unfold b_148_70 at h
  refine mjr_aload_n (x := l0) D_148_70 rfl ?_
  refine mjq_vI (As := []) (rest := []) D_148_71 mr_8_194 V_142 rfl rfl rfl hR (Nat.le_refl _) h1 h2 h (fun v1 hp2 h => ?_)
  refine mjr_pop D_148_74 rfl ?_
  refine mjq_iinc (x := l2) (c := (1 : Int32)) (lo' := [some (.ref l0), some (.int l1), some (.int (l2 + (1 : Int32))), none, some (.int l4)]) D_148_75 rfl (Nat.le_of_ble_eq_true rfl) rfl rfl ?_
  refine mjr_aload_n (x := l0) D_148_78 rfl ?_
  refine mjq_gR D_148_79 fr_8_9 h (fun v3 h => ?_)
  refine mjq_bi (v := (44 : Int32)) D_148_82 rfl ?_
  refine mjq_vI (As := [.int (44 : Int32)]) (rest := []) D_148_84 mr_8_53 V_164 rfl rfl rfl hR (Nat.le_refl _) h1 h2 h (fun v4 hp5 h => ?_)
  refine mjq_istore_n (lo' := [some (.ref l0), some (.int l1), some (.int (l2 + (1 : Int32))), some (.int v4), some (.int l4)]) D_148_87 (Nat.le_of_ble_eq_true rfl) rfl ?_
  refine mjr_iload_n (x := v4) D_148_88 rfl ?_
  refine mjq_if_eq (tgt := 99) D_148_89 rfl h (fun h => ?_) (fun h => ?_)
  · exact (t_148_99 hR h1 h2 hk37) _ _ _ _ _ _ _ h
  · refine mjr_aload_n (x := l0) D_148_92 rfl ?_
    refine mjq_gR D_148_93 fr_8_9 h (fun v6 h => ?_)
    refine mjq_vN (As := []) (rest := []) D_148_96 mr_8_90 V_166 rfl rfl rfl hR (Nat.le_refl _) h1 h2 h (fun  hp7 h => ?_)
    exact (t_148_99 hR h1 h2 hk37) _ _ _ _ _ _ _ h
noncomputable def b_148_37 (R : mjR) (k37 : Nat → Int32 → Int32 → Int32 → Int32 → mjH → mjU) (l0 : Nat) (l1 : Int32) (l2 : Int32) (l3 : Int32) (l4 : Int32) (hp : mjH) : mjU := (if (6 : Int32) < l4 then b_148_105 R l0 l1 l2 hp else (if l3 = 0 then b_148_105 R l0 l1 l2 hp else (if l4 = (6 : Int32) then rV hp l0 8 (bI (R 149 [.ref l0] hp) (fun v1 hp2 => (if v1 = 0 then b_148_70 R k37 l0 l1 l2 l4 hp2 else gR hp2 l0 8 0 (fun v3 => rV hp2 v3 9 (bN (R 165 [.ref v3, .int (3 : Int32)] hp2) (fun  hp4 => b_148_70 R k37 l0 l1 l2 l4 hp4)))))) else b_148_70 R k37 l0 l1 l2 l4 hp)))
theorem t_148_37 {X : mjX} {d C S kc ks : Nat} {R : mjR} (hR : mjC R d) (h1 : kc ≤ C) (h2 : ks ≤ S) {k37 : Nat → Int32 → Int32 → Int32 → Int32 → mjH → mjU} (hk37 : P_148_37 X (d + 1) C S kc ks k37) : P_148_37 X (d + 1) C S kc ks (b_148_37 R k37) := by
  intro l0 l1 l2 l3 l4 hp q h
  unfold b_148_37 at h
  refine mjr_iload (x := l4) D_148_37 rfl ?_
  refine mjq_bi (v := (6 : Int32)) D_148_39 rfl ?_
  refine mjq_icmp_gt (tgt := 105) D_148_41 rfl h (fun h => ?_) (fun h => ?_)
  · exact mjG.fg (lo' := [some (.ref l0), some (.int l1), some (.int l2), none, none]) (And.intro rfl (And.intro rfl (And.intro rfl True.intro))) ((t_148_105 hR h1 h2) _ _ _ _ _ h)
  · refine mjr_iload_n (x := l3) D_148_44 rfl ?_
    refine mjq_if_eq (tgt := 105) D_148_45 rfl h (fun h => ?_) (fun h => ?_)
    · exact mjG.fg (lo' := [some (.ref l0), some (.int l1), some (.int l2), none, none]) (And.intro rfl (And.intro rfl (And.intro rfl True.intro))) ((t_148_105 hR h1 h2) _ _ _ _ _ h)
    · refine mjr_iload (x := l4) D_148_48 rfl ?_
      refine mjq_bi (v := (6 : Int32)) D_148_50 rfl ?_
      refine mjq_icmp_ne (tgt := 70) D_148_52 rfl h (fun h => ?_) (fun h => ?_)
      · exact mjG.fg (lo' := [some (.ref l0), some (.int l1), some (.int l2), none, some (.int l4)]) (And.intro rfl (And.intro rfl (And.intro rfl (And.intro rfl True.intro)))) ((t_148_70 hR h1 h2 hk37) _ _ _ _ _ _ h)
      · refine mjr_aload_n (x := l0) D_148_55 rfl ?_
        refine mjq_vI (As := []) (rest := []) D_148_56 mr_8_227 V_149 rfl rfl rfl hR (Nat.le_refl _) h1 h2 h (fun v1 hp2 h => ?_)
        refine mjq_if_eq (tgt := 70) D_148_59 rfl h (fun h => ?_) (fun h => ?_)
        · exact mjG.fg (lo' := [some (.ref l0), some (.int l1), some (.int l2), none, some (.int l4)]) (And.intro rfl (And.intro rfl (And.intro rfl (And.intro rfl True.intro)))) ((t_148_70 hR h1 h2 hk37) _ _ _ _ _ _ h)
        · refine mjr_aload_n (x := l0) D_148_62 rfl ?_
          refine mjq_gR D_148_63 fr_8_9 h (fun v3 h => ?_)
          refine mjq_ic (v := (3 : Int32)) D_148_66 rfl ?_
          refine mjq_vN (As := [.int (3 : Int32)]) (rest := []) D_148_67 mr_8_87 V_165 rfl rfl rfl hR (Nat.le_refl _) h1 h2 h (fun  hp4 h => ?_)
          exact mjG.fg (lo' := [some (.ref l0), some (.int l1), some (.int l2), none, some (.int l4)]) (And.intro rfl (And.intro rfl (And.intro rfl (And.intro rfl True.intro)))) ((t_148_70 hR h1 h2 hk37) _ _ _ _ _ _ h)
noncomputable def L_148_37 (R : mjR) (n : Nat) : Nat → Int32 → Int32 → Int32 → Int32 → mjH → mjU := Nat.rec (motive := fun _ => Nat → Int32 → Int32 → Int32 → Int32 → mjH → mjU) (fun _ _ _ _ _ _ => none) (fun _ self => b_148_37 R self) n
theorem T_148_37 {X : mjX} {d C S kc ks : Nat} {R : mjR} (hR : mjC R d) (h1 : kc ≤ C) (h2 : ks ≤ S) (n : Nat) : P_148_37 X (d + 1) C S kc ks (L_148_37 R n) := by
  induction n with
  | zero => intro _ _ _ _ _ _ _ h; exact mj_no h
  | succ n ih => exact t_148_37 hR h1 h2 ih
noncomputable def b_148_33 (R : mjR) (l0 : Nat) (l1 : Int32) (l2 : Int32) (s0 : Int32) (hp : mjH) : mjU := L_148_37 R mjN l0 l1 l2 s0 (0 : Int32) hp
theorem t_148_33 {X : mjX} {d C S kc ks : Nat} {R : mjR} (hR : mjC R d) (h1 : kc ≤ C) (h2 : ks ≤ S) : P_148_33 X (d + 1) C S kc ks (b_148_33 R) := by
  intro l0 l1 l2 s0 hp q h
  unfold b_148_33 at h
  refine mjq_istore_n (lo' := [some (.ref l0), some (.int l1), some (.int l2), some (.int s0), none]) D_148_33 (Nat.le_of_ble_eq_true rfl) rfl ?_
  refine mjq_ic (v := (0 : Int32)) D_148_34 rfl ?_
  refine mjq_istore (lo' := [some (.ref l0), some (.int l1), some (.int l2), some (.int s0), some (.int (0 : Int32))]) D_148_35 (Nat.le_of_ble_eq_true rfl) rfl ?_
  exact (T_148_37 hR h1 h2 mjN) _ _ _ _ _ _ _ h
noncomputable def b_148_0 (R : mjR) (l0 : Nat) (hp : mjH) : mjU := gR hp l0 8 0 (fun v1 => rV hp v1 9 (bI (R 167 [.ref v1] hp) (fun v2 hp3 => rV hp3 l0 8 (bN (R 134 [.ref l0, .int (40 : Int32)] hp3) (fun  hp4 => gR hp4 l0 8 0 (fun v5 => rV hp4 v5 9 (bI (R 164 [.ref v5, .int (41 : Int32)] hp4) (fun v6 hp7 => (if v6 = 0 then b_148_33 R l0 v2 (0 : Int32) (1 : Int32) hp7 else b_148_33 R l0 v2 (0 : Int32) (0 : Int32) hp7)))))))))
theorem t_148_0 {X : mjX} {d C S kc ks : Nat} {R : mjR} (hR : mjC R d) (h1 : kc ≤ C) (h2 : ks ≤ S) : P_148_0 X (d + 1) C S kc ks (b_148_0 R) := by
  intro l0 hp q h
  unfold b_148_0 at h
  refine mjr_aload_n (x := l0) D_148_0 rfl ?_
  refine mjq_gR D_148_1 fr_8_9 h (fun v1 h => ?_)
  refine mjq_vI (As := []) (rest := []) D_148_4 mr_8_78 V_167 rfl rfl rfl hR (Nat.le_refl _) h1 h2 h (fun v2 hp3 h => ?_)
  refine mjq_istore_n (lo' := [some (.ref l0), some (.int v2), none, none, none]) D_148_7 (Nat.le_of_ble_eq_true rfl) rfl ?_
  refine mjq_ic (v := (0 : Int32)) D_148_8 rfl ?_
  refine mjq_istore_n (lo' := [some (.ref l0), some (.int v2), some (.int (0 : Int32)), none, none]) D_148_9 (Nat.le_of_ble_eq_true rfl) rfl ?_
  refine mjr_aload_n (x := l0) D_148_10 rfl ?_
  refine mjq_bi (v := (40 : Int32)) D_148_11 rfl ?_
  refine mjq_vN (As := [.int (40 : Int32)]) (rest := []) D_148_13 mr_8_119 V_134 rfl rfl rfl hR (Nat.le_refl _) h1 h2 h (fun  hp4 h => ?_)
  refine mjr_aload_n (x := l0) D_148_16 rfl ?_
  refine mjq_gR D_148_17 fr_8_9 h (fun v5 h => ?_)
  refine mjq_bi (v := (41 : Int32)) D_148_20 rfl ?_
  refine mjq_vI (As := [.int (41 : Int32)]) (rest := []) D_148_22 mr_8_53 V_164 rfl rfl rfl hR (Nat.le_refl _) h1 h2 h (fun v6 hp7 h => ?_)
  refine mjq_if_ne (tgt := 32) D_148_25 rfl h (fun h => ?_) (fun h => ?_)
  · refine mjq_ic (v := (0 : Int32)) D_148_32 rfl ?_
    exact (t_148_33 hR h1 h2) _ _ _ _ _ _ h
  · refine mjq_ic (v := (1 : Int32)) D_148_28 rfl ?_
    refine mjr_goto (tgt := 33) D_148_29 rfl ?_
    exact (t_148_33 hR h1 h2) _ _ _ _ _ _ h
noncomputable def f_148 (R : mjR) (a0 : Nat) (hp : mjH) : mjU := b_148_0 R a0 hp
theorem c_148 {R : mjR} {d : Nat} (hR : mjC R d) {a0 : Nat} {hp : mjH} {q : Option Value × mjH} (h : f_148 R a0 hp = some q) : mjM (d + 1) 0 0 148 [.ref a0] hp (mjEq q) :=
  mjM_of Ja_148 (Nat.le_of_ble_eq_true rfl) (mjG.fg (lo' := [some (.ref a0), none, none, none, none]) (And.intro rfl True.intro) ((t_148_0 hR (Nat.le_refl 0) (Nat.le_refl 0)) a0 hp q h))
def J_149 : mjI := (⟨"OwnerHeap$Reader", "startsValue", "()Z"⟩, 8, prog_10_method_26_code, 1, (some .boolean), 0, false)
theorem Ja_149 : mjMt 149 = some J_149 := by rfl
theorem D_149_0 : decode J_149.2.2.1 0 = .ok (.aload_n 0, 1) := dzq_42 (by decide +kernel)
theorem D_149_1 : decode J_149.2.2.1 1 = .ok (.getfield 9, 3) := dzq_180 (by decide +kernel)
theorem D_149_4 : decode J_149.2.2.1 4 = .ok (.invokevirtual 185, 3) := dzq_182 (by decide +kernel)
theorem D_149_7 : decode J_149.2.2.1 7 = .ok (.lookupswitch 67 #[(3, 65), (4, 65), (11, 65), (12, 65), (14, 65), (40, 65), (45, 65)], 65) := by decide +kernel
theorem D_149_72 : decode J_149.2.2.1 72 = .ok (.iconst 1, 1) := dzq_4 (by decide +kernel)
theorem D_149_73 : decode J_149.2.2.1 73 = .ok (.ireturn, 1) := dzq_172 (by decide +kernel)
theorem D_149_74 : decode J_149.2.2.1 74 = .ok (.iconst 0, 1) := dzq_3 (by decide +kernel)
theorem D_149_75 : decode J_149.2.2.1 75 = .ok (.ireturn, 1) := dzq_172 (by decide +kernel)
def P_149_72 (X : mjX) (d C S kc ks : Nat) (k : mjH → mjU) : Prop := ∀  (hp : mjH) (q : Option Value × mjH), k  hp = some q → mjG X d C S J_149 (mjEq q) 72 [none] [] hp kc ks
def P_149_0 (X : mjX) (d C S kc ks : Nat) (k : Nat → mjH → mjU) : Prop := ∀ (l0 : Nat) (hp : mjH) (q : Option Value × mjH), k l0 hp = some q → mjG X d C S J_149 (mjEq q) 0 [some (.ref l0)] [] hp kc ks
noncomputable def b_149_72 (R : mjR)  (hp : mjH) : mjU := some (some (.int (1 : Int32)), hp)
theorem t_149_72 {X : mjX} {d C S kc ks : Nat} {R : mjR} (hR : mjC R d) (h1 : kc ≤ C) (h2 : ks ≤ S) : P_149_72 X (d + 1) C S kc ks (b_149_72 R) := by
  intro  hp q h
  unfold b_149_72 at h
  refine mjq_ic (v := (1 : Int32)) D_149_72 rfl ?_
  exact mjr_ireturn D_149_73 rfl rfl h1 h2 (Option.some.inj h)
noncomputable def b_149_0 (R : mjR) (l0 : Nat) (hp : mjH) : mjU := gR hp l0 8 0 (fun v1 => rV hp v1 9 (bI (R 173 [.ref v1] hp) (fun v2 hp3 => (if v2 = (3 : Int32) then b_149_72 R hp3 else if v2 = (4 : Int32) then b_149_72 R hp3 else if v2 = (11 : Int32) then b_149_72 R hp3 else if v2 = (12 : Int32) then b_149_72 R hp3 else if v2 = (14 : Int32) then b_149_72 R hp3 else if v2 = (40 : Int32) then b_149_72 R hp3 else if v2 = (45 : Int32) then b_149_72 R hp3 else some (some (.int (0 : Int32)), hp3)))))
theorem t_149_0 {X : mjX} {d C S kc ks : Nat} {R : mjR} (hR : mjC R d) (h1 : kc ≤ C) (h2 : ks ≤ S) : P_149_0 X (d + 1) C S kc ks (b_149_0 R) := by
  intro l0 hp q h
  unfold b_149_0 at h
  refine mjr_aload_n (x := l0) D_149_0 rfl ?_
  refine mjq_gR D_149_1 fr_8_9 h (fun v1 h => ?_)
  refine mjq_vI (As := []) (rest := []) D_149_4 mr_8_185 V_173 rfl rfl rfl hR (Nat.le_refl _) h1 h2 h (fun v2 hp3 h => ?_)
  refine mjq_lsw (c := (3 : Int32)) (tgt := 72) D_149_7 rfl (by decide) h (fun h => ?_) (fun n4 h => ?_)
  · exact mjG.fg (lo' := [none]) True.intro ((t_149_72 hR h1 h2) _ _ h)
  refine mjq_lsw (c := (4 : Int32)) (tgt := 72) D_149_7 rfl (by decide) h (fun h => ?_) (fun n5 h => ?_)
  · exact mjG.fg (lo' := [none]) True.intro ((t_149_72 hR h1 h2) _ _ h)
  refine mjq_lsw (c := (11 : Int32)) (tgt := 72) D_149_7 rfl (by decide) h (fun h => ?_) (fun n6 h => ?_)
  · exact mjG.fg (lo' := [none]) True.intro ((t_149_72 hR h1 h2) _ _ h)
  refine mjq_lsw (c := (12 : Int32)) (tgt := 72) D_149_7 rfl (by decide) h (fun h => ?_) (fun n7 h => ?_)
  · exact mjG.fg (lo' := [none]) True.intro ((t_149_72 hR h1 h2) _ _ h)
  refine mjq_lsw (c := (14 : Int32)) (tgt := 72) D_149_7 rfl (by decide) h (fun h => ?_) (fun n8 h => ?_)
  · exact mjG.fg (lo' := [none]) True.intro ((t_149_72 hR h1 h2) _ _ h)
  refine mjq_lsw (c := (40 : Int32)) (tgt := 72) D_149_7 rfl (by decide) h (fun h => ?_) (fun n9 h => ?_)
  · exact mjG.fg (lo' := [none]) True.intro ((t_149_72 hR h1 h2) _ _ h)
  refine mjq_lsw (c := (45 : Int32)) (tgt := 72) D_149_7 rfl (by decide) h (fun h => ?_) (fun n10 h => ?_)
  · exact mjG.fg (lo' := [none]) True.intro ((t_149_72 hR h1 h2) _ _ h)
  refine mjq_lswD (tgt := 74) [(3 : Int32), (4 : Int32), (11 : Int32), (12 : Int32), (14 : Int32), (40 : Int32), (45 : Int32)] D_149_7 rfl (by decide) (mj_all1 n4 (mj_all1 n5 (mj_all1 n6 (mj_all1 n7 (mj_all1 n8 (mj_all1 n9 (mj_all1 n10 mj_all0))))))) rfl ?_
  refine mjq_ic (v := (0 : Int32)) D_149_74 rfl ?_
  exact mjr_ireturn D_149_75 rfl rfl h1 h2 (Option.some.inj h)
noncomputable def f_149 (R : mjR) (a0 : Nat) (hp : mjH) : mjU := b_149_0 R a0 hp
theorem c_149 {R : mjR} {d : Nat} (hR : mjC R d) {a0 : Nat} {hp : mjH} {q : Option Value × mjH} (h : f_149 R a0 hp = some q) : mjM (d + 1) 0 0 149 [.ref a0] hp (mjEq q) :=
  mjM_of Ja_149 (Nat.le_of_ble_eq_true rfl) (mjG.fg (lo' := [some (.ref a0)]) (And.intro rfl True.intro) ((t_149_0 hR (Nat.le_refl 0) (Nat.le_refl 0)) a0 hp q h))
def J_150 : mjI := (⟨"OwnerHeap$Reader", "readVariable", "()V"⟩, 8, prog_10_method_18_code, 1, none, 0, false)
theorem Ja_150 : mjMt 150 = some J_150 := by rfl
theorem D_150_0 : decode J_150.2.2.1 0 = .ok (.aload_n 0, 1) := dzq_42 (by decide +kernel)
theorem D_150_1 : decode J_150.2.2.1 1 = .ok (.iconst 1, 1) := dzq_4 (by decide +kernel)
theorem D_150_2 : decode J_150.2.2.1 2 = .ok (.invokevirtual 112, 3) := dzq_182 (by decide +kernel)
theorem D_150_5 : decode J_150.2.2.1 5 = .ok (.aload_n 0, 1) := dzq_42 (by decide +kernel)
theorem D_150_6 : decode J_150.2.2.1 6 = .ok (.getfield 75, 3) := dzq_180 (by decide +kernel)
theorem D_150_9 : decode J_150.2.2.1 9 = .ok (.bipush 16, 2) := dzq_16 (by decide +kernel)
theorem D_150_11 : decode J_150.2.2.1 11 = .ok (.if_icmp .ne 22, 3) := dzq_160 (by decide +kernel)
theorem D_150_14 : decode J_150.2.2.1 14 = .ok (.aload_n 0, 1) := dzq_42 (by decide +kernel)
theorem D_150_15 : decode J_150.2.2.1 15 = .ok (.getfield 9, 3) := dzq_180 (by decide +kernel)
theorem D_150_18 : decode J_150.2.2.1 18 = .ok (.iconst 3, 1) := dzq_6 (by decide +kernel)
theorem D_150_19 : decode J_150.2.2.1 19 = .ok (.invokevirtual 53, 3) := dzq_182 (by decide +kernel)
theorem D_150_22 : decode J_150.2.2.1 22 = .ok (.ifCond .eq 11, 3) := dzq_153 (by decide +kernel)
theorem D_150_25 : decode J_150.2.2.1 25 = .ok (.aload_n 0, 1) := dzq_42 (by decide +kernel)
theorem D_150_26 : decode J_150.2.2.1 26 = .ok (.getfield 9, 3) := dzq_180 (by decide +kernel)
theorem D_150_29 : decode J_150.2.2.1 29 = .ok (.iconst 3, 1) := dzq_6 (by decide +kernel)
theorem D_150_30 : decode J_150.2.2.1 30 = .ok (.invokevirtual 87, 3) := dzq_182 (by decide +kernel)
theorem D_150_33 : decode J_150.2.2.1 33 = .ok (.aload_n 0, 1) := dzq_42 (by decide +kernel)
theorem D_150_34 : decode J_150.2.2.1 34 = .ok (.dup, 1) := dzq_89 (by decide +kernel)
theorem D_150_35 : decode J_150.2.2.1 35 = .ok (.getfield 75, 3) := dzq_180 (by decide +kernel)
theorem D_150_38 : decode J_150.2.2.1 38 = .ok (.iconst 1, 1) := dzq_4 (by decide +kernel)
theorem D_150_39 : decode J_150.2.2.1 39 = .ok (.iadd, 1) := dzq_96 (by decide +kernel)
theorem D_150_40 : decode J_150.2.2.1 40 = .ok (.putfield 75, 3) := dzq_181 (by decide +kernel)
theorem D_150_43 : decode J_150.2.2.1 43 = .ok (.aload_n 0, 1) := dzq_42 (by decide +kernel)
theorem D_150_44 : decode J_150.2.2.1 44 = .ok (.getfield 9, 3) := dzq_180 (by decide +kernel)
theorem D_150_47 : decode J_150.2.2.1 47 = .ok (.iconst 3, 1) := dzq_6 (by decide +kernel)
theorem D_150_48 : decode J_150.2.2.1 48 = .ok (.invokevirtual 72, 3) := dzq_182 (by decide +kernel)
theorem D_150_51 : decode J_150.2.2.1 51 = .ok (.aload_n 0, 1) := dzq_42 (by decide +kernel)
theorem D_150_52 : decode J_150.2.2.1 52 = .ok (.getfield 9, 3) := dzq_180 (by decide +kernel)
theorem D_150_55 : decode J_150.2.2.1 55 = .ok (.bipush 61, 2) := dzq_16 (by decide +kernel)
theorem D_150_57 : decode J_150.2.2.1 57 = .ok (.invokevirtual 72, 3) := dzq_182 (by decide +kernel)
theorem D_150_60 : decode J_150.2.2.1 60 = .ok (.return_, 1) := dzq_177 (by decide +kernel)
def P_150_33 (X : mjX) (d C S kc ks : Nat) (k : Nat → mjH → mjU) : Prop := ∀ (l0 : Nat) (hp : mjH) (q : Option Value × mjH), k l0 hp = some q → mjG X d C S J_150 (mjEq q) 33 [some (.ref l0)] [] hp kc ks
def P_150_0 (X : mjX) (d C S kc ks : Nat) (k : Nat → mjH → mjU) : Prop := ∀ (l0 : Nat) (hp : mjH) (q : Option Value × mjH), k l0 hp = some q → mjG X d C S J_150 (mjEq q) 0 [some (.ref l0)] [] hp kc ks
noncomputable def b_150_33 (R : mjR) (l0 : Nat) (hp : mjH) : mjU := gI hp l0 8 10 (fun v1 => pI hp l0 8 10 (v1 + (1 : Int32)) (fun hp2 => gR hp2 l0 8 0 (fun v3 => rV hp2 v3 9 (bN (R 169 [.ref v3, .int (3 : Int32)] hp2) (fun  hp4 => gR hp4 l0 8 0 (fun v5 => rV hp4 v5 9 (bN (R 169 [.ref v5, .int (61 : Int32)] hp4) (fun  hp6 => some (none, hp6)))))))))
theorem t_150_33 {X : mjX} {d C S kc ks : Nat} {R : mjR} (hR : mjC R d) (h1 : kc ≤ C) (h2 : ks ≤ S) : P_150_33 X (d + 1) C S kc ks (b_150_33 R) := by
  intro l0 hp q h
  unfold b_150_33 at h
  refine mjr_aload_n (x := l0) D_150_33 rfl ?_
  refine mjr_dup D_150_34 rfl ?_
  refine mjq_gI D_150_35 fr_8_75 h (fun v1 h => ?_)
  refine mjq_ic (v := (1 : Int32)) D_150_38 rfl ?_
  refine mjr_iadd D_150_39 ?_
  refine mjq_pI D_150_40 fr_8_75 rfl rfl h (fun hp2 h => ?_)
  refine mjr_aload_n (x := l0) D_150_43 rfl ?_
  refine mjq_gR D_150_44 fr_8_9 h (fun v3 h => ?_)
  refine mjq_ic (v := (3 : Int32)) D_150_47 rfl ?_
  refine mjq_vN (As := [.int (3 : Int32)]) (rest := []) D_150_48 mr_8_72 V_169 rfl rfl rfl hR (Nat.le_refl _) h1 h2 h (fun  hp4 h => ?_)
  refine mjr_aload_n (x := l0) D_150_51 rfl ?_
  refine mjq_gR D_150_52 fr_8_9 h (fun v5 h => ?_)
  refine mjq_bi (v := (61 : Int32)) D_150_55 rfl ?_
  refine mjq_vN (As := [.int (61 : Int32)]) (rest := []) D_150_57 mr_8_72 V_169 rfl rfl rfl hR (Nat.le_refl _) h1 h2 h (fun  hp6 h => ?_)
  exact mjq_nret D_150_60 rfl h1 h2 h
noncomputable def b_150_0 (R : mjR) (l0 : Nat) (hp : mjH) : mjU := rV hp l0 8 (bN (R 130 [.ref l0, .int (1 : Int32)] hp) (fun  hp1 => gI hp1 l0 8 10 (fun v2 => (if v2 = (16 : Int32) then gR hp1 l0 8 0 (fun v3 => rV hp1 v3 9 (bI (R 164 [.ref v3, .int (3 : Int32)] hp1) (fun v4 hp5 => (if v4 = 0 then b_150_33 R l0 hp5 else gR hp5 l0 8 0 (fun v6 => rV hp5 v6 9 (bN (R 165 [.ref v6, .int (3 : Int32)] hp5) (fun  hp7 => b_150_33 R l0 hp7))))))) else b_150_33 R l0 hp1))))
theorem t_150_0 {X : mjX} {d C S kc ks : Nat} {R : mjR} (hR : mjC R d) (h1 : kc ≤ C) (h2 : ks ≤ S) : P_150_0 X (d + 1) C S kc ks (b_150_0 R) := by
  intro l0 hp q h
  unfold b_150_0 at h
  refine mjr_aload_n (x := l0) D_150_0 rfl ?_
  refine mjq_ic (v := (1 : Int32)) D_150_1 rfl ?_
  refine mjq_vN (As := [.int (1 : Int32)]) (rest := []) D_150_2 mr_8_112 V_130 rfl rfl rfl hR (Nat.le_refl _) h1 h2 h (fun  hp1 h => ?_)
  refine mjr_aload_n (x := l0) D_150_5 rfl ?_
  refine mjq_gI D_150_6 fr_8_75 h (fun v2 h => ?_)
  refine mjq_bi (v := (16 : Int32)) D_150_9 rfl ?_
  refine mjq_icmp_ne (tgt := 33) D_150_11 rfl h (fun h => ?_) (fun h => ?_)
  · exact (t_150_33 hR h1 h2) _ _ _ h
  · refine mjr_aload_n (x := l0) D_150_14 rfl ?_
    refine mjq_gR D_150_15 fr_8_9 h (fun v3 h => ?_)
    refine mjq_ic (v := (3 : Int32)) D_150_18 rfl ?_
    refine mjq_vI (As := [.int (3 : Int32)]) (rest := []) D_150_19 mr_8_53 V_164 rfl rfl rfl hR (Nat.le_refl _) h1 h2 h (fun v4 hp5 h => ?_)
    refine mjq_if_eq (tgt := 33) D_150_22 rfl h (fun h => ?_) (fun h => ?_)
    · exact (t_150_33 hR h1 h2) _ _ _ h
    · refine mjr_aload_n (x := l0) D_150_25 rfl ?_
      refine mjq_gR D_150_26 fr_8_9 h (fun v6 h => ?_)
      refine mjq_ic (v := (3 : Int32)) D_150_29 rfl ?_
      refine mjq_vN (As := [.int (3 : Int32)]) (rest := []) D_150_30 mr_8_87 V_165 rfl rfl rfl hR (Nat.le_refl _) h1 h2 h (fun  hp7 h => ?_)
      exact (t_150_33 hR h1 h2) _ _ _ h
noncomputable def f_150 (R : mjR) (a0 : Nat) (hp : mjH) : mjU := b_150_0 R a0 hp
theorem c_150 {R : mjR} {d : Nat} (hR : mjC R d) {a0 : Nat} {hp : mjH} {q : Option Value × mjH} (h : f_150 R a0 hp = some q) : mjM (d + 1) 0 0 150 [.ref a0] hp (mjEq q) :=
  mjM_of Ja_150 (Nat.le_of_ble_eq_true rfl) (mjG.fg (lo' := [some (.ref a0)]) (And.intro rfl True.intro) ((t_150_0 hR (Nat.le_refl 0) (Nat.le_refl 0)) a0 hp q h))
def J_151 : mjI := (⟨"OwnerHeap$Reader", "readSetSign", "(I)Z"⟩, 8, prog_10_method_19_code, 4, (some .boolean), 1, false)
theorem Ja_151 : mjMt 151 = some J_151 := by rfl
theorem D_151_0 : decode J_151.2.2.1 0 = .ok (.aload_n 0, 1) := dzq_42 (by decide +kernel)
theorem D_151_1 : decode J_151.2.2.1 1 = .ok (.getfield 9, 3) := dzq_180 (by decide +kernel)
theorem D_151_4 : decode J_151.2.2.1 4 = .ok (.bipush 61, 2) := dzq_16 (by decide +kernel)
theorem D_151_6 : decode J_151.2.2.1 6 = .ok (.invokevirtual 53, 3) := dzq_182 (by decide +kernel)
theorem D_151_9 : decode J_151.2.2.1 9 = .ok (.ifCond .eq 17, 3) := dzq_153 (by decide +kernel)
theorem D_151_12 : decode J_151.2.2.1 12 = .ok (.iload_n 1, 1) := dzq_27 (by decide +kernel)
theorem D_151_13 : decode J_151.2.2.1 13 = .ok (.iconst 1, 1) := dzq_4 (by decide +kernel)
theorem D_151_14 : decode J_151.2.2.1 14 = .ok (.if_icmp .eq 8, 3) := dzq_159 (by decide +kernel)
theorem D_151_17 : decode J_151.2.2.1 17 = .ok (.iload_n 1, 1) := dzq_27 (by decide +kernel)
theorem D_151_18 : decode J_151.2.2.1 18 = .ok (.iconst 2, 1) := dzq_5 (by decide +kernel)
theorem D_151_19 : decode J_151.2.2.1 19 = .ok (.if_icmp .ne 7, 3) := dzq_160 (by decide +kernel)
theorem D_151_22 : decode J_151.2.2.1 22 = .ok (.iconst 1, 1) := dzq_4 (by decide +kernel)
theorem D_151_23 : decode J_151.2.2.1 23 = .ok (.goto 4, 3) := dzq_167 (by decide +kernel)
theorem D_151_26 : decode J_151.2.2.1 26 = .ok (.iconst 0, 1) := dzq_3 (by decide +kernel)
theorem D_151_27 : decode J_151.2.2.1 27 = .ok (.istore_n 2, 1) := dzq_61 (by decide +kernel)
theorem D_151_28 : decode J_151.2.2.1 28 = .ok (.aload_n 0, 1) := dzq_42 (by decide +kernel)
theorem D_151_29 : decode J_151.2.2.1 29 = .ok (.getfield 9, 3) := dzq_180 (by decide +kernel)
theorem D_151_32 : decode J_151.2.2.1 32 = .ok (.bipush 59, 2) := dzq_16 (by decide +kernel)
theorem D_151_34 : decode J_151.2.2.1 34 = .ok (.invokevirtual 53, 3) := dzq_182 (by decide +kernel)
theorem D_151_37 : decode J_151.2.2.1 37 = .ok (.ifCond .eq 12, 3) := dzq_153 (by decide +kernel)
theorem D_151_40 : decode J_151.2.2.1 40 = .ok (.iload_n 1, 1) := dzq_27 (by decide +kernel)
theorem D_151_41 : decode J_151.2.2.1 41 = .ok (.iconst 3, 1) := dzq_6 (by decide +kernel)
theorem D_151_42 : decode J_151.2.2.1 42 = .ok (.if_icmp .ne 7, 3) := dzq_160 (by decide +kernel)
theorem D_151_45 : decode J_151.2.2.1 45 = .ok (.iconst 1, 1) := dzq_4 (by decide +kernel)
theorem D_151_46 : decode J_151.2.2.1 46 = .ok (.goto 4, 3) := dzq_167 (by decide +kernel)
theorem D_151_49 : decode J_151.2.2.1 49 = .ok (.iconst 0, 1) := dzq_3 (by decide +kernel)
theorem D_151_50 : decode J_151.2.2.1 50 = .ok (.istore_n 3, 1) := dzq_62 (by decide +kernel)
theorem D_151_51 : decode J_151.2.2.1 51 = .ok (.iload_n 2, 1) := dzq_28 (by decide +kernel)
theorem D_151_52 : decode J_151.2.2.1 52 = .ok (.ifCond .eq 13, 3) := dzq_153 (by decide +kernel)
theorem D_151_55 : decode J_151.2.2.1 55 = .ok (.aload_n 0, 1) := dzq_42 (by decide +kernel)
theorem D_151_56 : decode J_151.2.2.1 56 = .ok (.getfield 9, 3) := dzq_180 (by decide +kernel)
theorem D_151_59 : decode J_151.2.2.1 59 = .ok (.invokevirtual 90, 3) := dzq_182 (by decide +kernel)
theorem D_151_62 : decode J_151.2.2.1 62 = .ok (.goto 15, 3) := dzq_167 (by decide +kernel)
theorem D_151_65 : decode J_151.2.2.1 65 = .ok (.iload_n 3, 1) := dzq_29 (by decide +kernel)
theorem D_151_66 : decode J_151.2.2.1 66 = .ok (.ifCond .ne 11, 3) := dzq_154 (by decide +kernel)
theorem D_151_69 : decode J_151.2.2.1 69 = .ok (.aload_n 0, 1) := dzq_42 (by decide +kernel)
theorem D_151_70 : decode J_151.2.2.1 70 = .ok (.getfield 9, 3) := dzq_180 (by decide +kernel)
theorem D_151_73 : decode J_151.2.2.1 73 = .ok (.iconst 2, 1) := dzq_5 (by decide +kernel)
theorem D_151_74 : decode J_151.2.2.1 74 = .ok (.invokevirtual 87, 3) := dzq_182 (by decide +kernel)
theorem D_151_77 : decode J_151.2.2.1 77 = .ok (.iload_n 2, 1) := dzq_28 (by decide +kernel)
theorem D_151_78 : decode J_151.2.2.1 78 = .ok (.ireturn, 1) := dzq_172 (by decide +kernel)
def P_151_77 (X : mjX) (d C S kc ks : Nat) (k : Int32 → mjH → mjU) : Prop := ∀ (l2 : Int32) (hp : mjH) (q : Option Value × mjH), k l2 hp = some q → mjG X d C S J_151 (mjEq q) 77 [none, none, some (.int l2), none] [] hp kc ks
def P_151_50 (X : mjX) (d C S kc ks : Nat) (k : Nat → Int32 → Int32 → mjH → mjU) : Prop := ∀ (l0 : Nat) (l2 : Int32) (s0 : Int32) (hp : mjH) (q : Option Value × mjH), k l0 l2 s0 hp = some q → mjG X d C S J_151 (mjEq q) 50 [some (.ref l0), none, some (.int l2), none] [.int s0] hp kc ks
def P_151_49 (X : mjX) (d C S kc ks : Nat) (k : Nat → Int32 → mjH → mjU) : Prop := ∀ (l0 : Nat) (l2 : Int32) (hp : mjH) (q : Option Value × mjH), k l0 l2 hp = some q → mjG X d C S J_151 (mjEq q) 49 [some (.ref l0), none, some (.int l2), none] [] hp kc ks
def P_151_27 (X : mjX) (d C S kc ks : Nat) (k : Nat → Int32 → Int32 → mjH → mjU) : Prop := ∀ (l0 : Nat) (l1 : Int32) (s0 : Int32) (hp : mjH) (q : Option Value × mjH), k l0 l1 s0 hp = some q → mjG X d C S J_151 (mjEq q) 27 [some (.ref l0), some (.int l1), none, none] [.int s0] hp kc ks
def P_151_26 (X : mjX) (d C S kc ks : Nat) (k : Nat → Int32 → mjH → mjU) : Prop := ∀ (l0 : Nat) (l1 : Int32) (hp : mjH) (q : Option Value × mjH), k l0 l1 hp = some q → mjG X d C S J_151 (mjEq q) 26 [some (.ref l0), some (.int l1), none, none] [] hp kc ks
def P_151_22 (X : mjX) (d C S kc ks : Nat) (k : Nat → Int32 → mjH → mjU) : Prop := ∀ (l0 : Nat) (l1 : Int32) (hp : mjH) (q : Option Value × mjH), k l0 l1 hp = some q → mjG X d C S J_151 (mjEq q) 22 [some (.ref l0), some (.int l1), none, none] [] hp kc ks
def P_151_0 (X : mjX) (d C S kc ks : Nat) (k : Nat → Int32 → mjH → mjU) : Prop := ∀ (l0 : Nat) (l1 : Int32) (hp : mjH) (q : Option Value × mjH), k l0 l1 hp = some q → mjG X d C S J_151 (mjEq q) 0 [some (.ref l0), some (.int l1), none, none] [] hp kc ks
noncomputable def b_151_77 (R : mjR) (l2 : Int32) (hp : mjH) : mjU := (if narrow .boolean (.int l2) = .int l2 then some (some (.int l2), hp) else none)
theorem t_151_77 {X : mjX} {d C S kc ks : Nat} {R : mjR} (hR : mjC R d) (h1 : kc ≤ C) (h2 : ks ≤ S) : P_151_77 X (d + 1) C S kc ks (b_151_77 R) := by
  intro l2 hp q h
  unfold b_151_77 at h
  refine mjr_iload_n (x := l2) D_151_77 rfl ?_
  exact mjq_retZ (ty := .boolean) D_151_78 rfl h1 h2 h
noncomputable def b_151_50 (R : mjR) (l0 : Nat) (l2 : Int32) (s0 : Int32) (hp : mjH) : mjU := (if l2 = 0 then (if s0 = 0 then gR hp l0 8 0 (fun v1 => rV hp v1 9 (bN (R 165 [.ref v1, .int (2 : Int32)] hp) (fun  hp2 => b_151_77 R l2 hp2))) else b_151_77 R l2 hp) else gR hp l0 8 0 (fun v3 => rV hp v3 9 (bN (R 166 [.ref v3] hp) (fun  hp4 => b_151_77 R l2 hp4))))
theorem t_151_50 {X : mjX} {d C S kc ks : Nat} {R : mjR} (hR : mjC R d) (h1 : kc ≤ C) (h2 : ks ≤ S) : P_151_50 X (d + 1) C S kc ks (b_151_50 R) := by
  intro l0 l2 s0 hp q h
  unfold b_151_50 at h
  refine mjq_istore_n (lo' := [some (.ref l0), none, some (.int l2), some (.int s0)]) D_151_50 (Nat.le_of_ble_eq_true rfl) rfl ?_
  refine mjr_iload_n (x := l2) D_151_51 rfl ?_
  refine mjq_if_eq (tgt := 65) D_151_52 rfl h (fun h => ?_) (fun h => ?_)
  · refine mjr_iload_n (x := s0) D_151_65 rfl ?_
    refine mjq_if_ne (tgt := 77) D_151_66 rfl h (fun h => ?_) (fun h => ?_)
    · exact mjG.fg (lo' := [none, none, some (.int l2), none]) (And.intro rfl True.intro) ((t_151_77 hR h1 h2) _ _ _ h)
    · refine mjr_aload_n (x := l0) D_151_69 rfl ?_
      refine mjq_gR D_151_70 fr_8_9 h (fun v1 h => ?_)
      refine mjq_ic (v := (2 : Int32)) D_151_73 rfl ?_
      refine mjq_vN (As := [.int (2 : Int32)]) (rest := []) D_151_74 mr_8_87 V_165 rfl rfl rfl hR (Nat.le_refl _) h1 h2 h (fun  hp2 h => ?_)
      exact mjG.fg (lo' := [none, none, some (.int l2), none]) (And.intro rfl True.intro) ((t_151_77 hR h1 h2) _ _ _ h)
  · refine mjr_aload_n (x := l0) D_151_55 rfl ?_
    refine mjq_gR D_151_56 fr_8_9 h (fun v3 h => ?_)
    refine mjq_vN (As := []) (rest := []) D_151_59 mr_8_90 V_166 rfl rfl rfl hR (Nat.le_refl _) h1 h2 h (fun  hp4 h => ?_)
    refine mjr_goto (tgt := 77) D_151_62 rfl ?_
    exact mjG.fg (lo' := [none, none, some (.int l2), none]) (And.intro rfl True.intro) ((t_151_77 hR h1 h2) _ _ _ h)
noncomputable def b_151_49 (R : mjR) (l0 : Nat) (l2 : Int32) (hp : mjH) : mjU := b_151_50 R l0 l2 (0 : Int32) hp
theorem t_151_49 {X : mjX} {d C S kc ks : Nat} {R : mjR} (hR : mjC R d) (h1 : kc ≤ C) (h2 : ks ≤ S) : P_151_49 X (d + 1) C S kc ks (b_151_49 R) := by
  intro l0 l2 hp q h
  unfold b_151_49 at h
  refine mjq_ic (v := (0 : Int32)) D_151_49 rfl ?_
  exact (t_151_50 hR h1 h2) _ _ _ _ _ h
noncomputable def b_151_27 (R : mjR) (l0 : Nat) (l1 : Int32) (s0 : Int32) (hp : mjH) : mjU := gR hp l0 8 0 (fun v1 => rV hp v1 9 (bI (R 164 [.ref v1, .int (59 : Int32)] hp) (fun v2 hp3 => (if v2 = 0 then b_151_49 R l0 s0 hp3 else (if l1 = (3 : Int32) then b_151_50 R l0 s0 (1 : Int32) hp3 else b_151_49 R l0 s0 hp3)))))
theorem t_151_27 {X : mjX} {d C S kc ks : Nat} {R : mjR} (hR : mjC R d) (h1 : kc ≤ C) (h2 : ks ≤ S) : P_151_27 X (d + 1) C S kc ks (b_151_27 R) := by
  intro l0 l1 s0 hp q h
  unfold b_151_27 at h
  refine mjq_istore_n (lo' := [some (.ref l0), some (.int l1), some (.int s0), none]) D_151_27 (Nat.le_of_ble_eq_true rfl) rfl ?_
  refine mjr_aload_n (x := l0) D_151_28 rfl ?_
  refine mjq_gR D_151_29 fr_8_9 h (fun v1 h => ?_)
  refine mjq_bi (v := (59 : Int32)) D_151_32 rfl ?_
  refine mjq_vI (As := [.int (59 : Int32)]) (rest := []) D_151_34 mr_8_53 V_164 rfl rfl rfl hR (Nat.le_refl _) h1 h2 h (fun v2 hp3 h => ?_)
  refine mjq_if_eq (tgt := 49) D_151_37 rfl h (fun h => ?_) (fun h => ?_)
  · exact mjG.fg (lo' := [some (.ref l0), none, some (.int s0), none]) (And.intro rfl (And.intro rfl True.intro)) ((t_151_49 hR h1 h2) _ _ _ _ h)
  · refine mjr_iload_n (x := l1) D_151_40 rfl ?_
    refine mjq_ic (v := (3 : Int32)) D_151_41 rfl ?_
    refine mjq_icmp_ne (tgt := 49) D_151_42 rfl h (fun h => ?_) (fun h => ?_)
    · exact mjG.fg (lo' := [some (.ref l0), none, some (.int s0), none]) (And.intro rfl (And.intro rfl True.intro)) ((t_151_49 hR h1 h2) _ _ _ _ h)
    · refine mjq_ic (v := (1 : Int32)) D_151_45 rfl ?_
      refine mjr_goto (tgt := 50) D_151_46 rfl ?_
      exact mjG.fg (lo' := [some (.ref l0), none, some (.int s0), none]) (And.intro rfl (And.intro rfl True.intro)) ((t_151_50 hR h1 h2) _ _ _ _ _ h)
noncomputable def b_151_26 (R : mjR) (l0 : Nat) (l1 : Int32) (hp : mjH) : mjU := b_151_27 R l0 l1 (0 : Int32) hp
theorem t_151_26 {X : mjX} {d C S kc ks : Nat} {R : mjR} (hR : mjC R d) (h1 : kc ≤ C) (h2 : ks ≤ S) : P_151_26 X (d + 1) C S kc ks (b_151_26 R) := by
  intro l0 l1 hp q h
  unfold b_151_26 at h
  refine mjq_ic (v := (0 : Int32)) D_151_26 rfl ?_
  exact (t_151_27 hR h1 h2) _ _ _ _ _ h
noncomputable def b_151_22 (R : mjR) (l0 : Nat) (l1 : Int32) (hp : mjH) : mjU := b_151_27 R l0 l1 (1 : Int32) hp
theorem t_151_22 {X : mjX} {d C S kc ks : Nat} {R : mjR} (hR : mjC R d) (h1 : kc ≤ C) (h2 : ks ≤ S) : P_151_22 X (d + 1) C S kc ks (b_151_22 R) := by
  intro l0 l1 hp q h
  unfold b_151_22 at h
  refine mjq_ic (v := (1 : Int32)) D_151_22 rfl ?_
  refine mjr_goto (tgt := 27) D_151_23 rfl ?_
  exact (t_151_27 hR h1 h2) _ _ _ _ _ h
noncomputable def b_151_0 (R : mjR) (l0 : Nat) (l1 : Int32) (hp : mjH) : mjU := gR hp l0 8 0 (fun v1 => rV hp v1 9 (bI (R 164 [.ref v1, .int (61 : Int32)] hp) (fun v2 hp3 => (if v2 = 0 then b_151_26 R l0 l1 hp3 else (if l1 = (1 : Int32) then b_151_22 R l0 l1 hp3 else (if l1 = (2 : Int32) then b_151_22 R l0 l1 hp3 else b_151_26 R l0 l1 hp3))))))
theorem t_151_0 {X : mjX} {d C S kc ks : Nat} {R : mjR} (hR : mjC R d) (h1 : kc ≤ C) (h2 : ks ≤ S) : P_151_0 X (d + 1) C S kc ks (b_151_0 R) := by
  intro l0 l1 hp q h
  unfold b_151_0 at h
  refine mjr_aload_n (x := l0) D_151_0 rfl ?_
  refine mjq_gR D_151_1 fr_8_9 h (fun v1 h => ?_)
  refine mjq_bi (v := (61 : Int32)) D_151_4 rfl ?_
  refine mjq_vI (As := [.int (61 : Int32)]) (rest := []) D_151_6 mr_8_53 V_164 rfl rfl rfl hR (Nat.le_refl _) h1 h2 h (fun v2 hp3 h => ?_)
  refine mjq_if_eq (tgt := 26) D_151_9 rfl h (fun h => ?_) (fun h => ?_)
  · exact (t_151_26 hR h1 h2) _ _ _ _ h
  · refine mjr_iload_n (x := l1) D_151_12 rfl ?_
    refine mjq_ic (v := (1 : Int32)) D_151_13 rfl ?_
    refine mjq_icmp_eq (tgt := 22) D_151_14 rfl h (fun h => ?_) (fun h => ?_)
    · exact (t_151_22 hR h1 h2) _ _ _ _ h
    · refine mjr_iload_n (x := l1) D_151_17 rfl ?_
      refine mjq_ic (v := (2 : Int32)) D_151_18 rfl ?_
      refine mjq_icmp_ne (tgt := 26) D_151_19 rfl h (fun h => ?_) (fun h => ?_)
      · exact (t_151_26 hR h1 h2) _ _ _ _ h
      · exact (t_151_22 hR h1 h2) _ _ _ _ h
noncomputable def f_151 (R : mjR) (a0 : Nat) (a1 : Int32) (hp : mjH) : mjU := b_151_0 R a0 a1 hp
theorem c_151 {R : mjR} {d : Nat} (hR : mjC R d) {a0 : Nat} {a1 : Int32} {hp : mjH} {q : Option Value × mjH} (h : f_151 R a0 a1 hp = some q) : mjM (d + 1) 0 0 151 [.ref a0, .int a1] hp (mjEq q) :=
  mjM_of Ja_151 (Nat.le_of_ble_eq_true rfl) (mjG.fg (lo' := [some (.ref a0), some (.int a1), none, none]) (And.intro rfl (And.intro rfl True.intro)) ((t_151_0 hR (Nat.le_refl 0) (Nat.le_refl 0)) a0 a1 hp q h))
def J_152 : mjI := (⟨"OwnerHeap$Tokens", "<init>", "()V"⟩, 9, prog_11_method_1_code, 3, none, 0, false)
theorem Ja_152 : mjMt 152 = some J_152 := by rfl
theorem D_152_48 : decode J_152.2.2.1 48 = .ok (.iconst 0, 1) := dzq_3 (by decide +kernel)
theorem D_152_49 : decode J_152.2.2.1 49 = .ok (.istore_n 1, 1) := dzq_60 (by decide +kernel)
theorem D_152_50 : decode J_152.2.2.1 50 = .ok (.iconst 0, 1) := dzq_3 (by decide +kernel)
theorem D_152_51 : decode J_152.2.2.1 51 = .ok (.istore_n 2, 1) := dzq_61 (by decide +kernel)
theorem D_152_52 : decode J_152.2.2.1 52 = .ok (.iload_n 2, 1) := dzq_28 (by decide +kernel)
theorem D_152_53 : decode J_152.2.2.1 53 = .ok (.ldc 28, 2) := by decide +kernel
theorem D_152_55 : decode J_152.2.2.1 55 = .ok (.invokevirtual 30, 3) := dzq_182 (by decide +kernel)
theorem D_152_58 : decode J_152.2.2.1 58 = .ok (.if_icmp .ge 53, 3) := dzq_162 (by decide +kernel)
theorem D_152_61 : decode J_152.2.2.1 61 = .ok (.iload_n 1, 1) := dzq_27 (by decide +kernel)
theorem D_152_62 : decode J_152.2.2.1 62 = .ok (.bipush 16, 2) := dzq_16 (by decide +kernel)
theorem D_152_64 : decode J_152.2.2.1 64 = .ok (.if_icmp .ge 47, 3) := dzq_162 (by decide +kernel)
theorem D_152_67 : decode J_152.2.2.1 67 = .ok (.ldc 28, 2) := by decide +kernel
theorem D_152_69 : decode J_152.2.2.1 69 = .ok (.iload_n 2, 1) := dzq_28 (by decide +kernel)
theorem D_152_70 : decode J_152.2.2.1 70 = .ok (.invokevirtual 36, 3) := dzq_182 (by decide +kernel)
theorem D_152_73 : decode J_152.2.2.1 73 = .ok (.bipush 32, 2) := dzq_16 (by decide +kernel)
theorem D_152_75 : decode J_152.2.2.1 75 = .ok (.if_icmp .ne 9, 3) := dzq_160 (by decide +kernel)
theorem D_152_78 : decode J_152.2.2.1 78 = .ok (.iinc 1 1, 3) := dzq_132 (by decide +kernel)
theorem D_152_81 : decode J_152.2.2.1 81 = .ok (.goto 24, 3) := dzq_167 (by decide +kernel)
theorem D_152_84 : decode J_152.2.2.1 84 = .ok (.aload_n 0, 1) := dzq_42 (by decide +kernel)
theorem D_152_85 : decode J_152.2.2.1 85 = .ok (.getfield 11, 3) := dzq_180 (by decide +kernel)
theorem D_152_88 : decode J_152.2.2.1 88 = .ok (.iload_n 1, 1) := dzq_27 (by decide +kernel)
theorem D_152_89 : decode J_152.2.2.1 89 = .ok (.aload_n 0, 1) := dzq_42 (by decide +kernel)
theorem D_152_90 : decode J_152.2.2.1 90 = .ok (.getfield 11, 3) := dzq_180 (by decide +kernel)
theorem D_152_93 : decode J_152.2.2.1 93 = .ok (.iload_n 1, 1) := dzq_27 (by decide +kernel)
theorem D_152_94 : decode J_152.2.2.1 94 = .ok (.laload, 1) := dzq_47 (by decide +kernel)
theorem D_152_95 : decode J_152.2.2.1 95 = .ok (.ldc 28, 2) := by decide +kernel
theorem D_152_97 : decode J_152.2.2.1 97 = .ok (.iload_n 2, 1) := dzq_28 (by decide +kernel)
theorem D_152_98 : decode J_152.2.2.1 98 = .ok (.invokevirtual 36, 3) := dzq_182 (by decide +kernel)
theorem D_152_101 : decode J_152.2.2.1 101 = .ok (.invokestatic 40, 3) := dzq_184 (by decide +kernel)
theorem D_152_104 : decode J_152.2.2.1 104 = .ok (.lastore, 1) := by decide +kernel
theorem D_152_105 : decode J_152.2.2.1 105 = .ok (.iinc 2 1, 3) := dzq_132 (by decide +kernel)
theorem D_152_108 : decode J_152.2.2.1 108 = .ok (.goto (-56), 3) := dzq_167 (by decide +kernel)
theorem D_152_111 : decode J_152.2.2.1 111 = .ok (.return_, 1) := dzq_177 (by decide +kernel)
def P_152_105 (X : mjX) (d C S kc ks : Nat) (k : Nat → Int32 → Int32 → mjH → mjU) : Prop := ∀ (l0 : Nat) (l1 : Int32) (l2 : Int32) (hp : mjH) (q : Option Value × mjH), k l0 l1 l2 hp = some q → mjG X d C S J_152 (mjEq q) 105 [some (.ref l0), some (.int l1), some (.int l2)] [] hp kc ks
def P_152_52 (X : mjX) (d C S kc ks : Nat) (k : Nat → Int32 → Int32 → mjH → mjU) : Prop := ∀ (l0 : Nat) (l1 : Int32) (l2 : Int32) (hp : mjH) (q : Option Value × mjH), k l0 l1 l2 hp = some q → mjG X d C S J_152 (mjEq q) 52 [some (.ref l0), some (.int l1), some (.int l2)] [] hp kc ks
def P_152_48 (X : mjX) (d C S kc ks : Nat) (k : Nat → mjH → mjU) : Prop := ∀ (l0 : Nat) (hp : mjH) (q : Option Value × mjH), k l0 hp = some q → mjG X d C S J_152 (mjEq q) 48 [some (.ref l0), none, none] [] hp kc ks
noncomputable def b_152_105 (R : mjR) (k52 : Nat → Int32 → Int32 → mjH → mjU) (l0 : Nat) (l1 : Int32) (l2 : Int32) (hp : mjH) : mjU := k52 l0 l1 (l2 + (1 : Int32)) hp
theorem t_152_105 {X : mjX} {d C S kc ks : Nat} {R : mjR} (hR : mjC R d) (h1 : kc ≤ C) (h2 : ks ≤ S) {k52 : Nat → Int32 → Int32 → mjH → mjU} (hk52 : P_152_52 X (d + 1) C S kc ks k52) : P_152_105 X (d + 1) C S kc ks (b_152_105 R k52) := by
  intro l0 l1 l2 hp q h
  unfold b_152_105 at h
  refine mjq_iinc (x := l2) (c := (1 : Int32)) (lo' := [some (.ref l0), some (.int l1), some (.int (l2 + (1 : Int32)))]) D_152_105 rfl (Nat.le_of_ble_eq_true rfl) rfl rfl ?_
  refine mjr_goto (tgt := 52) D_152_108 rfl ?_
  exact hk52 _ _ _ _ _ h
noncomputable def b_152_52 (R : mjR) (k52 : Nat → Int32 → Int32 → mjH → mjU) (l0 : Nat) (l1 : Int32) (l2 : Int32) (hp : mjH) : mjU := rS 1000000 (bI (R 356 [.ref 1000000] hp) (fun v1 hp2 => (if v1 ≤ l2 then some (none, hp2) else (if (16 : Int32) ≤ l1 then some (none, hp2) else rS 1000000 (bI (R 358 [.ref 1000000, .int l2] hp2) (fun v3 hp4 => (if v3 = (32 : Int32) then b_152_105 R k52 l0 (l1 + (1 : Int32)) l2 hp4 else gR hp4 l0 9 0 (fun v5 => gR hp4 l0 9 0 (fun v6 => aL hp4 v6 l1 (fun v7 => rS 1000000 (bI (R 358 [.ref 1000000, .int l2] hp4) (fun v8 hp9 => bL (R 153 [.long v7, .int v8] hp9) (fun v10 hp11 => sL hp11 v5 l1 v10 (fun hp12 => b_152_105 R k52 l0 l1 l2 hp12))))))))))))))
theorem t_152_52 {X : mjX} {d C S kc ks : Nat} {R : mjR} (hR : mjC R d) (h1 : kc ≤ C) (h2 : ks ≤ S) {k52 : Nat → Int32 → Int32 → mjH → mjU} (hk52 : P_152_52 X (d + 1) C S kc ks k52) : P_152_52 X (d + 1) C S kc ks (b_152_52 R k52) := by
  intro l0 l1 l2 hp q h
  unfold b_152_52 at h
  refine mjr_iload_n (x := l2) D_152_52 rfl ?_
  refine mjq_ldS (i := 0) (v := 1000000) D_152_53 (by decide +kernel) rfl ?_
  refine mjq_wI (As := []) (rest := [.int l2]) D_152_55 mr_9_30 V_356 rfl rfl rfl hR (Nat.le_refl _) h1 h2 h (fun v1 hp2 h => ?_)
  refine mjq_icmp_ge (tgt := 111) D_152_58 rfl h (fun h => ?_) (fun h => ?_)
  · exact mjq_nret D_152_111 rfl h1 h2 h
  · refine mjr_iload_n (x := l1) D_152_61 rfl ?_
    refine mjq_bi (v := (16 : Int32)) D_152_62 rfl ?_
    refine mjq_icmp_ge (tgt := 111) D_152_64 rfl h (fun h => ?_) (fun h => ?_)
    · exact mjq_nret D_152_111 rfl h1 h2 h
    · refine mjq_ldS (i := 0) (v := 1000000) D_152_67 (by decide +kernel) rfl ?_
      refine mjr_iload_n (x := l2) D_152_69 rfl ?_
      refine mjq_wI (As := [.int l2]) (rest := []) D_152_70 mr_9_36 V_358 rfl rfl rfl hR (Nat.le_refl _) h1 h2 h (fun v3 hp4 h => ?_)
      refine mjq_bi (v := (32 : Int32)) D_152_73 rfl ?_
      refine mjq_icmp_ne (tgt := 84) D_152_75 rfl h (fun h => ?_) (fun h => ?_)
      · refine mjr_aload_n (x := l0) D_152_84 rfl ?_
        refine mjq_gR D_152_85 fr_9_11 h (fun v5 h => ?_)
        refine mjr_iload_n (x := l1) D_152_88 rfl ?_
        refine mjr_aload_n (x := l0) D_152_89 rfl ?_
        refine mjq_gR D_152_90 fr_9_11 h (fun v6 h => ?_)
        refine mjr_iload_n (x := l1) D_152_93 rfl ?_
        refine mjq_aL D_152_94 h (fun v7 h => ?_)
        refine mjq_ldS (i := 0) (v := 1000000) D_152_95 (by decide +kernel) rfl ?_
        refine mjr_iload_n (x := l2) D_152_97 rfl ?_
        refine mjq_wI (As := [.int l2]) (rest := [.long v7, .int l1, .ref v5]) D_152_98 mr_9_36 V_358 rfl rfl rfl hR (Nat.le_refl _) h1 h2 h (fun v8 hp9 h => ?_)
        refine mjq_scL (As := [.long v7, .int v8]) (rest := [.int l1, .ref v5]) D_152_101 mr_9_40 V_153 rfl rfl rfl hR (Nat.le_refl _) h1 h2 h (fun v10 hp11 h => ?_)
        refine mjq_sL D_152_104 h (fun hp12 h => ?_)
        exact (t_152_105 hR h1 h2 hk52) _ _ _ _ _ h
      · refine mjq_iinc (x := l1) (c := (1 : Int32)) (lo' := [some (.ref l0), some (.int (l1 + (1 : Int32))), some (.int l2)]) D_152_78 rfl (Nat.le_of_ble_eq_true rfl) rfl rfl ?_
        refine mjr_goto (tgt := 105) D_152_81 rfl ?_
        exact (t_152_105 hR h1 h2 hk52) _ _ _ _ _ h
noncomputable def L_152_52 (R : mjR) (n : Nat) : Nat → Int32 → Int32 → mjH → mjU := Nat.rec (motive := fun _ => Nat → Int32 → Int32 → mjH → mjU) (fun _ _ _ _ => none) (fun _ self => b_152_52 R self) n
theorem T_152_52 {X : mjX} {d C S kc ks : Nat} {R : mjR} (hR : mjC R d) (h1 : kc ≤ C) (h2 : ks ≤ S) (n : Nat) : P_152_52 X (d + 1) C S kc ks (L_152_52 R n) := by
  induction n with
  | zero => intro _ _ _ _ _ h; exact mj_no h
  | succ n ih => exact t_152_52 hR h1 h2 ih
noncomputable def b_152_48 (R : mjR) (l0 : Nat) (hp : mjH) : mjU := L_152_52 R mjN l0 (0 : Int32) (0 : Int32) hp
theorem t_152_48 {X : mjX} {d C S kc ks : Nat} {R : mjR} (hR : mjC R d) (h1 : kc ≤ C) (h2 : ks ≤ S) : P_152_48 X (d + 1) C S kc ks (b_152_48 R) := by
  intro l0 hp q h
  unfold b_152_48 at h
  refine mjq_ic (v := (0 : Int32)) D_152_48 rfl ?_
  refine mjq_istore_n (lo' := [some (.ref l0), some (.int (0 : Int32)), none]) D_152_49 (Nat.le_of_ble_eq_true rfl) rfl ?_
  refine mjq_ic (v := (0 : Int32)) D_152_50 rfl ?_
  refine mjq_istore_n (lo' := [some (.ref l0), some (.int (0 : Int32)), some (.int (0 : Int32))]) D_152_51 (Nat.le_of_ble_eq_true rfl) rfl ?_
  exact (T_152_52 hR h1 h2 mjN) _ _ _ _ _ h
