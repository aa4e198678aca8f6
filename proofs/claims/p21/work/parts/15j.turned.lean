def J_300 : mjI := (⟨"OwnerHeapModel", "judgeOwnNames", "(II)V"⟩, 12, prog_14_method_52_code, 5, none, 2, false)
theorem Ja_300 : mjMt 300 = some J_300 := by rfl
theorem D_300_0 : decode J_300.2.2.1 0 = .ok (.iload_n 2, 1) := dzq_28 (by decide +kernel)
theorem D_300_1 : decode J_300.2.2.1 1 = .ok (.istore_n 3, 1) := dzq_62 (by decide +kernel)
theorem D_300_2 : decode J_300.2.2.1 2 = .ok (.iload_n 3, 1) := dzq_29 (by decide +kernel)
theorem D_300_3 : decode J_300.2.2.1 3 = .ok (.iload_n 1, 1) := dzq_27 (by decide +kernel)
theorem D_300_4 : decode J_300.2.2.1 4 = .ok (.if_icmp .ge 36, 3) := dzq_162 (by decide +kernel)
theorem D_300_7 : decode J_300.2.2.1 7 = .ok (.aload_n 0, 1) := dzq_42 (by decide +kernel)
theorem D_300_8 : decode J_300.2.2.1 8 = .ok (.getfield 21, 3) := dzq_180 (by decide +kernel)
theorem D_300_11 : decode J_300.2.2.1 11 = .ok (.iload_n 3, 1) := dzq_29 (by decide +kernel)
theorem D_300_12 : decode J_300.2.2.1 12 = .ok (.laload, 1) := dzq_47 (by decide +kernel)
theorem D_300_13 : decode J_300.2.2.1 13 = .ok (.aload_n 0, 1) := dzq_42 (by decide +kernel)
theorem D_300_14 : decode J_300.2.2.1 14 = .ok (.getfield 21, 3) := dzq_180 (by decide +kernel)
theorem D_300_17 : decode J_300.2.2.1 17 = .ok (.iload_n 1, 1) := dzq_27 (by decide +kernel)
theorem D_300_18 : decode J_300.2.2.1 18 = .ok (.laload, 1) := dzq_47 (by decide +kernel)
theorem D_300_19 : decode J_300.2.2.1 19 = .ok (.lcmp, 1) := by decide +kernel
theorem D_300_20 : decode J_300.2.2.1 20 = .ok (.ifCond .ne 14, 3) := dzq_154 (by decide +kernel)
theorem D_300_23 : decode J_300.2.2.1 23 = .ok (.aload_n 0, 1) := dzq_42 (by decide +kernel)
theorem D_300_24 : decode J_300.2.2.1 24 = .ok (.iconst 4, 1) := dzq_7 (by decide +kernel)
theorem D_300_25 : decode J_300.2.2.1 25 = .ok (.aload_n 0, 1) := dzq_42 (by decide +kernel)
theorem D_300_26 : decode J_300.2.2.1 26 = .ok (.getfield 24, 3) := dzq_180 (by decide +kernel)
theorem D_300_29 : decode J_300.2.2.1 29 = .ok (.iload_n 1, 1) := dzq_27 (by decide +kernel)
theorem D_300_30 : decode J_300.2.2.1 30 = .ok (.iaload, 1) := dzq_46 (by decide +kernel)
theorem D_300_31 : decode J_300.2.2.1 31 = .ok (.invokevirtual 339, 3) := dzq_182 (by decide +kernel)
theorem D_300_34 : decode J_300.2.2.1 34 = .ok (.iinc 3 1, 3) := dzq_132 (by decide +kernel)
theorem D_300_37 : decode J_300.2.2.1 37 = .ok (.goto (-35), 3) := dzq_167 (by decide +kernel)
theorem D_300_40 : decode J_300.2.2.1 40 = .ok (.iconst 0, 1) := dzq_3 (by decide +kernel)
theorem D_300_41 : decode J_300.2.2.1 41 = .ok (.istore_n 3, 1) := dzq_62 (by decide +kernel)
theorem D_300_42 : decode J_300.2.2.1 42 = .ok (.iload_n 3, 1) := dzq_29 (by decide +kernel)
theorem D_300_43 : decode J_300.2.2.1 43 = .ok (.aload_n 0, 1) := dzq_42 (by decide +kernel)
theorem D_300_44 : decode J_300.2.2.1 44 = .ok (.getfield 30, 3) := dzq_180 (by decide +kernel)
theorem D_300_47 : decode J_300.2.2.1 47 = .ok (.iload_n 1, 1) := dzq_27 (by decide +kernel)
theorem D_300_48 : decode J_300.2.2.1 48 = .ok (.iaload, 1) := dzq_46 (by decide +kernel)
theorem D_300_49 : decode J_300.2.2.1 49 = .ok (.if_icmp .ge 64, 3) := dzq_162 (by decide +kernel)
theorem D_300_52 : decode J_300.2.2.1 52 = .ok (.iconst 0, 1) := dzq_3 (by decide +kernel)
theorem D_300_53 : decode J_300.2.2.1 53 = .ok (.istore 4, 2) := dzq_54 (by decide +kernel)
theorem D_300_55 : decode J_300.2.2.1 55 = .ok (.iload 4, 2) := dzq_21 (by decide +kernel)
theorem D_300_57 : decode J_300.2.2.1 57 = .ok (.iload_n 3, 1) := dzq_29 (by decide +kernel)
theorem D_300_58 : decode J_300.2.2.1 58 = .ok (.if_icmp .ge 49, 3) := dzq_162 (by decide +kernel)
theorem D_300_61 : decode J_300.2.2.1 61 = .ok (.aload_n 0, 1) := dzq_42 (by decide +kernel)
theorem D_300_62 : decode J_300.2.2.1 62 = .ok (.getfield 51, 3) := dzq_180 (by decide +kernel)
theorem D_300_65 : decode J_300.2.2.1 65 = .ok (.iconst 5, 1) := dzq_8 (by decide +kernel)
theorem D_300_66 : decode J_300.2.2.1 66 = .ok (.iload_n 1, 1) := dzq_27 (by decide +kernel)
theorem D_300_67 : decode J_300.2.2.1 67 = .ok (.imul, 1) := dzq_104 (by decide +kernel)
theorem D_300_68 : decode J_300.2.2.1 68 = .ok (.iload_n 3, 1) := dzq_29 (by decide +kernel)
theorem D_300_69 : decode J_300.2.2.1 69 = .ok (.iadd, 1) := dzq_96 (by decide +kernel)
theorem D_300_70 : decode J_300.2.2.1 70 = .ok (.laload, 1) := dzq_47 (by decide +kernel)
theorem D_300_71 : decode J_300.2.2.1 71 = .ok (.aload_n 0, 1) := dzq_42 (by decide +kernel)
theorem D_300_72 : decode J_300.2.2.1 72 = .ok (.getfield 51, 3) := dzq_180 (by decide +kernel)
theorem D_300_75 : decode J_300.2.2.1 75 = .ok (.iconst 5, 1) := dzq_8 (by decide +kernel)
theorem D_300_76 : decode J_300.2.2.1 76 = .ok (.iload_n 1, 1) := dzq_27 (by decide +kernel)
theorem D_300_77 : decode J_300.2.2.1 77 = .ok (.imul, 1) := dzq_104 (by decide +kernel)
theorem D_300_78 : decode J_300.2.2.1 78 = .ok (.iload 4, 2) := dzq_21 (by decide +kernel)
theorem D_300_80 : decode J_300.2.2.1 80 = .ok (.iadd, 1) := dzq_96 (by decide +kernel)
theorem D_300_81 : decode J_300.2.2.1 81 = .ok (.laload, 1) := dzq_47 (by decide +kernel)
theorem D_300_82 : decode J_300.2.2.1 82 = .ok (.lcmp, 1) := by decide +kernel
theorem D_300_83 : decode J_300.2.2.1 83 = .ok (.ifCond .ne 18, 3) := dzq_154 (by decide +kernel)
theorem D_300_86 : decode J_300.2.2.1 86 = .ok (.aload_n 0, 1) := dzq_42 (by decide +kernel)
theorem D_300_87 : decode J_300.2.2.1 87 = .ok (.iconst 4, 1) := dzq_7 (by decide +kernel)
theorem D_300_88 : decode J_300.2.2.1 88 = .ok (.aload_n 0, 1) := dzq_42 (by decide +kernel)
theorem D_300_89 : decode J_300.2.2.1 89 = .ok (.getfield 54, 3) := dzq_180 (by decide +kernel)
theorem D_300_92 : decode J_300.2.2.1 92 = .ok (.iconst 5, 1) := dzq_8 (by decide +kernel)
theorem D_300_93 : decode J_300.2.2.1 93 = .ok (.iload_n 1, 1) := dzq_27 (by decide +kernel)
theorem D_300_94 : decode J_300.2.2.1 94 = .ok (.imul, 1) := dzq_104 (by decide +kernel)
theorem D_300_95 : decode J_300.2.2.1 95 = .ok (.iload_n 3, 1) := dzq_29 (by decide +kernel)
theorem D_300_96 : decode J_300.2.2.1 96 = .ok (.iadd, 1) := dzq_96 (by decide +kernel)
theorem D_300_97 : decode J_300.2.2.1 97 = .ok (.iaload, 1) := dzq_46 (by decide +kernel)
theorem D_300_98 : decode J_300.2.2.1 98 = .ok (.invokevirtual 339, 3) := dzq_182 (by decide +kernel)
theorem D_300_101 : decode J_300.2.2.1 101 = .ok (.iinc 4 1, 3) := dzq_132 (by decide +kernel)
theorem D_300_104 : decode J_300.2.2.1 104 = .ok (.goto (-49), 3) := dzq_167 (by decide +kernel)
theorem D_300_107 : decode J_300.2.2.1 107 = .ok (.iinc 3 1, 3) := dzq_132 (by decide +kernel)
theorem D_300_110 : decode J_300.2.2.1 110 = .ok (.goto (-68), 3) := dzq_167 (by decide +kernel)
theorem D_300_113 : decode J_300.2.2.1 113 = .ok (.return_, 1) := dzq_177 (by decide +kernel)
def P_300_101 (X : mjX) (d C S kc ks : Nat) (k : Nat → Int32 → Int32 → Int32 → mjH → mjU) : Prop := ∀ (l0 : Nat) (l1 : Int32) (l3 : Int32) (l4 : Int32) (hp : mjH) (q : Option Value × mjH), k l0 l1 l3 l4 hp = some q → mjG X d C S J_300 (mjEq q) 101 [some (.ref l0), some (.int l1), none, some (.int l3), some (.int l4)] [] hp kc ks
def P_300_55 (X : mjX) (d C S kc ks : Nat) (k : Nat → Int32 → Int32 → Int32 → mjH → mjU) : Prop := ∀ (l0 : Nat) (l1 : Int32) (l3 : Int32) (l4 : Int32) (hp : mjH) (q : Option Value × mjH), k l0 l1 l3 l4 hp = some q → mjG X d C S J_300 (mjEq q) 55 [some (.ref l0), some (.int l1), none, some (.int l3), some (.int l4)] [] hp kc ks
def P_300_42 (X : mjX) (d C S kc ks : Nat) (k : Nat → Int32 → Int32 → mjH → mjU) : Prop := ∀ (l0 : Nat) (l1 : Int32) (l3 : Int32) (hp : mjH) (q : Option Value × mjH), k l0 l1 l3 hp = some q → mjG X d C S J_300 (mjEq q) 42 [some (.ref l0), some (.int l1), none, some (.int l3), none] [] hp kc ks
def P_300_34 (X : mjX) (d C S kc ks : Nat) (k : Nat → Int32 → Int32 → mjH → mjU) : Prop := ∀ (l0 : Nat) (l1 : Int32) (l3 : Int32) (hp : mjH) (q : Option Value × mjH), k l0 l1 l3 hp = some q → mjG X d C S J_300 (mjEq q) 34 [some (.ref l0), some (.int l1), none, some (.int l3), none] [] hp kc ks
def P_300_2 (X : mjX) (d C S kc ks : Nat) (k : Nat → Int32 → Int32 → mjH → mjU) : Prop := ∀ (l0 : Nat) (l1 : Int32) (l3 : Int32) (hp : mjH) (q : Option Value × mjH), k l0 l1 l3 hp = some q → mjG X d C S J_300 (mjEq q) 2 [some (.ref l0), some (.int l1), none, some (.int l3), none] [] hp kc ks
def P_300_0 (X : mjX) (d C S kc ks : Nat) (k : Nat → Int32 → Int32 → mjH → mjU) : Prop := ∀ (l0 : Nat) (l1 : Int32) (l2 : Int32) (hp : mjH) (q : Option Value × mjH), k l0 l1 l2 hp = some q → mjG X d C S J_300 (mjEq q) 0 [some (.ref l0), some (.int l1), some (.int l2), none, none] [] hp kc ks
noncomputable def b_300_101 (R : mjR) (k42 : Nat → Int32 → Int32 → mjH → mjU) (k55 : Nat → Int32 → Int32 → Int32 → mjH → mjU) (l0 : Nat) (l1 : Int32) (l3 : Int32) (l4 : Int32) (hp : mjH) : mjU := k55 l0 l1 l3 (l4 + (1 : Int32)) hp
theorem t_300_101 {X : mjX} {d C S kc ks : Nat} {R : mjR} (hR : mjC R d) (h1 : kc ≤ C) (h2 : ks ≤ S) {k42 : Nat → Int32 → Int32 → mjH → mjU} (hk42 : P_300_42 X (d + 1) C S kc ks k42) {k55 : Nat → Int32 → Int32 → Int32 → mjH → mjU} (hk55 : P_300_55 X (d + 1) C S kc ks k55) : P_300_101 X (d + 1) C S kc ks (b_300_101 R k42 k55) := by
  intro l0 l1 l3 l4 hp q h
  unfold b_300_101 at h
  refine mjq_iinc (x := l4) (c := (1 : Int32)) (lo' := [some (.ref l0), some (.int l1), none, some (.int l3), some (.int (l4 + (1 : Int32)))]) D_300_101 rfl (Nat.le_of_ble_eq_true rfl) rfl rfl ?_
  refine mjr_goto (tgt := 55) D_300_104 rfl ?_
  exact hk55 _ _ _ _ _ _ h
noncomputable def b_300_55 (R : mjR) (k42 : Nat → Int32 → Int32 → mjH → mjU) (k55 : Nat → Int32 → Int32 → Int32 → mjH → mjU) (l0 : Nat) (l1 : Int32) (l3 : Int32) (l4 : Int32) (hp : mjH) : mjU := (if l3 ≤ l4 then k42 l0 l1 (l3 + (1 : Int32)) hp else gR hp l0 12 22 (fun v1 => aL hp v1 (((5 : Int32) * l1) + l3) (fun v2 => gR hp l0 12 22 (fun v3 => aL hp v3 (((5 : Int32) * l1) + l4) (fun v4 => (if (lg_cmp v2 v4) = 0 then gR hp l0 12 23 (fun v5 => aI hp v5 (((5 : Int32) * l1) + l3) (fun v6 => rV hp l0 12 (bN (R 268 [.ref l0, .int (4 : Int32), .int v6] hp) (fun  hp7 => b_300_101 R k42 k55 l0 l1 l3 l4 hp7)))) else b_300_101 R k42 k55 l0 l1 l3 l4 hp))))))
theorem t_300_55 {X : mjX} {d C S kc ks : Nat} {R : mjR} (hR : mjC R d) (h1 : kc ≤ C) (h2 : ks ≤ S) {k42 : Nat → Int32 → Int32 → mjH → mjU} (hk42 : P_300_42 X (d + 1) C S kc ks k42) {k55 : Nat → Int32 → Int32 → Int32 → mjH → mjU} (hk55 : P_300_55 X (d + 1) C S kc ks k55) : P_300_55 X (d + 1) C S kc ks (b_300_55 R k42 k55) := by
  intro l0 l1 l3 l4 hp q h
  unfold b_300_55 at h
  refine mjr_iload (x := l4) D_300_55 rfl ?_
  refine mjr_iload_n (x := l3) D_300_57 rfl ?_
  refine mjq_icmp_ge (tgt := 107) D_300_58 rfl h (fun h => ?_) (fun h => ?_)
  · refine mjq_iinc (x := l3) (c := (1 : Int32)) (lo' := [some (.ref l0), some (.int l1), none, some (.int (l3 + (1 : Int32))), some (.int l4)]) D_300_107 rfl (Nat.le_of_ble_eq_true rfl) rfl rfl ?_
    refine mjr_goto (tgt := 42) D_300_110 rfl ?_
    exact mjG.fg (lo' := [some (.ref l0), some (.int l1), none, some (.int (l3 + (1 : Int32))), none]) (And.intro rfl (And.intro rfl (And.intro rfl True.intro))) (hk42 _ _ _ _ _ h)
  · refine mjr_aload_n (x := l0) D_300_61 rfl ?_
    refine mjq_gR D_300_62 fr_12_51 h (fun v1 h => ?_)
    refine mjq_ic (v := (5 : Int32)) D_300_65 rfl ?_
    refine mjr_iload_n (x := l1) D_300_66 rfl ?_
    refine mjr_imul D_300_67 ?_
    refine mjr_iload_n (x := l3) D_300_68 rfl ?_
    refine mjr_iadd D_300_69 ?_
    refine mjq_aL D_300_70 h (fun v2 h => ?_)
    refine mjr_aload_n (x := l0) D_300_71 rfl ?_
    refine mjq_gR D_300_72 fr_12_51 h (fun v3 h => ?_)
    refine mjq_ic (v := (5 : Int32)) D_300_75 rfl ?_
    refine mjr_iload_n (x := l1) D_300_76 rfl ?_
    refine mjr_imul D_300_77 ?_
    refine mjr_iload (x := l4) D_300_78 rfl ?_
    refine mjr_iadd D_300_80 ?_
    refine mjq_aL D_300_81 h (fun v4 h => ?_)
    refine mjr_lcmp D_300_82 ?_
    refine mjq_if_ne (tgt := 101) D_300_83 rfl h (fun h => ?_) (fun h => ?_)
    · exact (t_300_101 hR h1 h2 hk42 hk55) _ _ _ _ _ _ h
    · refine mjr_aload_n (x := l0) D_300_86 rfl ?_
      refine mjq_ic (v := (4 : Int32)) D_300_87 rfl ?_
      refine mjr_aload_n (x := l0) D_300_88 rfl ?_
      refine mjq_gR D_300_89 fr_12_54 h (fun v5 h => ?_)
      refine mjq_ic (v := (5 : Int32)) D_300_92 rfl ?_
      refine mjr_iload_n (x := l1) D_300_93 rfl ?_
      refine mjr_imul D_300_94 ?_
      refine mjr_iload_n (x := l3) D_300_95 rfl ?_
      refine mjr_iadd D_300_96 ?_
      refine mjq_aI D_300_97 h (fun v6 h => ?_)
      refine mjq_vN (As := [.int (4 : Int32), .int v6]) (rest := []) D_300_98 mr_12_339 V_268 rfl rfl rfl hR (Nat.le_refl _) h1 h2 h (fun  hp7 h => ?_)
      exact (t_300_101 hR h1 h2 hk42 hk55) _ _ _ _ _ _ h
noncomputable def L_300_55 (R : mjR) (k42 : Nat → Int32 → Int32 → mjH → mjU) (n : Nat) : Nat → Int32 → Int32 → Int32 → mjH → mjU := Nat.rec (motive := fun _ => Nat → Int32 → Int32 → Int32 → mjH → mjU) (fun _ _ _ _ _ => none) (fun _ self => b_300_55 R k42 self) n
theorem T_300_55 {X : mjX} {d C S kc ks : Nat} {R : mjR} (hR : mjC R d) (h1 : kc ≤ C) (h2 : ks ≤ S) {k42 : Nat → Int32 → Int32 → mjH → mjU} (hk42 : P_300_42 X (d + 1) C S kc ks k42) (n : Nat) : P_300_55 X (d + 1) C S kc ks (L_300_55 R k42 n) := by
  induction n with
  | zero => intro _ _ _ _ _ _ h; exact mj_no h
  | succ n ih => exact t_300_55 hR h1 h2 hk42 ih
noncomputable def b_300_42 (R : mjR) (k42 : Nat → Int32 → Int32 → mjH → mjU) (l0 : Nat) (l1 : Int32) (l3 : Int32) (hp : mjH) : mjU := gR hp l0 12 15 (fun v1 => aI hp v1 l1 (fun v2 => (if v2 ≤ l3 then some (none, hp) else L_300_55 R k42 mjN l0 l1 l3 (0 : Int32) hp)))
theorem t_300_42 {X : mjX} {d C S kc ks : Nat} {R : mjR} (hR : mjC R d) (h1 : kc ≤ C) (h2 : ks ≤ S) {k42 : Nat → Int32 → Int32 → mjH → mjU} (hk42 : P_300_42 X (d + 1) C S kc ks k42) : P_300_42 X (d + 1) C S kc ks (b_300_42 R k42) := by
  intro l0 l1 l3 hp q h
  unfold b_300_42 at h
  refine mjr_iload_n (x := l3) D_300_42 rfl ?_
  refine mjr_aload_n (x := l0) D_300_43 rfl ?_
  refine mjq_gR D_300_44 fr_12_30 h (fun v1 h => ?_)
  refine mjr_iload_n (x := l1) D_300_47 rfl ?_
  refine mjq_aI D_300_48 h (fun v2 h => ?_)
  refine mjq_icmp_ge (tgt := 113) D_300_49 rfl h (fun h => ?_) (fun h => ?_)
  · exact mjq_nret D_300_113 rfl h1 h2 h
  · refine mjq_ic (v := (0 : Int32)) D_300_52 rfl ?_
    refine mjq_istore (lo' := [some (.ref l0), some (.int l1), none, some (.int l3), some (.int (0 : Int32))]) D_300_53 (Nat.le_of_ble_eq_true rfl) rfl ?_
    exact (T_300_55 hR h1 h2 hk42 mjN) _ _ _ _ _ _ h
noncomputable def L_300_42 (R : mjR) (n : Nat) : Nat → Int32 → Int32 → mjH → mjU := Nat.rec (motive := fun _ => Nat → Int32 → Int32 → mjH → mjU) (fun _ _ _ _ => none) (fun _ self => b_300_42 R self) n
theorem T_300_42 {X : mjX} {d C S kc ks : Nat} {R : mjR} (hR : mjC R d) (h1 : kc ≤ C) (h2 : ks ≤ S) (n : Nat) : P_300_42 X (d + 1) C S kc ks (L_300_42 R n) := by
  induction n with
  | zero => intro _ _ _ _ _ h; exact mj_no h
  | succ n ih => exact t_300_42 hR h1 h2 ih
noncomputable def b_300_34 (R : mjR) (k2 : Nat → Int32 → Int32 → mjH → mjU) (l0 : Nat) (l1 : Int32) (l3 : Int32) (hp : mjH) : mjU := k2 l0 l1 (l3 + (1 : Int32)) hp
theorem t_300_34 {X : mjX} {d C S kc ks : Nat} {R : mjR} (hR : mjC R d) (h1 : kc ≤ C) (h2 : ks ≤ S) {k2 : Nat → Int32 → Int32 → mjH → mjU} (hk2 : P_300_2 X (d + 1) C S kc ks k2) : P_300_34 X (d + 1) C S kc ks (b_300_34 R k2) := by
  intro l0 l1 l3 hp q h
  unfold b_300_34 at h
  refine mjq_iinc (x := l3) (c := (1 : Int32)) (lo' := [some (.ref l0), some (.int l1), none, some (.int (l3 + (1 : Int32))), none]) D_300_34 rfl (Nat.le_of_ble_eq_true rfl) rfl rfl ?_
  refine mjr_goto (tgt := 2) D_300_37 rfl ?_
  exact hk2 _ _ _ _ _ h
noncomputable def b_300_2 (R : mjR) (k2 : Nat → Int32 → Int32 → mjH → mjU) (l0 : Nat) (l1 : Int32) (l3 : Int32) (hp : mjH) : mjU := (if l1 ≤ l3 then L_300_42 R mjN l0 l1 (0 : Int32) hp else gR hp l0 12 12 (fun v1 => aL hp v1 l3 (fun v2 => gR hp l0 12 12 (fun v3 => aL hp v3 l1 (fun v4 => (if (lg_cmp v2 v4) = 0 then gR hp l0 12 13 (fun v5 => aI hp v5 l1 (fun v6 => rV hp l0 12 (bN (R 268 [.ref l0, .int (4 : Int32), .int v6] hp) (fun  hp7 => b_300_34 R k2 l0 l1 l3 hp7)))) else b_300_34 R k2 l0 l1 l3 hp))))))
theorem t_300_2 {X : mjX} {d C S kc ks : Nat} {R : mjR} (hR : mjC R d) (h1 : kc ≤ C) (h2 : ks ≤ S) {k2 : Nat → Int32 → Int32 → mjH → mjU} (hk2 : P_300_2 X (d + 1) C S kc ks k2) : P_300_2 X (d + 1) C S kc ks (b_300_2 R k2) := by
  intro l0 l1 l3 hp q h
  unfold b_300_2 at h
  refine mjr_iload_n (x := l3) D_300_2 rfl ?_
  refine mjr_iload_n (x := l1) D_300_3 rfl ?_
  refine mjq_icmp_ge (tgt := 40) D_300_4 rfl h (fun h => ?_) (fun h => ?_)
  · refine mjq_ic (v := (0 : Int32)) D_300_40 rfl ?_
    refine mjq_istore_n (lo' := [some (.ref l0), some (.int l1), none, some (.int (0 : Int32)), none]) D_300_41 (Nat.le_of_ble_eq_true rfl) rfl ?_
    exact (T_300_42 hR h1 h2 mjN) _ _ _ _ _ h
  · refine mjr_aload_n (x := l0) D_300_7 rfl ?_
    refine mjq_gR D_300_8 fr_12_21 h (fun v1 h => ?_)
    refine mjr_iload_n (x := l3) D_300_11 rfl ?_
    refine mjq_aL D_300_12 h (fun v2 h => ?_)
    refine mjr_aload_n (x := l0) D_300_13 rfl ?_
    refine mjq_gR D_300_14 fr_12_21 h (fun v3 h => ?_)
    refine mjr_iload_n (x := l1) D_300_17 rfl ?_
    refine mjq_aL D_300_18 h (fun v4 h => ?_)
    refine mjr_lcmp D_300_19 ?_
    refine mjq_if_ne (tgt := 34) D_300_20 rfl h (fun h => ?_) (fun h => ?_)
    · exact (t_300_34 hR h1 h2 hk2) _ _ _ _ _ h
    · refine mjr_aload_n (x := l0) D_300_23 rfl ?_
      refine mjq_ic (v := (4 : Int32)) D_300_24 rfl ?_
      refine mjr_aload_n (x := l0) D_300_25 rfl ?_
      refine mjq_gR D_300_26 fr_12_24 h (fun v5 h => ?_)
      refine mjr_iload_n (x := l1) D_300_29 rfl ?_
      refine mjq_aI D_300_30 h (fun v6 h => ?_)
      refine mjq_vN (As := [.int (4 : Int32), .int v6]) (rest := []) D_300_31 mr_12_339 V_268 rfl rfl rfl hR (Nat.le_refl _) h1 h2 h (fun  hp7 h => ?_)
      exact (t_300_34 hR h1 h2 hk2) _ _ _ _ _ h
noncomputable def L_300_2 (R : mjR) (n : Nat) : Nat → Int32 → Int32 → mjH → mjU := Nat.rec (motive := fun _ => Nat → Int32 → Int32 → mjH → mjU) (fun _ _ _ _ => none) (fun _ self => b_300_2 R self) n
theorem T_300_2 {X : mjX} {d C S kc ks : Nat} {R : mjR} (hR : mjC R d) (h1 : kc ≤ C) (h2 : ks ≤ S) (n : Nat) : P_300_2 X (d + 1) C S kc ks (L_300_2 R n) := by
  induction n with
  | zero => intro _ _ _ _ _ h; exact mj_no h
  | succ n ih => exact t_300_2 hR h1 h2 ih
noncomputable def b_300_0 (R : mjR) (l0 : Nat) (l1 : Int32) (l2 : Int32) (hp : mjH) : mjU := L_300_2 R mjN l0 l1 l2 hp
theorem t_300_0 {X : mjX} {d C S kc ks : Nat} {R : mjR} (hR : mjC R d) (h1 : kc ≤ C) (h2 : ks ≤ S) : P_300_0 X (d + 1) C S kc ks (b_300_0 R) := by
  intro l0 l1 l2 hp q h
  unfold b_300_0 at h
  refine mjr_iload_n (x := l2) D_300_0 rfl ?_
  refine mjq_istore_n (lo' := [some (.ref l0), some (.int l1), some (.int l2), some (.int l2), none]) D_300_1 (Nat.le_of_ble_eq_true rfl) rfl ?_
  exact mjG.fg (lo' := [some (.ref l0), some (.int l1), none, some (.int l2), none]) (And.intro rfl (And.intro rfl (And.intro rfl True.intro))) ((T_300_2 hR h1 h2 mjN) _ _ _ _ _ h)
noncomputable def f_300 (R : mjR) (a0 : Nat) (a1 : Int32) (a2 : Int32) (hp : mjH) : mjU := b_300_0 R a0 a1 a2 hp
theorem c_300 {R : mjR} {d : Nat} (hR : mjC R d) {a0 : Nat} {a1 : Int32} {a2 : Int32} {hp : mjH} {q : Option Value × mjH} (h : f_300 R a0 a1 a2 hp = some q) : mjM (d + 1) 0 0 300 [.ref a0, .int a1, .int a2] hp (mjEq q) :=
  mjM_of Ja_300 (Nat.le_of_ble_eq_true rfl) (mjG.fg (lo' := [some (.ref a0), some (.int a1), some (.int a2), none, none]) (And.intro rfl (And.intro rfl (And.intro rfl True.intro))) ((t_300_0 hR (Nat.le_refl 0) (Nat.le_refl 0)) a0 a1 a2 hp q h))
def J_301 : mjI := (⟨"OwnerHeapModel", "judgeAbove", "(I)V"⟩, 12, prog_14_method_53_code, 3, none, 1, false)
theorem Ja_301 : mjMt 301 = some J_301 := by rfl
theorem D_301_0 : decode J_301.2.2.1 0 = .ok (.aload_n 0, 1) := dzq_42 (by decide +kernel)
theorem D_301_1 : decode J_301.2.2.1 1 = .ok (.getfield 33, 3) := dzq_180 (by decide +kernel)
theorem D_301_4 : decode J_301.2.2.1 4 = .ok (.iload_n 1, 1) := dzq_27 (by decide +kernel)
theorem D_301_5 : decode J_301.2.2.1 5 = .ok (.iaload, 1) := dzq_46 (by decide +kernel)
theorem D_301_6 : decode J_301.2.2.1 6 = .ok (.istore_n 2, 1) := dzq_61 (by decide +kernel)
theorem D_301_7 : decode J_301.2.2.1 7 = .ok (.iload_n 2, 1) := dzq_28 (by decide +kernel)
theorem D_301_8 : decode J_301.2.2.1 8 = .ok (.ifCond .ge 4, 3) := dzq_156 (by decide +kernel)
theorem D_301_11 : decode J_301.2.2.1 11 = .ok (.return_, 1) := dzq_177 (by decide +kernel)
theorem D_301_12 : decode J_301.2.2.1 12 = .ok (.aload_n 0, 1) := dzq_42 (by decide +kernel)
theorem D_301_13 : decode J_301.2.2.1 13 = .ok (.iload_n 2, 1) := dzq_28 (by decide +kernel)
theorem D_301_14 : decode J_301.2.2.1 14 = .ok (.iload_n 1, 1) := dzq_27 (by decide +kernel)
theorem D_301_15 : decode J_301.2.2.1 15 = .ok (.iconst 1, 1) := dzq_4 (by decide +kernel)
theorem D_301_16 : decode J_301.2.2.1 16 = .ok (.invokevirtual 504, 3) := dzq_182 (by decide +kernel)
theorem D_301_19 : decode J_301.2.2.1 19 = .ok (.aload_n 0, 1) := dzq_42 (by decide +kernel)
theorem D_301_20 : decode J_301.2.2.1 20 = .ok (.getfield 333, 3) := dzq_180 (by decide +kernel)
theorem D_301_23 : decode J_301.2.2.1 23 = .ok (.ifCond .ne 26, 3) := dzq_154 (by decide +kernel)
theorem D_301_26 : decode J_301.2.2.1 26 = .ok (.aload_n 0, 1) := dzq_42 (by decide +kernel)
theorem D_301_27 : decode J_301.2.2.1 27 = .ok (.getfield 145, 3) := dzq_180 (by decide +kernel)
theorem D_301_30 : decode J_301.2.2.1 30 = .ok (.iconst 5, 1) := dzq_8 (by decide +kernel)
theorem D_301_31 : decode J_301.2.2.1 31 = .ok (.iload_n 2, 1) := dzq_28 (by decide +kernel)
theorem D_301_32 : decode J_301.2.2.1 32 = .ok (.imul, 1) := dzq_104 (by decide +kernel)
theorem D_301_33 : decode J_301.2.2.1 33 = .ok (.iaload, 1) := dzq_46 (by decide +kernel)
theorem D_301_34 : decode J_301.2.2.1 34 = .ok (.ifCond .eq 15, 3) := dzq_153 (by decide +kernel)
theorem D_301_37 : decode J_301.2.2.1 37 = .ok (.aload_n 0, 1) := dzq_42 (by decide +kernel)
theorem D_301_38 : decode J_301.2.2.1 38 = .ok (.bipush 11, 2) := dzq_16 (by decide +kernel)
theorem D_301_40 : decode J_301.2.2.1 40 = .ok (.aload_n 0, 1) := dzq_42 (by decide +kernel)
theorem D_301_41 : decode J_301.2.2.1 41 = .ok (.getfield 27, 3) := dzq_180 (by decide +kernel)
theorem D_301_44 : decode J_301.2.2.1 44 = .ok (.iload_n 1, 1) := dzq_27 (by decide +kernel)
theorem D_301_45 : decode J_301.2.2.1 45 = .ok (.iaload, 1) := dzq_46 (by decide +kernel)
theorem D_301_46 : decode J_301.2.2.1 46 = .ok (.invokevirtual 339, 3) := dzq_182 (by decide +kernel)
theorem D_301_49 : decode J_301.2.2.1 49 = .ok (.return_, 1) := dzq_177 (by decide +kernel)
def P_301_0 (X : mjX) (d C S kc ks : Nat) (k : Nat → Int32 → mjH → mjU) : Prop := ∀ (l0 : Nat) (l1 : Int32) (hp : mjH) (q : Option Value × mjH), k l0 l1 hp = some q → mjG X d C S J_301 (mjEq q) 0 [some (.ref l0), some (.int l1), none] [] hp kc ks
noncomputable def b_301_0 (R : mjR) (l0 : Nat) (l1 : Int32) (hp : mjH) : mjU := gR hp l0 12 16 (fun v1 => aI hp v1 l1 (fun v2 => (if 0 ≤ v2 then rV hp l0 12 (bN (R 302 [.ref l0, .int v2, .int l1, .int (1 : Int32)] hp) (fun  hp3 => gI hp3 l0 12 61 (fun v4 => (if v4 = 0 then gR hp3 l0 12 53 (fun v5 => aI hp3 v5 ((5 : Int32) * v2) (fun v6 => (if v6 = 0 then some (none, hp3) else gR hp3 l0 12 14 (fun v7 => aI hp3 v7 l1 (fun v8 => rV hp3 l0 12 (bN (R 268 [.ref l0, .int (11 : Int32), .int v8] hp3) (fun  hp9 => some (none, hp9)))))))) else some (none, hp3))))) else some (none, hp))))
theorem t_301_0 {X : mjX} {d C S kc ks : Nat} {R : mjR} (hR : mjC R d) (h1 : kc ≤ C) (h2 : ks ≤ S) : P_301_0 X (d + 1) C S kc ks (b_301_0 R) := by
  intro l0 l1 hp q h
  unfold b_301_0 at h
  refine mjr_aload_n (x := l0) D_301_0 rfl ?_
  refine mjq_gR D_301_1 fr_12_33 h (fun v1 h => ?_)
  refine mjr_iload_n (x := l1) D_301_4 rfl ?_
  refine mjq_aI D_301_5 h (fun v2 h => ?_)
  refine mjq_istore_n (lo' := [some (.ref l0), some (.int l1), some (.int v2)]) D_301_6 (Nat.le_of_ble_eq_true rfl) rfl ?_
  refine mjr_iload_n (x := v2) D_301_7 rfl ?_
  refine mjq_if_ge (tgt := 12) D_301_8 rfl h (fun h => ?_) (fun h => ?_)
  · refine mjr_aload_n (x := l0) D_301_12 rfl ?_
    refine mjr_iload_n (x := v2) D_301_13 rfl ?_
    refine mjr_iload_n (x := l1) D_301_14 rfl ?_
    refine mjq_ic (v := (1 : Int32)) D_301_15 rfl ?_
    refine mjq_vN (As := [.int v2, .int l1, .int (1 : Int32)]) (rest := []) D_301_16 mr_12_504 V_302 rfl rfl rfl hR (Nat.le_refl _) h1 h2 h (fun  hp3 h => ?_)
    refine mjr_aload_n (x := l0) D_301_19 rfl ?_
    refine mjq_gI D_301_20 fr_12_333 h (fun v4 h => ?_)
    refine mjq_if_ne (tgt := 49) D_301_23 rfl h (fun h => ?_) (fun h => ?_)
    · exact mjq_nret D_301_49 rfl h1 h2 h
    · refine mjr_aload_n (x := l0) D_301_26 rfl ?_
      refine mjq_gR D_301_27 fr_12_145 h (fun v5 h => ?_)
      refine mjq_ic (v := (5 : Int32)) D_301_30 rfl ?_
      refine mjr_iload_n (x := v2) D_301_31 rfl ?_
      refine mjr_imul D_301_32 ?_
      refine mjq_aI D_301_33 h (fun v6 h => ?_)
      refine mjq_if_eq (tgt := 49) D_301_34 rfl h (fun h => ?_) (fun h => ?_)
      · exact mjq_nret D_301_49 rfl h1 h2 h
      · refine mjr_aload_n (x := l0) D_301_37 rfl ?_
        refine mjq_bi (v := (11 : Int32)) D_301_38 rfl ?_
        refine mjr_aload_n (x := l0) D_301_40 rfl ?_
        refine mjq_gR D_301_41 fr_12_27 h (fun v7 h => ?_)
        refine mjr_iload_n (x := l1) D_301_44 rfl ?_
        refine mjq_aI D_301_45 h (fun v8 h => ?_)
        refine mjq_vN (As := [.int (11 : Int32), .int v8]) (rest := []) D_301_46 mr_12_339 V_268 rfl rfl rfl hR (Nat.le_refl _) h1 h2 h (fun  hp9 h => ?_)
        exact mjq_nret D_301_49 rfl h1 h2 h
  · exact mjq_nret D_301_11 rfl h1 h2 h
noncomputable def f_301 (R : mjR) (a0 : Nat) (a1 : Int32) (hp : mjH) : mjU := b_301_0 R a0 a1 hp
theorem c_301 {R : mjR} {d : Nat} (hR : mjC R d) {a0 : Nat} {a1 : Int32} {hp : mjH} {q : Option Value × mjH} (h : f_301 R a0 a1 hp = some q) : mjM (d + 1) 0 0 301 [.ref a0, .int a1] hp (mjEq q) :=
  mjM_of Ja_301 (Nat.le_of_ble_eq_true rfl) (mjG.fg (lo' := [some (.ref a0), some (.int a1), none]) (And.intro rfl (And.intro rfl True.intro)) ((t_301_0 hR (Nat.le_refl 0) (Nat.le_refl 0)) a0 a1 hp q h))
def J_302 : mjI := (⟨"OwnerHeapModel", "judgeNames", "(IIZ)V"⟩, 12, prog_14_method_48_code, 7, none, 3, false)
theorem Ja_302 : mjMt 302 = some J_302 := by rfl
theorem D_302_0 : decode J_302.2.2.1 0 = .ok (.aload_n 0, 1) := dzq_42 (by decide +kernel)
theorem D_302_1 : decode J_302.2.2.1 1 = .ok (.aload_n 0, 1) := dzq_42 (by decide +kernel)
theorem D_302_2 : decode J_302.2.2.1 2 = .ok (.getfield 127, 3) := dzq_180 (by decide +kernel)
theorem D_302_5 : decode J_302.2.2.1 5 = .ok (.iload_n 1, 1) := dzq_27 (by decide +kernel)
theorem D_302_6 : decode J_302.2.2.1 6 = .ok (.laload, 1) := dzq_47 (by decide +kernel)
theorem D_302_7 : decode J_302.2.2.1 7 = .ok (.invokevirtual 488, 3) := dzq_182 (by decide +kernel)
theorem D_302_10 : decode J_302.2.2.1 10 = .ok (.istore 4, 2) := dzq_54 (by decide +kernel)
theorem D_302_12 : decode J_302.2.2.1 12 = .ok (.aload_n 0, 1) := dzq_42 (by decide +kernel)
theorem D_302_13 : decode J_302.2.2.1 13 = .ok (.getfield 136, 3) := dzq_180 (by decide +kernel)
theorem D_302_16 : decode J_302.2.2.1 16 = .ok (.iload_n 1, 1) := dzq_27 (by decide +kernel)
theorem D_302_17 : decode J_302.2.2.1 17 = .ok (.iload 4, 2) := dzq_21 (by decide +kernel)
theorem D_302_19 : decode J_302.2.2.1 19 = .ok (.iastore, 1) := dzq_79 (by decide +kernel)
theorem D_302_20 : decode J_302.2.2.1 20 = .ok (.iload 4, 2) := dzq_21 (by decide +kernel)
theorem D_302_22 : decode J_302.2.2.1 22 = .ok (.iconst (-1), 1) := dzq_2 (by decide +kernel)
theorem D_302_23 : decode J_302.2.2.1 23 = .ok (.if_icmp .ne 17, 3) := dzq_160 (by decide +kernel)
theorem D_302_26 : decode J_302.2.2.1 26 = .ok (.aload_n 0, 1) := dzq_42 (by decide +kernel)
theorem D_302_27 : decode J_302.2.2.1 27 = .ok (.iconst 5, 1) := dzq_8 (by decide +kernel)
theorem D_302_28 : decode J_302.2.2.1 28 = .ok (.aload_n 0, 1) := dzq_42 (by decide +kernel)
theorem D_302_29 : decode J_302.2.2.1 29 = .ok (.getfield 130, 3) := dzq_180 (by decide +kernel)
theorem D_302_32 : decode J_302.2.2.1 32 = .ok (.iload_n 1, 1) := dzq_27 (by decide +kernel)
theorem D_302_33 : decode J_302.2.2.1 33 = .ok (.iaload, 1) := dzq_46 (by decide +kernel)
theorem D_302_34 : decode J_302.2.2.1 34 = .ok (.invokevirtual 339, 3) := dzq_182 (by decide +kernel)
theorem D_302_37 : decode J_302.2.2.1 37 = .ok (.goto 31, 3) := dzq_167 (by decide +kernel)
theorem D_302_40 : decode J_302.2.2.1 40 = .ok (.aload_n 0, 1) := dzq_42 (by decide +kernel)
theorem D_302_41 : decode J_302.2.2.1 41 = .ok (.getfield 133, 3) := dzq_180 (by decide +kernel)
theorem D_302_44 : decode J_302.2.2.1 44 = .ok (.iload_n 1, 1) := dzq_27 (by decide +kernel)
theorem D_302_45 : decode J_302.2.2.1 45 = .ok (.iaload, 1) := dzq_46 (by decide +kernel)
theorem D_302_46 : decode J_302.2.2.1 46 = .ok (.aload_n 0, 1) := dzq_42 (by decide +kernel)
theorem D_302_47 : decode J_302.2.2.1 47 = .ok (.getfield 30, 3) := dzq_180 (by decide +kernel)
theorem D_302_50 : decode J_302.2.2.1 50 = .ok (.iload 4, 2) := dzq_21 (by decide +kernel)
theorem D_302_52 : decode J_302.2.2.1 52 = .ok (.iaload, 1) := dzq_46 (by decide +kernel)
theorem D_302_53 : decode J_302.2.2.1 53 = .ok (.if_icmp .eq 15, 3) := dzq_159 (by decide +kernel)
theorem D_302_56 : decode J_302.2.2.1 56 = .ok (.aload_n 0, 1) := dzq_42 (by decide +kernel)
theorem D_302_57 : decode J_302.2.2.1 57 = .ok (.bipush 6, 2) := dzq_16 (by decide +kernel)
theorem D_302_59 : decode J_302.2.2.1 59 = .ok (.aload_n 0, 1) := dzq_42 (by decide +kernel)
theorem D_302_60 : decode J_302.2.2.1 60 = .ok (.getfield 130, 3) := dzq_180 (by decide +kernel)
theorem D_302_63 : decode J_302.2.2.1 63 = .ok (.iload_n 1, 1) := dzq_27 (by decide +kernel)
theorem D_302_64 : decode J_302.2.2.1 64 = .ok (.iaload, 1) := dzq_46 (by decide +kernel)
theorem D_302_65 : decode J_302.2.2.1 65 = .ok (.invokevirtual 339, 3) := dzq_182 (by decide +kernel)
theorem D_302_68 : decode J_302.2.2.1 68 = .ok (.iconst 0, 1) := dzq_3 (by decide +kernel)
theorem D_302_69 : decode J_302.2.2.1 69 = .ok (.istore 5, 2) := dzq_54 (by decide +kernel)
theorem D_302_71 : decode J_302.2.2.1 71 = .ok (.iload 5, 2) := dzq_21 (by decide +kernel)
theorem D_302_73 : decode J_302.2.2.1 73 = .ok (.aload_n 0, 1) := dzq_42 (by decide +kernel)
theorem D_302_74 : decode J_302.2.2.1 74 = .ok (.getfield 133, 3) := dzq_180 (by decide +kernel)
theorem D_302_77 : decode J_302.2.2.1 77 = .ok (.iload_n 1, 1) := dzq_27 (by decide +kernel)
theorem D_302_78 : decode J_302.2.2.1 78 = .ok (.iaload, 1) := dzq_46 (by decide +kernel)
theorem D_302_79 : decode J_302.2.2.1 79 = .ok (.if_icmp .ge 71, 3) := dzq_162 (by decide +kernel)
theorem D_302_82 : decode J_302.2.2.1 82 = .ok (.aload_n 0, 1) := dzq_42 (by decide +kernel)
theorem D_302_83 : decode J_302.2.2.1 83 = .ok (.getfield 333, 3) := dzq_180 (by decide +kernel)
theorem D_302_86 : decode J_302.2.2.1 86 = .ok (.ifCond .ne 64, 3) := dzq_154 (by decide +kernel)
theorem D_302_89 : decode J_302.2.2.1 89 = .ok (.aload_n 0, 1) := dzq_42 (by decide +kernel)
theorem D_302_90 : decode J_302.2.2.1 90 = .ok (.iload_n 2, 1) := dzq_28 (by decide +kernel)
theorem D_302_91 : decode J_302.2.2.1 91 = .ok (.aload_n 0, 1) := dzq_42 (by decide +kernel)
theorem D_302_92 : decode J_302.2.2.1 92 = .ok (.getfield 139, 3) := dzq_180 (by decide +kernel)
theorem D_302_95 : decode J_302.2.2.1 95 = .ok (.iconst 5, 1) := dzq_8 (by decide +kernel)
theorem D_302_96 : decode J_302.2.2.1 96 = .ok (.iload_n 1, 1) := dzq_27 (by decide +kernel)
theorem D_302_97 : decode J_302.2.2.1 97 = .ok (.imul, 1) := dzq_104 (by decide +kernel)
theorem D_302_98 : decode J_302.2.2.1 98 = .ok (.iload 5, 2) := dzq_21 (by decide +kernel)
theorem D_302_100 : decode J_302.2.2.1 100 = .ok (.iadd, 1) := dzq_96 (by decide +kernel)
theorem D_302_101 : decode J_302.2.2.1 101 = .ok (.laload, 1) := dzq_47 (by decide +kernel)
theorem D_302_102 : decode J_302.2.2.1 102 = .ok (.iload_n 3, 1) := dzq_29 (by decide +kernel)
theorem D_302_103 : decode J_302.2.2.1 103 = .ok (.invokevirtual 492, 3) := dzq_182 (by decide +kernel)
theorem D_302_106 : decode J_302.2.2.1 106 = .ok (.istore 6, 2) := dzq_54 (by decide +kernel)
theorem D_302_108 : decode J_302.2.2.1 108 = .ok (.aload_n 0, 1) := dzq_42 (by decide +kernel)
theorem D_302_109 : decode J_302.2.2.1 109 = .ok (.getfield 145, 3) := dzq_180 (by decide +kernel)
theorem D_302_112 : decode J_302.2.2.1 112 = .ok (.iconst 5, 1) := dzq_8 (by decide +kernel)
theorem D_302_113 : decode J_302.2.2.1 113 = .ok (.iload_n 1, 1) := dzq_27 (by decide +kernel)
theorem D_302_114 : decode J_302.2.2.1 114 = .ok (.imul, 1) := dzq_104 (by decide +kernel)
theorem D_302_115 : decode J_302.2.2.1 115 = .ok (.iload 5, 2) := dzq_21 (by decide +kernel)
theorem D_302_117 : decode J_302.2.2.1 117 = .ok (.iadd, 1) := dzq_96 (by decide +kernel)
theorem D_302_118 : decode J_302.2.2.1 118 = .ok (.iload 6, 2) := dzq_21 (by decide +kernel)
theorem D_302_120 : decode J_302.2.2.1 120 = .ok (.iastore, 1) := dzq_79 (by decide +kernel)
theorem D_302_121 : decode J_302.2.2.1 121 = .ok (.iload 6, 2) := dzq_21 (by decide +kernel)
theorem D_302_123 : decode J_302.2.2.1 123 = .ok (.bipush (-9), 2) := dzq_16 (by decide +kernel)
theorem D_302_125 : decode J_302.2.2.1 125 = .ok (.if_icmp .ne 19, 3) := dzq_160 (by decide +kernel)
theorem D_302_128 : decode J_302.2.2.1 128 = .ok (.aload_n 0, 1) := dzq_42 (by decide +kernel)
theorem D_302_129 : decode J_302.2.2.1 129 = .ok (.iconst 5, 1) := dzq_8 (by decide +kernel)
theorem D_302_130 : decode J_302.2.2.1 130 = .ok (.aload_n 0, 1) := dzq_42 (by decide +kernel)
theorem D_302_131 : decode J_302.2.2.1 131 = .ok (.getfield 142, 3) := dzq_180 (by decide +kernel)
theorem D_302_134 : decode J_302.2.2.1 134 = .ok (.iconst 5, 1) := dzq_8 (by decide +kernel)
theorem D_302_135 : decode J_302.2.2.1 135 = .ok (.iload_n 1, 1) := dzq_27 (by decide +kernel)
theorem D_302_136 : decode J_302.2.2.1 136 = .ok (.imul, 1) := dzq_104 (by decide +kernel)
theorem D_302_137 : decode J_302.2.2.1 137 = .ok (.iload 5, 2) := dzq_21 (by decide +kernel)
theorem D_302_139 : decode J_302.2.2.1 139 = .ok (.iadd, 1) := dzq_96 (by decide +kernel)
theorem D_302_140 : decode J_302.2.2.1 140 = .ok (.iaload, 1) := dzq_46 (by decide +kernel)
theorem D_302_141 : decode J_302.2.2.1 141 = .ok (.invokevirtual 339, 3) := dzq_182 (by decide +kernel)
theorem D_302_144 : decode J_302.2.2.1 144 = .ok (.iinc 5 1, 3) := dzq_132 (by decide +kernel)
theorem D_302_147 : decode J_302.2.2.1 147 = .ok (.goto (-76), 3) := dzq_167 (by decide +kernel)
theorem D_302_150 : decode J_302.2.2.1 150 = .ok (.return_, 1) := dzq_177 (by decide +kernel)
def P_302_144 (X : mjX) (d C S kc ks : Nat) (k : Nat → Int32 → Int32 → Int32 → Int32 → mjH → mjU) : Prop := ∀ (l0 : Nat) (l1 : Int32) (l2 : Int32) (l3 : Int32) (l5 : Int32) (hp : mjH) (q : Option Value × mjH), k l0 l1 l2 l3 l5 hp = some q → mjG X d C S J_302 (mjEq q) 144 [some (.ref l0), some (.int l1), some (.int l2), some (.int l3), none, some (.int l5), none] [] hp kc ks
def P_302_71 (X : mjX) (d C S kc ks : Nat) (k : Nat → Int32 → Int32 → Int32 → Int32 → mjH → mjU) : Prop := ∀ (l0 : Nat) (l1 : Int32) (l2 : Int32) (l3 : Int32) (l5 : Int32) (hp : mjH) (q : Option Value × mjH), k l0 l1 l2 l3 l5 hp = some q → mjG X d C S J_302 (mjEq q) 71 [some (.ref l0), some (.int l1), some (.int l2), some (.int l3), none, some (.int l5), none] [] hp kc ks
def P_302_68 (X : mjX) (d C S kc ks : Nat) (k : Nat → Int32 → Int32 → Int32 → mjH → mjU) : Prop := ∀ (l0 : Nat) (l1 : Int32) (l2 : Int32) (l3 : Int32) (hp : mjH) (q : Option Value × mjH), k l0 l1 l2 l3 hp = some q → mjG X d C S J_302 (mjEq q) 68 [some (.ref l0), some (.int l1), some (.int l2), some (.int l3), none, none, none] [] hp kc ks
def P_302_0 (X : mjX) (d C S kc ks : Nat) (k : Nat → Int32 → Int32 → Int32 → mjH → mjU) : Prop := ∀ (l0 : Nat) (l1 : Int32) (l2 : Int32) (l3 : Int32) (hp : mjH) (q : Option Value × mjH), k l0 l1 l2 l3 hp = some q → mjG X d C S J_302 (mjEq q) 0 [some (.ref l0), some (.int l1), some (.int l2), some (.int l3), none, none, none] [] hp kc ks
noncomputable def b_302_144 (R : mjR) (k71 : Nat → Int32 → Int32 → Int32 → Int32 → mjH → mjU) (l0 : Nat) (l1 : Int32) (l2 : Int32) (l3 : Int32) (l5 : Int32) (hp : mjH) : mjU := k71 l0 l1 l2 l3 (l5 + (1 : Int32)) hp
theorem t_302_144 {X : mjX} {d C S kc ks : Nat} {R : mjR} (hR : mjC R d) (h1 : kc ≤ C) (h2 : ks ≤ S) {k71 : Nat → Int32 → Int32 → Int32 → Int32 → mjH → mjU} (hk71 : P_302_71 X (d + 1) C S kc ks k71) : P_302_144 X (d + 1) C S kc ks (b_302_144 R k71) := by
  intro l0 l1 l2 l3 l5 hp q h
  unfold b_302_144 at h
  refine mjq_iinc (x := l5) (c := (1 : Int32)) (lo' := [some (.ref l0), some (.int l1), some (.int l2), some (.int l3), none, some (.int (l5 + (1 : Int32))), none]) D_302_144 rfl (Nat.le_of_ble_eq_true rfl) rfl rfl ?_
  refine mjr_goto (tgt := 71) D_302_147 rfl ?_
  exact hk71 _ _ _ _ _ _ _ h
noncomputable def b_302_71 (R : mjR) (k71 : Nat → Int32 → Int32 → Int32 → Int32 → mjH → mjU) (l0 : Nat) (l1 : Int32) (l2 : Int32) (l3 : Int32) (l5 : Int32) (hp : mjH) : mjU := gR hp l0 12 49 (fun v1 => aI hp v1 l1 (fun v2 => (if v2 ≤ l5 then some (none, hp) else gI hp l0 12 61 (fun v3 => (if v3 = 0 then gR hp l0 12 51 (fun v4 => aL hp v4 (((5 : Int32) * l1) + l5) (fun v5 => rV hp l0 12 (bI (R 304 [.ref l0, .int l2, .long v5, .int l3] hp) (fun v6 hp7 => gR hp7 l0 12 53 (fun v8 => sI hp7 v8 (((5 : Int32) * l1) + l5) v6 (fun hp9 => (if v6 = (-9 : Int32) then gR hp9 l0 12 52 (fun v10 => aI hp9 v10 (((5 : Int32) * l1) + l5) (fun v11 => rV hp9 l0 12 (bN (R 268 [.ref l0, .int (5 : Int32), .int v11] hp9) (fun  hp12 => b_302_144 R k71 l0 l1 l2 l3 l5 hp12)))) else b_302_144 R k71 l0 l1 l2 l3 l5 hp9))))))) else some (none, hp))))))
theorem t_302_71 {X : mjX} {d C S kc ks : Nat} {R : mjR} (hR : mjC R d) (h1 : kc ≤ C) (h2 : ks ≤ S) {k71 : Nat → Int32 → Int32 → Int32 → Int32 → mjH → mjU} (hk71 : P_302_71 X (d + 1) C S kc ks k71) : P_302_71 X (d + 1) C S kc ks (b_302_71 R k71) := by
  intro l0 l1 l2 l3 l5 hp q h
  unfold b_302_71 at h
  refine mjr_iload (x := l5) D_302_71 rfl ?_
  refine mjr_aload_n (x := l0) D_302_73 rfl ?_
  refine mjq_gR D_302_74 fr_12_133 h (fun v1 h => ?_)
  refine mjr_iload_n (x := l1) D_302_77 rfl ?_
  refine mjq_aI D_302_78 h (fun v2 h => ?_)
  refine mjq_icmp_ge (tgt := 150) D_302_79 rfl h (fun h => ?_) (fun h => ?_)
  · exact mjq_nret D_302_150 rfl h1 h2 h
  · refine mjr_aload_n (x := l0) D_302_82 rfl ?_
    refine mjq_gI D_302_83 fr_12_333 h (fun v3 h => ?_)
    refine mjq_if_ne (tgt := 150) D_302_86 rfl h (fun h => ?_) (fun h => ?_)
    · exact mjq_nret D_302_150 rfl h1 h2 h
    · refine mjr_aload_n (x := l0) D_302_89 rfl ?_
      refine mjr_iload_n (x := l2) D_302_90 rfl ?_
      refine mjr_aload_n (x := l0) D_302_91 rfl ?_
      refine mjq_gR D_302_92 fr_12_139 h (fun v4 h => ?_)
      refine mjq_ic (v := (5 : Int32)) D_302_95 rfl ?_
      refine mjr_iload_n (x := l1) D_302_96 rfl ?_
      refine mjr_imul D_302_97 ?_
      refine mjr_iload (x := l5) D_302_98 rfl ?_
      refine mjr_iadd D_302_100 ?_
      refine mjq_aL D_302_101 h (fun v5 h => ?_)
      refine mjr_iload_n (x := l3) D_302_102 rfl ?_
      refine mjq_vI (As := [.int l2, .long v5, .int l3]) (rest := []) D_302_103 mr_12_492 V_304 rfl rfl rfl hR (Nat.le_refl _) h1 h2 h (fun v6 hp7 h => ?_)
      refine mjq_istore (lo' := [some (.ref l0), some (.int l1), some (.int l2), some (.int l3), none, some (.int l5), some (.int v6)]) D_302_106 (Nat.le_of_ble_eq_true rfl) rfl ?_
      refine mjr_aload_n (x := l0) D_302_108 rfl ?_
      refine mjq_gR D_302_109 fr_12_145 h (fun v8 h => ?_)
      refine mjq_ic (v := (5 : Int32)) D_302_112 rfl ?_
      refine mjr_iload_n (x := l1) D_302_113 rfl ?_
      refine mjr_imul D_302_114 ?_
      refine mjr_iload (x := l5) D_302_115 rfl ?_
      refine mjr_iadd D_302_117 ?_
      refine mjr_iload (x := v6) D_302_118 rfl ?_
      refine mjq_sI D_302_120 h (fun hp9 h => ?_)
      refine mjr_iload (x := v6) D_302_121 rfl ?_
      refine mjq_bi (v := (-9 : Int32)) D_302_123 rfl ?_
      refine mjq_icmp_ne (tgt := 144) D_302_125 rfl h (fun h => ?_) (fun h => ?_)
      · exact mjG.fg (lo' := [some (.ref l0), some (.int l1), some (.int l2), some (.int l3), none, some (.int l5), none]) (And.intro rfl (And.intro rfl (And.intro rfl (And.intro rfl (And.intro rfl True.intro))))) ((t_302_144 hR h1 h2 hk71) _ _ _ _ _ _ _ h)
      · refine mjr_aload_n (x := l0) D_302_128 rfl ?_
        refine mjq_ic (v := (5 : Int32)) D_302_129 rfl ?_
        refine mjr_aload_n (x := l0) D_302_130 rfl ?_
        refine mjq_gR D_302_131 fr_12_142 h (fun v10 h => ?_)
        refine mjq_ic (v := (5 : Int32)) D_302_134 rfl ?_
        refine mjr_iload_n (x := l1) D_302_135 rfl ?_
        refine mjr_imul D_302_136 ?_
        refine mjr_iload (x := l5) D_302_137 rfl ?_
        refine mjr_iadd D_302_139 ?_
        refine mjq_aI D_302_140 h (fun v11 h => ?_)
        refine mjq_vN (As := [.int (5 : Int32), .int v11]) (rest := []) D_302_141 mr_12_339 V_268 rfl rfl rfl hR (Nat.le_refl _) h1 h2 h (fun  hp12 h => ?_)
        exact mjG.fg (lo' := [some (.ref l0), some (.int l1), some (.int l2), some (.int l3), none, some (.int l5), none]) (And.intro rfl (And.intro rfl (And.intro rfl (And.intro rfl (And.intro rfl True.intro))))) ((t_302_144 hR h1 h2 hk71) _ _ _ _ _ _ _ h)
noncomputable def L_302_71 (R : mjR) (n : Nat) : Nat → Int32 → Int32 → Int32 → Int32 → mjH → mjU := Nat.rec (motive := fun _ => Nat → Int32 → Int32 → Int32 → Int32 → mjH → mjU) (fun _ _ _ _ _ _ => none) (fun _ self => b_302_71 R self) n
theorem T_302_71 {X : mjX} {d C S kc ks : Nat} {R : mjR} (hR : mjC R d) (h1 : kc ≤ C) (h2 : ks ≤ S) (n : Nat) : P_302_71 X (d + 1) C S kc ks (L_302_71 R n) := by
  induction n with
  | zero => intro _ _ _ _ _ _ _ h; exact mj_no h
  | succ n ih => exact t_302_71 hR h1 h2 ih
noncomputable def b_302_68 (R : mjR) (l0 : Nat) (l1 : Int32) (l2 : Int32) (l3 : Int32) (hp : mjH) : mjU := L_302_71 R mjN l0 l1 l2 l3 (0 : Int32) hp
theorem t_302_68 {X : mjX} {d C S kc ks : Nat} {R : mjR} (hR : mjC R d) (h1 : kc ≤ C) (h2 : ks ≤ S) : P_302_68 X (d + 1) C S kc ks (b_302_68 R) := by
  intro l0 l1 l2 l3 hp q h
  unfold b_302_68 at h
  refine mjq_ic (v := (0 : Int32)) D_302_68 rfl ?_
  refine mjq_istore (lo' := [some (.ref l0), some (.int l1), some (.int l2), some (.int l3), none, some (.int (0 : Int32)), none]) D_302_69 (Nat.le_of_ble_eq_true rfl) rfl ?_
  exact (T_302_71 hR h1 h2 mjN) _ _ _ _ _ _ _ h
noncomputable def b_302_0 (R : mjR) (l0 : Nat) (l1 : Int32) (l2 : Int32) (l3 : Int32) (hp : mjH) : mjU := gR hp l0 12 47 (fun v1 => aL hp v1 l1 (fun v2 => rV hp l0 12 (bI (R 303 [.ref l0, .long v2] hp) (fun v3 hp4 => gR hp4 l0 12 50 (fun v5 => sI hp4 v5 l1 v3 (fun hp6 => (if v3 = (-1 : Int32) then gR hp6 l0 12 48 (fun v14 => aI hp6 v14 l1 (fun v15 => rV hp6 l0 12 (bN (R 268 [.ref l0, .int (5 : Int32), .int v15] hp6) (fun  hp16 => b_302_68 R l0 l1 l2 l3 hp16)))) else gR hp6 l0 12 49 (fun v7 => aI hp6 v7 l1 (fun v8 => gR hp6 l0 12 15 (fun v9 => aI hp6 v9 v3 (fun v10 => (if v8 = v10 then b_302_68 R l0 l1 l2 l3 hp6 else gR hp6 l0 12 48 (fun v11 => aI hp6 v11 l1 (fun v12 => rV hp6 l0 12 (bN (R 268 [.ref l0, .int (6 : Int32), .int v12] hp6) (fun  hp13 => b_302_68 R l0 l1 l2 l3 hp13))))))))))))))))
theorem t_302_0 {X : mjX} {d C S kc ks : Nat} {R : mjR} (hR : mjC R d) (h1 : kc ≤ C) (h2 : ks ≤ S) : P_302_0 X (d + 1) C S kc ks (b_302_0 R) := by
  intro l0 l1 l2 l3 hp q h
  unfold b_302_0 at h
  refine mjr_aload_n (x := l0) D_302_0 rfl ?_
  refine mjr_aload_n (x := l0) D_302_1 rfl ?_
  refine mjq_gR D_302_2 fr_12_127 h (fun v1 h => ?_)
  refine mjr_iload_n (x := l1) D_302_5 rfl ?_
  refine mjq_aL D_302_6 h (fun v2 h => ?_)
  refine mjq_vI (As := [.long v2]) (rest := []) D_302_7 mr_12_488 V_303 rfl rfl rfl hR (Nat.le_refl _) h1 h2 h (fun v3 hp4 h => ?_)
  refine mjq_istore (lo' := [some (.ref l0), some (.int l1), some (.int l2), some (.int l3), some (.int v3), none, none]) D_302_10 (Nat.le_of_ble_eq_true rfl) rfl ?_
  refine mjr_aload_n (x := l0) D_302_12 rfl ?_
  refine mjq_gR D_302_13 fr_12_136 h (fun v5 h => ?_)
  refine mjr_iload_n (x := l1) D_302_16 rfl ?_
  refine mjr_iload (x := v3) D_302_17 rfl ?_
  refine mjq_sI D_302_19 h (fun hp6 h => ?_)
  refine mjr_iload (x := v3) D_302_20 rfl ?_
  refine mjq_ic (v := (-1 : Int32)) D_302_22 rfl ?_
  refine mjq_icmp_ne (tgt := 40) D_302_23 rfl h (fun h => ?_) (fun h => ?_)
  · refine mjr_aload_n (x := l0) D_302_40 rfl ?_
    refine mjq_gR D_302_41 fr_12_133 h (fun v7 h => ?_)
    refine mjr_iload_n (x := l1) D_302_44 rfl ?_
    refine mjq_aI D_302_45 h (fun v8 h => ?_)
    refine mjr_aload_n (x := l0) D_302_46 rfl ?_
    refine mjq_gR D_302_47 fr_12_30 h (fun v9 h => ?_)
    refine mjr_iload (x := v3) D_302_50 rfl ?_
    refine mjq_aI D_302_52 h (fun v10 h => ?_)
    refine mjq_icmp_eq (tgt := 68) D_302_53 rfl h (fun h => ?_) (fun h => ?_)
    · exact mjG.fg (lo' := [some (.ref l0), some (.int l1), some (.int l2), some (.int l3), none, none, none]) (And.intro rfl (And.intro rfl (And.intro rfl (And.intro rfl True.intro)))) ((t_302_68 hR h1 h2) _ _ _ _ _ _ h)
    · refine mjr_aload_n (x := l0) D_302_56 rfl ?_
      refine mjq_bi (v := (6 : Int32)) D_302_57 rfl ?_
      refine mjr_aload_n (x := l0) D_302_59 rfl ?_
      refine mjq_gR D_302_60 fr_12_130 h (fun v11 h => ?_)
      refine mjr_iload_n (x := l1) D_302_63 rfl ?_
      refine mjq_aI D_302_64 h (fun v12 h => ?_)
      refine mjq_vN (As := [.int (6 : Int32), .int v12]) (rest := []) D_302_65 mr_12_339 V_268 rfl rfl rfl hR (Nat.le_refl _) h1 h2 h (fun  hp13 h => ?_)
      exact mjG.fg (lo' := [some (.ref l0), some (.int l1), some (.int l2), some (.int l3), none, none, none]) (And.intro rfl (And.intro rfl (And.intro rfl (And.intro rfl True.intro)))) ((t_302_68 hR h1 h2) _ _ _ _ _ _ h)
  · refine mjr_aload_n (x := l0) D_302_26 rfl ?_
    refine mjq_ic (v := (5 : Int32)) D_302_27 rfl ?_
    refine mjr_aload_n (x := l0) D_302_28 rfl ?_
    refine mjq_gR D_302_29 fr_12_130 h (fun v14 h => ?_)
    refine mjr_iload_n (x := l1) D_302_32 rfl ?_
    refine mjq_aI D_302_33 h (fun v15 h => ?_)
    refine mjq_vN (As := [.int (5 : Int32), .int v15]) (rest := []) D_302_34 mr_12_339 V_268 rfl rfl rfl hR (Nat.le_refl _) h1 h2 h (fun  hp16 h => ?_)
    refine mjr_goto (tgt := 68) D_302_37 rfl ?_
    exact mjG.fg (lo' := [some (.ref l0), some (.int l1), some (.int l2), some (.int l3), none, none, none]) (And.intro rfl (And.intro rfl (And.intro rfl (And.intro rfl True.intro)))) ((t_302_68 hR h1 h2) _ _ _ _ _ _ h)
noncomputable def f_302 (R : mjR) (a0 : Nat) (a1 : Int32) (a2 : Int32) (a3 : Int32) (hp : mjH) : mjU := b_302_0 R a0 a1 a2 a3 hp
theorem c_302 {R : mjR} {d : Nat} (hR : mjC R d) {a0 : Nat} {a1 : Int32} {a2 : Int32} {a3 : Int32} {hp : mjH} {q : Option Value × mjH} (h : f_302 R a0 a1 a2 a3 hp = some q) : mjM (d + 1) 0 0 302 [.ref a0, .int a1, .int a2, .int a3] hp (mjEq q) :=
  mjM_of Ja_302 (Nat.le_of_ble_eq_true rfl) (mjG.fg (lo' := [some (.ref a0), some (.int a1), some (.int a2), some (.int a3), none, none, none]) (And.intro rfl (And.intro rfl (And.intro rfl (And.intro rfl True.intro)))) ((t_302_0 hR (Nat.le_refl 0) (Nat.le_refl 0)) a0 a1 a2 a3 hp q h))
def J_303 : mjI := (⟨"OwnerHeapModel", "classOf", "(J)I"⟩, 12, prog_14_method_43_code, 4, (some .int), 1, false)
theorem Ja_303 : mjMt 303 = some J_303 := by rfl
theorem D_303_0 : decode J_303.2.2.1 0 = .ok (.iconst 0, 1) := dzq_3 (by decide +kernel)
theorem D_303_1 : decode J_303.2.2.1 1 = .ok (.istore_n 3, 1) := dzq_62 (by decide +kernel)
theorem D_303_2 : decode J_303.2.2.1 2 = .ok (.iload_n 3, 1) := dzq_29 (by decide +kernel)
theorem D_303_3 : decode J_303.2.2.1 3 = .ok (.aload_n 0, 1) := dzq_42 (by decide +kernel)
theorem D_303_4 : decode J_303.2.2.1 4 = .ok (.getfield 17, 3) := dzq_180 (by decide +kernel)
theorem D_303_7 : decode J_303.2.2.1 7 = .ok (.aload_n 0, 1) := dzq_42 (by decide +kernel)
theorem D_303_8 : decode J_303.2.2.1 8 = .ok (.getfield 356, 3) := dzq_180 (by decide +kernel)
theorem D_303_11 : decode J_303.2.2.1 11 = .ok (.iaload, 1) := dzq_46 (by decide +kernel)
theorem D_303_12 : decode J_303.2.2.1 12 = .ok (.if_icmp .ge 38, 3) := dzq_162 (by decide +kernel)
theorem D_303_15 : decode J_303.2.2.1 15 = .ok (.aload_n 0, 1) := dzq_42 (by decide +kernel)
theorem D_303_16 : decode J_303.2.2.1 16 = .ok (.getfield 21, 3) := dzq_180 (by decide +kernel)
theorem D_303_19 : decode J_303.2.2.1 19 = .ok (.bipush 16, 2) := dzq_16 (by decide +kernel)
theorem D_303_21 : decode J_303.2.2.1 21 = .ok (.aload_n 0, 1) := dzq_42 (by decide +kernel)
theorem D_303_22 : decode J_303.2.2.1 22 = .ok (.getfield 356, 3) := dzq_180 (by decide +kernel)
theorem D_303_25 : decode J_303.2.2.1 25 = .ok (.imul, 1) := dzq_104 (by decide +kernel)
theorem D_303_26 : decode J_303.2.2.1 26 = .ok (.iload_n 3, 1) := dzq_29 (by decide +kernel)
theorem D_303_27 : decode J_303.2.2.1 27 = .ok (.iadd, 1) := dzq_96 (by decide +kernel)
theorem D_303_28 : decode J_303.2.2.1 28 = .ok (.laload, 1) := dzq_47 (by decide +kernel)
theorem D_303_29 : decode J_303.2.2.1 29 = .ok (.lload_n 1, 1) := dzq_31 (by decide +kernel)
theorem D_303_30 : decode J_303.2.2.1 30 = .ok (.lcmp, 1) := by decide +kernel
theorem D_303_31 : decode J_303.2.2.1 31 = .ok (.ifCond .ne 13, 3) := dzq_154 (by decide +kernel)
theorem D_303_34 : decode J_303.2.2.1 34 = .ok (.bipush 16, 2) := dzq_16 (by decide +kernel)
theorem D_303_36 : decode J_303.2.2.1 36 = .ok (.aload_n 0, 1) := dzq_42 (by decide +kernel)
theorem D_303_37 : decode J_303.2.2.1 37 = .ok (.getfield 356, 3) := dzq_180 (by decide +kernel)
theorem D_303_40 : decode J_303.2.2.1 40 = .ok (.imul, 1) := dzq_104 (by decide +kernel)
theorem D_303_41 : decode J_303.2.2.1 41 = .ok (.iload_n 3, 1) := dzq_29 (by decide +kernel)
theorem D_303_42 : decode J_303.2.2.1 42 = .ok (.iadd, 1) := dzq_96 (by decide +kernel)
theorem D_303_43 : decode J_303.2.2.1 43 = .ok (.ireturn, 1) := dzq_172 (by decide +kernel)
theorem D_303_44 : decode J_303.2.2.1 44 = .ok (.iinc 3 1, 3) := dzq_132 (by decide +kernel)
theorem D_303_47 : decode J_303.2.2.1 47 = .ok (.goto (-45), 3) := dzq_167 (by decide +kernel)
theorem D_303_50 : decode J_303.2.2.1 50 = .ok (.iconst (-1), 1) := dzq_2 (by decide +kernel)
theorem D_303_51 : decode J_303.2.2.1 51 = .ok (.ireturn, 1) := dzq_172 (by decide +kernel)
def P_303_2 (X : mjX) (d C S kc ks : Nat) (k : Nat → Int64 → Int32 → mjH → mjU) : Prop := ∀ (l0 : Nat) (l1 : Int64) (l3 : Int32) (hp : mjH) (q : Option Value × mjH), k l0 l1 l3 hp = some q → mjG X d C S J_303 (mjEq q) 2 [some (.ref l0), some (.long l1), none, some (.int l3)] [] hp kc ks
def P_303_0 (X : mjX) (d C S kc ks : Nat) (k : Nat → Int64 → mjH → mjU) : Prop := ∀ (l0 : Nat) (l1 : Int64) (hp : mjH) (q : Option Value × mjH), k l0 l1 hp = some q → mjG X d C S J_303 (mjEq q) 0 [some (.ref l0), some (.long l1), none, none] [] hp kc ks
noncomputable def b_303_2 (R : mjR) (k2 : Nat → Int64 → Int32 → mjH → mjU) (l0 : Nat) (l1 : Int64) (l3 : Int32) (hp : mjH) : mjU := gR hp l0 12 11 (fun v1 => gI hp l0 12 63 (fun v2 => aI hp v1 v2 (fun v3 => (if v3 ≤ l3 then some (some (.int (-1 : Int32)), hp) else gR hp l0 12 12 (fun v4 => gI hp l0 12 63 (fun v5 => aL hp v4 (((16 : Int32) * v5) + l3) (fun v6 => (if (lg_cmp v6 l1) = 0 then gI hp l0 12 63 (fun v7 => some (some (.int (((16 : Int32) * v7) + l3)), hp)) else k2 l0 l1 (l3 + (1 : Int32)) hp))))))))
theorem t_303_2 {X : mjX} {d C S kc ks : Nat} {R : mjR} (hR : mjC R d) (h1 : kc ≤ C) (h2 : ks ≤ S) {k2 : Nat → Int64 → Int32 → mjH → mjU} (hk2 : P_303_2 X (d + 1) C S kc ks k2) : P_303_2 X (d + 1) C S kc ks (b_303_2 R k2) := by
  intro l0 l1 l3 hp q h
  unfold b_303_2 at h
  refine mjr_iload_n (x := l3) D_303_2 rfl ?_
  refine mjr_aload_n (x := l0) D_303_3 rfl ?_
  refine mjq_gR D_303_4 fr_12_17 h (fun v1 h => ?_)
  refine mjr_aload_n (x := l0) D_303_7 rfl ?_
  refine mjq_gI D_303_8 fr_12_356 h (fun v2 h => ?_)
  refine mjq_aI D_303_11 h (fun v3 h => ?_)
  refine mjq_icmp_ge (tgt := 50) D_303_12 rfl h (fun h => ?_) (fun h => ?_)
  · refine mjq_ic (v := (-1 : Int32)) D_303_50 rfl ?_
    exact mjq_ret D_303_51 rfl h1 h2 h
  · refine mjr_aload_n (x := l0) D_303_15 rfl ?_
    refine mjq_gR D_303_16 fr_12_21 h (fun v4 h => ?_)
    refine mjq_bi (v := (16 : Int32)) D_303_19 rfl ?_
    refine mjr_aload_n (x := l0) D_303_21 rfl ?_
    refine mjq_gI D_303_22 fr_12_356 h (fun v5 h => ?_)
    refine mjr_imul D_303_25 ?_
    refine mjr_iload_n (x := l3) D_303_26 rfl ?_
    refine mjr_iadd D_303_27 ?_
    refine mjq_aL D_303_28 h (fun v6 h => ?_)
    refine mjr_lload_n (x := l1) D_303_29 rfl ?_
    refine mjr_lcmp D_303_30 ?_
    refine mjq_if_ne (tgt := 44) D_303_31 rfl h (fun h => ?_) (fun h => ?_)
    · refine mjq_iinc (x := l3) (c := (1 : Int32)) (lo' := [some (.ref l0), some (.long l1), none, some (.int (l3 + (1 : Int32)))]) D_303_44 rfl (Nat.le_of_ble_eq_true rfl) rfl rfl ?_
      refine mjr_goto (tgt := 2) D_303_47 rfl ?_
      exact hk2 _ _ _ _ _ h
    · refine mjq_bi (v := (16 : Int32)) D_303_34 rfl ?_
      refine mjr_aload_n (x := l0) D_303_36 rfl ?_
      refine mjq_gI D_303_37 fr_12_356 h (fun v7 h => ?_)
      refine mjr_imul D_303_40 ?_
      refine mjr_iload_n (x := l3) D_303_41 rfl ?_
      refine mjr_iadd D_303_42 ?_
      exact mjq_ret D_303_43 rfl h1 h2 h
noncomputable def L_303_2 (R : mjR) (n : Nat) : Nat → Int64 → Int32 → mjH → mjU := Nat.rec (motive := fun _ => Nat → Int64 → Int32 → mjH → mjU) (fun _ _ _ _ => none) (fun _ self => b_303_2 R self) n
theorem T_303_2 {X : mjX} {d C S kc ks : Nat} {R : mjR} (hR : mjC R d) (h1 : kc ≤ C) (h2 : ks ≤ S) (n : Nat) : P_303_2 X (d + 1) C S kc ks (L_303_2 R n) := by
  induction n with
  | zero => intro _ _ _ _ _ h; exact mj_no h
  | succ n ih => exact t_303_2 hR h1 h2 ih
noncomputable def b_303_0 (R : mjR) (l0 : Nat) (l1 : Int64) (hp : mjH) : mjU := L_303_2 R mjN l0 l1 (0 : Int32) hp
theorem t_303_0 {X : mjX} {d C S kc ks : Nat} {R : mjR} (hR : mjC R d) (h1 : kc ≤ C) (h2 : ks ≤ S) : P_303_0 X (d + 1) C S kc ks (b_303_0 R) := by
  intro l0 l1 hp q h
  unfold b_303_0 at h
  refine mjq_ic (v := (0 : Int32)) D_303_0 rfl ?_
  refine mjq_istore_n (lo' := [some (.ref l0), some (.long l1), none, some (.int (0 : Int32))]) D_303_1 (Nat.le_of_ble_eq_true rfl) rfl ?_
  exact (T_303_2 hR h1 h2 mjN) _ _ _ _ _ h
noncomputable def f_303 (R : mjR) (a0 : Nat) (a1 : Int64) (hp : mjH) : mjU := b_303_0 R a0 a1 hp
theorem c_303 {R : mjR} {d : Nat} (hR : mjC R d) {a0 : Nat} {a1 : Int64} {hp : mjH} {q : Option Value × mjH} (h : f_303 R a0 a1 hp = some q) : mjM (d + 1) 0 0 303 [.ref a0, .long a1] hp (mjEq q) :=
  mjM_of Ja_303 (Nat.le_of_ble_eq_true rfl) (mjG.fg (lo' := [some (.ref a0), some (.long a1), none, none]) (And.intro rfl (And.intro rfl True.intro)) ((t_303_0 hR (Nat.le_refl 0) (Nat.le_refl 0)) a0 a1 hp q h))
def J_304 : mjI := (⟨"OwnerHeapModel", "ownerOf", "(IJZ)I"⟩, 12, prog_14_method_45_code, 5, (some .int), 3, false)
theorem Ja_304 : mjMt 304 = some J_304 := by rfl
theorem D_304_0 : decode J_304.2.2.1 0 = .ok (.lload_n 2, 1) := dzq_32 (by decide +kernel)
theorem D_304_1 : decode J_304.2.2.1 1 = .ok (.ldc2_w 402, 3) := by decide +kernel
theorem D_304_4 : decode J_304.2.2.1 4 = .ok (.lcmp, 1) := by decide +kernel
theorem D_304_5 : decode J_304.2.2.1 5 = .ok (.ifCond .ne 5, 3) := dzq_154 (by decide +kernel)
theorem D_304_8 : decode J_304.2.2.1 8 = .ok (.iconst (-1), 1) := dzq_2 (by decide +kernel)
theorem D_304_9 : decode J_304.2.2.1 9 = .ok (.ireturn, 1) := dzq_172 (by decide +kernel)
theorem D_304_10 : decode J_304.2.2.1 10 = .ok (.iload_n 1, 1) := dzq_27 (by decide +kernel)
theorem D_304_11 : decode J_304.2.2.1 11 = .ok (.iconst (-1), 1) := dzq_2 (by decide +kernel)
theorem D_304_12 : decode J_304.2.2.1 12 = .ok (.if_icmp .eq 16, 3) := dzq_159 (by decide +kernel)
theorem D_304_15 : decode J_304.2.2.1 15 = .ok (.lload_n 2, 1) := dzq_32 (by decide +kernel)
theorem D_304_16 : decode J_304.2.2.1 16 = .ok (.ldc2_w 400, 3) := by decide +kernel
theorem D_304_19 : decode J_304.2.2.1 19 = .ok (.lcmp, 1) := by decide +kernel
theorem D_304_20 : decode J_304.2.2.1 20 = .ok (.ifCond .ne 11, 3) := dzq_154 (by decide +kernel)
theorem D_304_23 : decode J_304.2.2.1 23 = .ok (.iload 4, 2) := dzq_21 (by decide +kernel)
theorem D_304_25 : decode J_304.2.2.1 25 = .ok (.ifCond .eq 6, 3) := dzq_153 (by decide +kernel)
theorem D_304_28 : decode J_304.2.2.1 28 = .ok (.bipush (-9), 2) := dzq_16 (by decide +kernel)
theorem D_304_30 : decode J_304.2.2.1 30 = .ok (.ireturn, 1) := dzq_172 (by decide +kernel)
theorem D_304_31 : decode J_304.2.2.1 31 = .ok (.lload_n 2, 1) := dzq_32 (by decide +kernel)
theorem D_304_32 : decode J_304.2.2.1 32 = .ok (.ldc2_w 400, 3) := by decide +kernel
theorem D_304_35 : decode J_304.2.2.1 35 = .ok (.lcmp, 1) := by decide +kernel
theorem D_304_36 : decode J_304.2.2.1 36 = .ok (.ifCond .ne 8, 3) := dzq_154 (by decide +kernel)
theorem D_304_39 : decode J_304.2.2.1 39 = .ok (.bipush (-2), 2) := dzq_16 (by decide +kernel)
theorem D_304_41 : decode J_304.2.2.1 41 = .ok (.goto 9, 3) := dzq_167 (by decide +kernel)
theorem D_304_44 : decode J_304.2.2.1 44 = .ok (.aload_n 0, 1) := dzq_42 (by decide +kernel)
theorem D_304_45 : decode J_304.2.2.1 45 = .ok (.iload_n 1, 1) := dzq_27 (by decide +kernel)
theorem D_304_46 : decode J_304.2.2.1 46 = .ok (.lload_n 2, 1) := dzq_32 (by decide +kernel)
theorem D_304_47 : decode J_304.2.2.1 47 = .ok (.invokevirtual 481, 3) := dzq_182 (by decide +kernel)
theorem D_304_50 : decode J_304.2.2.1 50 = .ok (.ireturn, 1) := dzq_172 (by decide +kernel)
def P_304_28 (X : mjX) (d C S kc ks : Nat) (k : mjH → mjU) : Prop := ∀  (hp : mjH) (q : Option Value × mjH), k  hp = some q → mjG X d C S J_304 (mjEq q) 28 [none, none, none, none, none] [] hp kc ks
def P_304_31 (X : mjX) (d C S kc ks : Nat) (k : Nat → Int32 → Int64 → mjH → mjU) : Prop := ∀ (l0 : Nat) (l1 : Int32) (l2 : Int64) (hp : mjH) (q : Option Value × mjH), k l0 l1 l2 hp = some q → mjG X d C S J_304 (mjEq q) 31 [some (.ref l0), some (.int l1), some (.long l2), none, none] [] hp kc ks
def P_304_0 (X : mjX) (d C S kc ks : Nat) (k : Nat → Int32 → Int64 → Int32 → mjH → mjU) : Prop := ∀ (l0 : Nat) (l1 : Int32) (l2 : Int64) (l4 : Int32) (hp : mjH) (q : Option Value × mjH), k l0 l1 l2 l4 hp = some q → mjG X d C S J_304 (mjEq q) 0 [some (.ref l0), some (.int l1), some (.long l2), none, some (.int l4)] [] hp kc ks
noncomputable def b_304_28 (R : mjR)  (hp : mjH) : mjU := some (some (.int (-9 : Int32)), hp)
theorem t_304_28 {X : mjX} {d C S kc ks : Nat} {R : mjR} (hR : mjC R d) (h1 : kc ≤ C) (h2 : ks ≤ S) : P_304_28 X (d + 1) C S kc ks (b_304_28 R) := by
  intro  hp q h
  unfold b_304_28 at h
  refine mjq_bi (v := (-9 : Int32)) D_304_28 rfl ?_
  exact mjq_ret D_304_30 rfl h1 h2 h
noncomputable def b_304_31 (R : mjR) (l0 : Nat) (l1 : Int32) (l2 : Int64) (hp : mjH) : mjU := (if (lg_cmp l2 (-2 : Int64)) = 0 then some (some (.int (-2 : Int32)), hp) else rV hp l0 12 (bI (R 305 [.ref l0, .int l1, .long l2] hp) (fun v1 hp2 => some (some (.int v1), hp2))))
theorem t_304_31 {X : mjX} {d C S kc ks : Nat} {R : mjR} (hR : mjC R d) (h1 : kc ≤ C) (h2 : ks ≤ S) : P_304_31 X (d + 1) C S kc ks (b_304_31 R) := by
  intro l0 l1 l2 hp q h
  unfold b_304_31 at h
  refine mjr_lload_n (x := l2) D_304_31 rfl ?_
  refine mjr_ldc2 (v := (-2 : Int64)) D_304_32 (by decide +kernel) ?_
  refine mjr_lcmp D_304_35 ?_
  refine mjq_if_ne (tgt := 44) D_304_36 rfl h (fun h => ?_) (fun h => ?_)
  · refine mjr_aload_n (x := l0) D_304_44 rfl ?_
    refine mjr_iload_n (x := l1) D_304_45 rfl ?_
    refine mjr_lload_n (x := l2) D_304_46 rfl ?_
    refine mjq_vI (As := [.int l1, .long l2]) (rest := []) D_304_47 mr_12_481 V_305 rfl rfl rfl hR (Nat.le_refl _) h1 h2 h (fun v1 hp2 h => ?_)
    exact mjq_ret D_304_50 rfl h1 h2 h
  · refine mjq_bi (v := (-2 : Int32)) D_304_39 rfl ?_
    refine mjr_goto (tgt := 50) D_304_41 rfl ?_
    exact mjq_ret D_304_50 rfl h1 h2 h
noncomputable def b_304_0 (R : mjR) (l0 : Nat) (l1 : Int32) (l2 : Int64) (l4 : Int32) (hp : mjH) : mjU := (if (lg_cmp l2 (-1 : Int64)) = 0 then some (some (.int (-1 : Int32)), hp) else (if l1 = (-1 : Int32) then b_304_28 R hp else (if (lg_cmp l2 (-2 : Int64)) = 0 then (if l4 = 0 then b_304_31 R l0 l1 l2 hp else b_304_28 R hp) else b_304_31 R l0 l1 l2 hp)))
theorem t_304_0 {X : mjX} {d C S kc ks : Nat} {R : mjR} (hR : mjC R d) (h1 : kc ≤ C) (h2 : ks ≤ S) : P_304_0 X (d + 1) C S kc ks (b_304_0 R) := by
  intro l0 l1 l2 l4 hp q h
  unfold b_304_0 at h
  refine mjr_lload_n (x := l2) D_304_0 rfl ?_
  refine mjr_ldc2 (v := (-1 : Int64)) D_304_1 (by decide +kernel) ?_
  refine mjr_lcmp D_304_4 ?_
  refine mjq_if_ne (tgt := 10) D_304_5 rfl h (fun h => ?_) (fun h => ?_)
  · refine mjr_iload_n (x := l1) D_304_10 rfl ?_
    refine mjq_ic (v := (-1 : Int32)) D_304_11 rfl ?_
    refine mjq_icmp_eq (tgt := 28) D_304_12 rfl h (fun h => ?_) (fun h => ?_)
    · exact mjG.fg (lo' := [none, none, none, none, none]) True.intro ((t_304_28 hR h1 h2) _ _ h)
    · refine mjr_lload_n (x := l2) D_304_15 rfl ?_
      refine mjr_ldc2 (v := (-2 : Int64)) D_304_16 (by decide +kernel) ?_
      refine mjr_lcmp D_304_19 ?_
      refine mjq_if_ne (tgt := 31) D_304_20 rfl h (fun h => ?_) (fun h => ?_)
      · exact mjG.fg (lo' := [some (.ref l0), some (.int l1), some (.long l2), none, none]) (And.intro rfl (And.intro rfl (And.intro rfl True.intro))) ((t_304_31 hR h1 h2) _ _ _ _ _ h)
      · refine mjr_iload (x := l4) D_304_23 rfl ?_
        refine mjq_if_eq (tgt := 31) D_304_25 rfl h (fun h => ?_) (fun h => ?_)
        · exact mjG.fg (lo' := [some (.ref l0), some (.int l1), some (.long l2), none, none]) (And.intro rfl (And.intro rfl (And.intro rfl True.intro))) ((t_304_31 hR h1 h2) _ _ _ _ _ h)
        · exact mjG.fg (lo' := [none, none, none, none, none]) True.intro ((t_304_28 hR h1 h2) _ _ h)
  · refine mjq_ic (v := (-1 : Int32)) D_304_8 rfl ?_
    exact mjq_ret D_304_9 rfl h1 h2 h
noncomputable def f_304 (R : mjR) (a0 : Nat) (a1 : Int32) (a2 : Int64) (a3 : Int32) (hp : mjH) : mjU := b_304_0 R a0 a1 a2 a3 hp
theorem c_304 {R : mjR} {d : Nat} (hR : mjC R d) {a0 : Nat} {a1 : Int32} {a2 : Int64} {a3 : Int32} {hp : mjH} {q : Option Value × mjH} (h : f_304 R a0 a1 a2 a3 hp = some q) : mjM (d + 1) 0 0 304 [.ref a0, .int a1, .long a2, .int a3] hp (mjEq q) :=
  mjM_of Ja_304 (Nat.le_of_ble_eq_true rfl) (mjG.fg (lo' := [some (.ref a0), some (.int a1), some (.long a2), none, some (.int a3)]) (And.intro rfl (And.intro rfl (And.intro rfl (And.intro rfl True.intro)))) ((t_304_0 hR (Nat.le_refl 0) (Nat.le_refl 0)) a0 a1 a2 a3 hp q h))
def J_305 : mjI := (⟨"OwnerHeapModel", "nameOf", "(IJ)I"⟩, 12, prog_14_method_44_code, 5, (some .int), 2, false)
theorem Ja_305 : mjMt 305 = some J_305 := by rfl
theorem D_305_0 : decode J_305.2.2.1 0 = .ok (.iconst 0, 1) := dzq_3 (by decide +kernel)
theorem D_305_1 : decode J_305.2.2.1 1 = .ok (.istore 4, 2) := dzq_54 (by decide +kernel)
theorem D_305_3 : decode J_305.2.2.1 3 = .ok (.iload 4, 2) := dzq_21 (by decide +kernel)
theorem D_305_5 : decode J_305.2.2.1 5 = .ok (.aload_n 0, 1) := dzq_42 (by decide +kernel)
theorem D_305_6 : decode J_305.2.2.1 6 = .ok (.getfield 30, 3) := dzq_180 (by decide +kernel)
theorem D_305_9 : decode J_305.2.2.1 9 = .ok (.iload_n 1, 1) := dzq_27 (by decide +kernel)
theorem D_305_10 : decode J_305.2.2.1 10 = .ok (.iaload, 1) := dzq_46 (by decide +kernel)
theorem D_305_11 : decode J_305.2.2.1 11 = .ok (.if_icmp .ge 28, 3) := dzq_162 (by decide +kernel)
theorem D_305_14 : decode J_305.2.2.1 14 = .ok (.aload_n 0, 1) := dzq_42 (by decide +kernel)
theorem D_305_15 : decode J_305.2.2.1 15 = .ok (.getfield 51, 3) := dzq_180 (by decide +kernel)
theorem D_305_18 : decode J_305.2.2.1 18 = .ok (.iconst 5, 1) := dzq_8 (by decide +kernel)
theorem D_305_19 : decode J_305.2.2.1 19 = .ok (.iload_n 1, 1) := dzq_27 (by decide +kernel)
theorem D_305_20 : decode J_305.2.2.1 20 = .ok (.imul, 1) := dzq_104 (by decide +kernel)
theorem D_305_21 : decode J_305.2.2.1 21 = .ok (.iload 4, 2) := dzq_21 (by decide +kernel)
theorem D_305_23 : decode J_305.2.2.1 23 = .ok (.iadd, 1) := dzq_96 (by decide +kernel)
theorem D_305_24 : decode J_305.2.2.1 24 = .ok (.laload, 1) := dzq_47 (by decide +kernel)
theorem D_305_25 : decode J_305.2.2.1 25 = .ok (.lload_n 2, 1) := dzq_32 (by decide +kernel)
theorem D_305_26 : decode J_305.2.2.1 26 = .ok (.lcmp, 1) := by decide +kernel
theorem D_305_27 : decode J_305.2.2.1 27 = .ok (.ifCond .ne 6, 3) := dzq_154 (by decide +kernel)
theorem D_305_30 : decode J_305.2.2.1 30 = .ok (.iload 4, 2) := dzq_21 (by decide +kernel)
theorem D_305_32 : decode J_305.2.2.1 32 = .ok (.ireturn, 1) := dzq_172 (by decide +kernel)
theorem D_305_33 : decode J_305.2.2.1 33 = .ok (.iinc 4 1, 3) := dzq_132 (by decide +kernel)
theorem D_305_36 : decode J_305.2.2.1 36 = .ok (.goto (-33), 3) := dzq_167 (by decide +kernel)
theorem D_305_39 : decode J_305.2.2.1 39 = .ok (.bipush (-9), 2) := dzq_16 (by decide +kernel)
theorem D_305_41 : decode J_305.2.2.1 41 = .ok (.ireturn, 1) := dzq_172 (by decide +kernel)
def P_305_3 (X : mjX) (d C S kc ks : Nat) (k : Nat → Int32 → Int64 → Int32 → mjH → mjU) : Prop := ∀ (l0 : Nat) (l1 : Int32) (l2 : Int64) (l4 : Int32) (hp : mjH) (q : Option Value × mjH), k l0 l1 l2 l4 hp = some q → mjG X d C S J_305 (mjEq q) 3 [some (.ref l0), some (.int l1), some (.long l2), none, some (.int l4)] [] hp kc ks
def P_305_0 (X : mjX) (d C S kc ks : Nat) (k : Nat → Int32 → Int64 → mjH → mjU) : Prop := ∀ (l0 : Nat) (l1 : Int32) (l2 : Int64) (hp : mjH) (q : Option Value × mjH), k l0 l1 l2 hp = some q → mjG X d C S J_305 (mjEq q) 0 [some (.ref l0), some (.int l1), some (.long l2), none, none] [] hp kc ks
noncomputable def b_305_3 (R : mjR) (k3 : Nat → Int32 → Int64 → Int32 → mjH → mjU) (l0 : Nat) (l1 : Int32) (l2 : Int64) (l4 : Int32) (hp : mjH) : mjU := gR hp l0 12 15 (fun v1 => aI hp v1 l1 (fun v2 => (if v2 ≤ l4 then some (some (.int (-9 : Int32)), hp) else gR hp l0 12 22 (fun v3 => aL hp v3 (((5 : Int32) * l1) + l4) (fun v4 => (if (lg_cmp v4 l2) = 0 then some (some (.int l4), hp) else k3 l0 l1 l2 (l4 + (1 : Int32)) hp))))))
theorem t_305_3 {X : mjX} {d C S kc ks : Nat} {R : mjR} (hR : mjC R d) (h1 : kc ≤ C) (h2 : ks ≤ S) {k3 : Nat → Int32 → Int64 → Int32 → mjH → mjU} (hk3 : P_305_3 X (d + 1) C S kc ks k3) : P_305_3 X (d + 1) C S kc ks (b_305_3 R k3) := by
  intro l0 l1 l2 l4 hp q h
  unfold b_305_3 at h
  refine mjr_iload (x := l4) D_305_3 rfl ?_
  refine mjr_aload_n (x := l0) D_305_5 rfl ?_
  refine mjq_gR D_305_6 fr_12_30 h (fun v1 h => ?_)
  refine mjr_iload_n (x := l1) D_305_9 rfl ?_
  refine mjq_aI D_305_10 h (fun v2 h => ?_)
  refine mjq_icmp_ge (tgt := 39) D_305_11 rfl h (fun h => ?_) (fun h => ?_)
  · refine mjq_bi (v := (-9 : Int32)) D_305_39 rfl ?_
    exact mjq_ret D_305_41 rfl h1 h2 h
  · refine mjr_aload_n (x := l0) D_305_14 rfl ?_
    refine mjq_gR D_305_15 fr_12_51 h (fun v3 h => ?_)
    refine mjq_ic (v := (5 : Int32)) D_305_18 rfl ?_
    refine mjr_iload_n (x := l1) D_305_19 rfl ?_
    refine mjr_imul D_305_20 ?_
    refine mjr_iload (x := l4) D_305_21 rfl ?_
    refine mjr_iadd D_305_23 ?_
    refine mjq_aL D_305_24 h (fun v4 h => ?_)
    refine mjr_lload_n (x := l2) D_305_25 rfl ?_
    refine mjr_lcmp D_305_26 ?_
    refine mjq_if_ne (tgt := 33) D_305_27 rfl h (fun h => ?_) (fun h => ?_)
    · refine mjq_iinc (x := l4) (c := (1 : Int32)) (lo' := [some (.ref l0), some (.int l1), some (.long l2), none, some (.int (l4 + (1 : Int32)))]) D_305_33 rfl (Nat.le_of_ble_eq_true rfl) rfl rfl ?_
      refine mjr_goto (tgt := 3) D_305_36 rfl ?_
      exact hk3 _ _ _ _ _ _ h
    · refine mjr_iload (x := l4) D_305_30 rfl ?_
      exact mjq_ret D_305_32 rfl h1 h2 h
noncomputable def L_305_3 (R : mjR) (n : Nat) : Nat → Int32 → Int64 → Int32 → mjH → mjU := Nat.rec (motive := fun _ => Nat → Int32 → Int64 → Int32 → mjH → mjU) (fun _ _ _ _ _ => none) (fun _ self => b_305_3 R self) n
theorem T_305_3 {X : mjX} {d C S kc ks : Nat} {R : mjR} (hR : mjC R d) (h1 : kc ≤ C) (h2 : ks ≤ S) (n : Nat) : P_305_3 X (d + 1) C S kc ks (L_305_3 R n) := by
  induction n with
  | zero => intro _ _ _ _ _ _ h; exact mj_no h
  | succ n ih => exact t_305_3 hR h1 h2 ih
noncomputable def b_305_0 (R : mjR) (l0 : Nat) (l1 : Int32) (l2 : Int64) (hp : mjH) : mjU := L_305_3 R mjN l0 l1 l2 (0 : Int32) hp
theorem t_305_0 {X : mjX} {d C S kc ks : Nat} {R : mjR} (hR : mjC R d) (h1 : kc ≤ C) (h2 : ks ≤ S) : P_305_0 X (d + 1) C S kc ks (b_305_0 R) := by
  intro l0 l1 l2 hp q h
  unfold b_305_0 at h
  refine mjq_ic (v := (0 : Int32)) D_305_0 rfl ?_
  refine mjq_istore (lo' := [some (.ref l0), some (.int l1), some (.long l2), none, some (.int (0 : Int32))]) D_305_1 (Nat.le_of_ble_eq_true rfl) rfl ?_
  exact (T_305_3 hR h1 h2 mjN) _ _ _ _ _ _ h
noncomputable def f_305 (R : mjR) (a0 : Nat) (a1 : Int32) (a2 : Int64) (hp : mjH) : mjU := b_305_0 R a0 a1 a2 hp
theorem c_305 {R : mjR} {d : Nat} (hR : mjC R d) {a0 : Nat} {a1 : Int32} {a2 : Int64} {hp : mjH} {q : Option Value × mjH} (h : f_305 R a0 a1 a2 hp = some q) : mjM (d + 1) 0 0 305 [.ref a0, .int a1, .long a2] hp (mjEq q) :=
  mjM_of Ja_305 (Nat.le_of_ble_eq_true rfl) (mjG.fg (lo' := [some (.ref a0), some (.int a1), some (.long a2), none, none]) (And.intro rfl (And.intro rfl (And.intro rfl True.intro))) ((t_305_0 hR (Nat.le_refl 0) (Nat.le_refl 0)) a0 a1 a2 hp q h))
def J_306 : mjI := (⟨"OwnerHeapModel", "judgeRing", "(I)V"⟩, 12, prog_14_method_55_code, 4, none, 1, false)
theorem Ja_306 : mjMt 306 = some J_306 := by rfl
theorem D_306_0 : decode J_306.2.2.1 0 = .ok (.aload_n 0, 1) := dzq_42 (by decide +kernel)
theorem D_306_1 : decode J_306.2.2.1 1 = .ok (.iload_n 1, 1) := dzq_27 (by decide +kernel)
theorem D_306_2 : decode J_306.2.2.1 2 = .ok (.invokevirtual 538, 3) := dzq_182 (by decide +kernel)
theorem D_306_5 : decode J_306.2.2.1 5 = .ok (.istore_n 2, 1) := dzq_61 (by decide +kernel)
theorem D_306_6 : decode J_306.2.2.1 6 = .ok (.iconst 0, 1) := dzq_3 (by decide +kernel)
theorem D_306_7 : decode J_306.2.2.1 7 = .ok (.istore_n 3, 1) := dzq_62 (by decide +kernel)
theorem D_306_8 : decode J_306.2.2.1 8 = .ok (.iload_n 3, 1) := dzq_29 (by decide +kernel)
theorem D_306_9 : decode J_306.2.2.1 9 = .ok (.bipush 16, 2) := dzq_16 (by decide +kernel)
theorem D_306_11 : decode J_306.2.2.1 11 = .ok (.if_icmp .ge 25, 3) := dzq_162 (by decide +kernel)
theorem D_306_14 : decode J_306.2.2.1 14 = .ok (.iload_n 2, 1) := dzq_28 (by decide +kernel)
theorem D_306_15 : decode J_306.2.2.1 15 = .ok (.iconst (-1), 1) := dzq_2 (by decide +kernel)
theorem D_306_16 : decode J_306.2.2.1 16 = .ok (.if_icmp .eq 20, 3) := dzq_159 (by decide +kernel)
theorem D_306_19 : decode J_306.2.2.1 19 = .ok (.iload_n 2, 1) := dzq_28 (by decide +kernel)
theorem D_306_20 : decode J_306.2.2.1 20 = .ok (.iload_n 1, 1) := dzq_27 (by decide +kernel)
theorem D_306_21 : decode J_306.2.2.1 21 = .ok (.if_icmp .eq 15, 3) := dzq_159 (by decide +kernel)
theorem D_306_24 : decode J_306.2.2.1 24 = .ok (.aload_n 0, 1) := dzq_42 (by decide +kernel)
theorem D_306_25 : decode J_306.2.2.1 25 = .ok (.iload_n 2, 1) := dzq_28 (by decide +kernel)
theorem D_306_26 : decode J_306.2.2.1 26 = .ok (.invokevirtual 538, 3) := dzq_182 (by decide +kernel)
theorem D_306_29 : decode J_306.2.2.1 29 = .ok (.istore_n 2, 1) := dzq_61 (by decide +kernel)
theorem D_306_30 : decode J_306.2.2.1 30 = .ok (.iinc 3 1, 3) := dzq_132 (by decide +kernel)
theorem D_306_33 : decode J_306.2.2.1 33 = .ok (.goto (-25), 3) := dzq_167 (by decide +kernel)
theorem D_306_36 : decode J_306.2.2.1 36 = .ok (.iload_n 2, 1) := dzq_28 (by decide +kernel)
theorem D_306_37 : decode J_306.2.2.1 37 = .ok (.iload_n 1, 1) := dzq_27 (by decide +kernel)
theorem D_306_38 : decode J_306.2.2.1 38 = .ok (.if_icmp .ne 15, 3) := dzq_160 (by decide +kernel)
theorem D_306_41 : decode J_306.2.2.1 41 = .ok (.aload_n 0, 1) := dzq_42 (by decide +kernel)
theorem D_306_42 : decode J_306.2.2.1 42 = .ok (.bipush 11, 2) := dzq_16 (by decide +kernel)
theorem D_306_44 : decode J_306.2.2.1 44 = .ok (.aload_n 0, 1) := dzq_42 (by decide +kernel)
theorem D_306_45 : decode J_306.2.2.1 45 = .ok (.getfield 27, 3) := dzq_180 (by decide +kernel)
theorem D_306_48 : decode J_306.2.2.1 48 = .ok (.iload_n 1, 1) := dzq_27 (by decide +kernel)
theorem D_306_49 : decode J_306.2.2.1 49 = .ok (.iaload, 1) := dzq_46 (by decide +kernel)
theorem D_306_50 : decode J_306.2.2.1 50 = .ok (.invokevirtual 339, 3) := dzq_182 (by decide +kernel)
theorem D_306_53 : decode J_306.2.2.1 53 = .ok (.return_, 1) := dzq_177 (by decide +kernel)
def P_306_36 (X : mjX) (d C S kc ks : Nat) (k : Nat → Int32 → Int32 → mjH → mjU) : Prop := ∀ (l0 : Nat) (l1 : Int32) (l2 : Int32) (hp : mjH) (q : Option Value × mjH), k l0 l1 l2 hp = some q → mjG X d C S J_306 (mjEq q) 36 [some (.ref l0), some (.int l1), some (.int l2), none] [] hp kc ks
def P_306_8 (X : mjX) (d C S kc ks : Nat) (k : Nat → Int32 → Int32 → Int32 → mjH → mjU) : Prop := ∀ (l0 : Nat) (l1 : Int32) (l2 : Int32) (l3 : Int32) (hp : mjH) (q : Option Value × mjH), k l0 l1 l2 l3 hp = some q → mjG X d C S J_306 (mjEq q) 8 [some (.ref l0), some (.int l1), some (.int l2), some (.int l3)] [] hp kc ks
def P_306_0 (X : mjX) (d C S kc ks : Nat) (k : Nat → Int32 → mjH → mjU) : Prop := ∀ (l0 : Nat) (l1 : Int32) (hp : mjH) (q : Option Value × mjH), k l0 l1 hp = some q → mjG X d C S J_306 (mjEq q) 0 [some (.ref l0), some (.int l1), none, none] [] hp kc ks
noncomputable def b_306_36 (R : mjR) (l0 : Nat) (l1 : Int32) (l2 : Int32) (hp : mjH) : mjU := (if l2 = l1 then gR hp l0 12 14 (fun v1 => aI hp v1 l1 (fun v2 => rV hp l0 12 (bN (R 268 [.ref l0, .int (11 : Int32), .int v2] hp) (fun  hp3 => some (none, hp3))))) else some (none, hp))
theorem t_306_36 {X : mjX} {d C S kc ks : Nat} {R : mjR} (hR : mjC R d) (h1 : kc ≤ C) (h2 : ks ≤ S) : P_306_36 X (d + 1) C S kc ks (b_306_36 R) := by
  intro l0 l1 l2 hp q h
  unfold b_306_36 at h
  refine mjr_iload_n (x := l2) D_306_36 rfl ?_
  refine mjr_iload_n (x := l1) D_306_37 rfl ?_
  refine mjq_icmp_ne (tgt := 53) D_306_38 rfl h (fun h => ?_) (fun h => ?_)
  · exact mjq_nret D_306_53 rfl h1 h2 h
  · refine mjr_aload_n (x := l0) D_306_41 rfl ?_
    refine mjq_bi (v := (11 : Int32)) D_306_42 rfl ?_
    refine mjr_aload_n (x := l0) D_306_44 rfl ?_
    refine mjq_gR D_306_45 fr_12_27 h (fun v1 h => ?_)
    refine mjr_iload_n (x := l1) D_306_48 rfl ?_
    refine mjq_aI D_306_49 h (fun v2 h => ?_)
    refine mjq_vN (As := [.int (11 : Int32), .int v2]) (rest := []) D_306_50 mr_12_339 V_268 rfl rfl rfl hR (Nat.le_refl _) h1 h2 h (fun  hp3 h => ?_)
    exact mjq_nret D_306_53 rfl h1 h2 h
noncomputable def b_306_8 (R : mjR) (k8 : Nat → Int32 → Int32 → Int32 → mjH → mjU) (l0 : Nat) (l1 : Int32) (l2 : Int32) (l3 : Int32) (hp : mjH) : mjU := (if (16 : Int32) ≤ l3 then b_306_36 R l0 l1 l2 hp else (if l2 = (-1 : Int32) then b_306_36 R l0 l1 l2 hp else (if l2 = l1 then b_306_36 R l0 l1 l2 hp else rV hp l0 12 (bI (R 242 [.ref l0, .int l2] hp) (fun v1 hp2 => k8 l0 l1 v1 (l3 + (1 : Int32)) hp2)))))
theorem t_306_8 {X : mjX} {d C S kc ks : Nat} {R : mjR} (hR : mjC R d) (h1 : kc ≤ C) (h2 : ks ≤ S) {k8 : Nat → Int32 → Int32 → Int32 → mjH → mjU} (hk8 : P_306_8 X (d + 1) C S kc ks k8) : P_306_8 X (d + 1) C S kc ks (b_306_8 R k8) := by
  intro l0 l1 l2 l3 hp q h
  unfold b_306_8 at h
  refine mjr_iload_n (x := l3) D_306_8 rfl ?_
  refine mjq_bi (v := (16 : Int32)) D_306_9 rfl ?_
  refine mjq_icmp_ge (tgt := 36) D_306_11 rfl h (fun h => ?_) (fun h => ?_)
  · exact mjG.fg (lo' := [some (.ref l0), some (.int l1), some (.int l2), none]) (And.intro rfl (And.intro rfl (And.intro rfl True.intro))) ((t_306_36 hR h1 h2) _ _ _ _ _ h)
  · refine mjr_iload_n (x := l2) D_306_14 rfl ?_
    refine mjq_ic (v := (-1 : Int32)) D_306_15 rfl ?_
    refine mjq_icmp_eq (tgt := 36) D_306_16 rfl h (fun h => ?_) (fun h => ?_)
    · exact mjG.fg (lo' := [some (.ref l0), some (.int l1), some (.int l2), none]) (And.intro rfl (And.intro rfl (And.intro rfl True.intro))) ((t_306_36 hR h1 h2) _ _ _ _ _ h)
    · refine mjr_iload_n (x := l2) D_306_19 rfl ?_
      refine mjr_iload_n (x := l1) D_306_20 rfl ?_
      refine mjq_icmp_eq (tgt := 36) D_306_21 rfl h (fun h => ?_) (fun h => ?_)
      · exact mjG.fg (lo' := [some (.ref l0), some (.int l1), some (.int l2), none]) (And.intro rfl (And.intro rfl (And.intro rfl True.intro))) ((t_306_36 hR h1 h2) _ _ _ _ _ h)
      · refine mjr_aload_n (x := l0) D_306_24 rfl ?_
        refine mjr_iload_n (x := l2) D_306_25 rfl ?_
        refine mjq_vI (As := [.int l2]) (rest := []) D_306_26 mr_12_538 V_242 rfl rfl rfl hR (Nat.le_refl _) h1 h2 h (fun v1 hp2 h => ?_)
        refine mjq_istore_n (lo' := [some (.ref l0), some (.int l1), some (.int v1), some (.int l3)]) D_306_29 (Nat.le_of_ble_eq_true rfl) rfl ?_
        refine mjq_iinc (x := l3) (c := (1 : Int32)) (lo' := [some (.ref l0), some (.int l1), some (.int v1), some (.int (l3 + (1 : Int32)))]) D_306_30 rfl (Nat.le_of_ble_eq_true rfl) rfl rfl ?_
        refine mjr_goto (tgt := 8) D_306_33 rfl ?_
        exact hk8 _ _ _ _ _ _ h
noncomputable def L_306_8 (R : mjR) (n : Nat) : Nat → Int32 → Int32 → Int32 → mjH → mjU := Nat.rec (motive := fun _ => Nat → Int32 → Int32 → Int32 → mjH → mjU) (fun _ _ _ _ _ => none) (fun _ self => b_306_8 R self) n
theorem T_306_8 {X : mjX} {d C S kc ks : Nat} {R : mjR} (hR : mjC R d) (h1 : kc ≤ C) (h2 : ks ≤ S) (n : Nat) : P_306_8 X (d + 1) C S kc ks (L_306_8 R n) := by
  induction n with
  | zero => intro _ _ _ _ _ _ h; exact mj_no h
  | succ n ih => exact t_306_8 hR h1 h2 ih
noncomputable def b_306_0 (R : mjR) (l0 : Nat) (l1 : Int32) (hp : mjH) : mjU := rV hp l0 12 (bI (R 242 [.ref l0, .int l1] hp) (fun v1 hp2 => L_306_8 R mjN l0 l1 v1 (0 : Int32) hp2))
theorem t_306_0 {X : mjX} {d C S kc ks : Nat} {R : mjR} (hR : mjC R d) (h1 : kc ≤ C) (h2 : ks ≤ S) : P_306_0 X (d + 1) C S kc ks (b_306_0 R) := by
  intro l0 l1 hp q h
  unfold b_306_0 at h
  refine mjr_aload_n (x := l0) D_306_0 rfl ?_
  refine mjr_iload_n (x := l1) D_306_1 rfl ?_
  refine mjq_vI (As := [.int l1]) (rest := []) D_306_2 mr_12_538 V_242 rfl rfl rfl hR (Nat.le_refl _) h1 h2 h (fun v1 hp2 h => ?_)
  refine mjq_istore_n (lo' := [some (.ref l0), some (.int l1), some (.int v1), none]) D_306_5 (Nat.le_of_ble_eq_true rfl) rfl ?_
  refine mjq_ic (v := (0 : Int32)) D_306_6 rfl ?_
  refine mjq_istore_n (lo' := [some (.ref l0), some (.int l1), some (.int v1), some (.int (0 : Int32))]) D_306_7 (Nat.le_of_ble_eq_true rfl) rfl ?_
  exact (T_306_8 hR h1 h2 mjN) _ _ _ _ _ _ h
noncomputable def f_306 (R : mjR) (a0 : Nat) (a1 : Int32) (hp : mjH) : mjU := b_306_0 R a0 a1 hp
theorem c_306 {R : mjR} {d : Nat} (hR : mjC R d) {a0 : Nat} {a1 : Int32} {hp : mjH} {q : Option Value × mjH} (h : f_306 R a0 a1 hp = some q) : mjM (d + 1) 0 0 306 [.ref a0, .int a1] hp (mjEq q) :=
  mjM_of Ja_306 (Nat.le_of_ble_eq_true rfl) (mjG.fg (lo' := [some (.ref a0), some (.int a1), none, none]) (And.intro rfl (And.intro rfl True.intro)) ((t_306_0 hR (Nat.le_refl 0) (Nat.le_refl 0)) a0 a1 hp q h))
def J_307 : mjI := (⟨"OwnerHeapModel", "judgeIns", "(I)V"⟩, 12, prog_14_method_56_code, 3, none, 1, false)
theorem Ja_307 : mjMt 307 = some J_307 := by rfl
theorem D_307_0 : decode J_307.2.2.1 0 = .ok (.bipush 8, 2) := dzq_16 (by decide +kernel)
theorem D_307_2 : decode J_307.2.2.1 2 = .ok (.iload_n 1, 1) := dzq_27 (by decide +kernel)
theorem D_307_3 : decode J_307.2.2.1 3 = .ok (.imul, 1) := dzq_104 (by decide +kernel)
theorem D_307_4 : decode J_307.2.2.1 4 = .ok (.istore_n 2, 1) := dzq_61 (by decide +kernel)
theorem D_307_5 : decode J_307.2.2.1 5 = .ok (.iload_n 2, 1) := dzq_28 (by decide +kernel)
theorem D_307_6 : decode J_307.2.2.1 6 = .ok (.bipush 8, 2) := dzq_16 (by decide +kernel)
theorem D_307_8 : decode J_307.2.2.1 8 = .ok (.iload_n 1, 1) := dzq_27 (by decide +kernel)
theorem D_307_9 : decode J_307.2.2.1 9 = .ok (.imul, 1) := dzq_104 (by decide +kernel)
theorem D_307_10 : decode J_307.2.2.1 10 = .ok (.aload_n 0, 1) := dzq_42 (by decide +kernel)
theorem D_307_11 : decode J_307.2.2.1 11 = .ok (.getfield 36, 3) := dzq_180 (by decide +kernel)
theorem D_307_14 : decode J_307.2.2.1 14 = .ok (.iload_n 1, 1) := dzq_27 (by decide +kernel)
theorem D_307_15 : decode J_307.2.2.1 15 = .ok (.iaload, 1) := dzq_46 (by decide +kernel)
theorem D_307_16 : decode J_307.2.2.1 16 = .ok (.iadd, 1) := dzq_96 (by decide +kernel)
theorem D_307_17 : decode J_307.2.2.1 17 = .ok (.if_icmp .ge 94, 3) := dzq_162 (by decide +kernel)
theorem D_307_20 : decode J_307.2.2.1 20 = .ok (.aload_n 0, 1) := dzq_42 (by decide +kernel)
theorem D_307_21 : decode J_307.2.2.1 21 = .ok (.getfield 333, 3) := dzq_180 (by decide +kernel)
theorem D_307_24 : decode J_307.2.2.1 24 = .ok (.ifCond .ne 87, 3) := dzq_154 (by decide +kernel)
theorem D_307_27 : decode J_307.2.2.1 27 = .ok (.aload_n 0, 1) := dzq_42 (by decide +kernel)
theorem D_307_28 : decode J_307.2.2.1 28 = .ok (.getfield 69, 3) := dzq_180 (by decide +kernel)
theorem D_307_31 : decode J_307.2.2.1 31 = .ok (.iload_n 2, 1) := dzq_28 (by decide +kernel)
theorem D_307_32 : decode J_307.2.2.1 32 = .ok (.aload_n 0, 1) := dzq_42 (by decide +kernel)
theorem D_307_33 : decode J_307.2.2.1 33 = .ok (.iload_n 1, 1) := dzq_27 (by decide +kernel)
theorem D_307_34 : decode J_307.2.2.1 34 = .ok (.aload_n 0, 1) := dzq_42 (by decide +kernel)
theorem D_307_35 : decode J_307.2.2.1 35 = .ok (.getfield 57, 3) := dzq_180 (by decide +kernel)
theorem D_307_38 : decode J_307.2.2.1 38 = .ok (.iload_n 2, 1) := dzq_28 (by decide +kernel)
theorem D_307_39 : decode J_307.2.2.1 39 = .ok (.laload, 1) := dzq_47 (by decide +kernel)
theorem D_307_40 : decode J_307.2.2.1 40 = .ok (.invokevirtual 481, 3) := dzq_182 (by decide +kernel)
theorem D_307_43 : decode J_307.2.2.1 43 = .ok (.iastore, 1) := dzq_79 (by decide +kernel)
theorem D_307_44 : decode J_307.2.2.1 44 = .ok (.aload_n 0, 1) := dzq_42 (by decide +kernel)
theorem D_307_45 : decode J_307.2.2.1 45 = .ok (.getfield 72, 3) := dzq_180 (by decide +kernel)
theorem D_307_48 : decode J_307.2.2.1 48 = .ok (.iload_n 2, 1) := dzq_28 (by decide +kernel)
theorem D_307_49 : decode J_307.2.2.1 49 = .ok (.aload_n 0, 1) := dzq_42 (by decide +kernel)
theorem D_307_50 : decode J_307.2.2.1 50 = .ok (.iload_n 1, 1) := dzq_27 (by decide +kernel)
theorem D_307_51 : decode J_307.2.2.1 51 = .ok (.aload_n 0, 1) := dzq_42 (by decide +kernel)
theorem D_307_52 : decode J_307.2.2.1 52 = .ok (.getfield 60, 3) := dzq_180 (by decide +kernel)
theorem D_307_55 : decode J_307.2.2.1 55 = .ok (.iload_n 2, 1) := dzq_28 (by decide +kernel)
theorem D_307_56 : decode J_307.2.2.1 56 = .ok (.laload, 1) := dzq_47 (by decide +kernel)
theorem D_307_57 : decode J_307.2.2.1 57 = .ok (.invokevirtual 481, 3) := dzq_182 (by decide +kernel)
theorem D_307_60 : decode J_307.2.2.1 60 = .ok (.iastore, 1) := dzq_79 (by decide +kernel)
theorem D_307_61 : decode J_307.2.2.1 61 = .ok (.aload_n 0, 1) := dzq_42 (by decide +kernel)
theorem D_307_62 : decode J_307.2.2.1 62 = .ok (.getfield 69, 3) := dzq_180 (by decide +kernel)
theorem D_307_65 : decode J_307.2.2.1 65 = .ok (.iload_n 2, 1) := dzq_28 (by decide +kernel)
theorem D_307_66 : decode J_307.2.2.1 66 = .ok (.iaload, 1) := dzq_46 (by decide +kernel)
theorem D_307_67 : decode J_307.2.2.1 67 = .ok (.bipush (-9), 2) := dzq_16 (by decide +kernel)
theorem D_307_69 : decode J_307.2.2.1 69 = .ok (.if_icmp .ne 14, 3) := dzq_160 (by decide +kernel)
theorem D_307_72 : decode J_307.2.2.1 72 = .ok (.aload_n 0, 1) := dzq_42 (by decide +kernel)
theorem D_307_73 : decode J_307.2.2.1 73 = .ok (.iconst 5, 1) := dzq_8 (by decide +kernel)
theorem D_307_74 : decode J_307.2.2.1 74 = .ok (.aload_n 0, 1) := dzq_42 (by decide +kernel)
theorem D_307_75 : decode J_307.2.2.1 75 = .ok (.getfield 63, 3) := dzq_180 (by decide +kernel)
theorem D_307_78 : decode J_307.2.2.1 78 = .ok (.iload_n 2, 1) := dzq_28 (by decide +kernel)
theorem D_307_79 : decode J_307.2.2.1 79 = .ok (.iaload, 1) := dzq_46 (by decide +kernel)
theorem D_307_80 : decode J_307.2.2.1 80 = .ok (.invokevirtual 339, 3) := dzq_182 (by decide +kernel)
theorem D_307_83 : decode J_307.2.2.1 83 = .ok (.aload_n 0, 1) := dzq_42 (by decide +kernel)
theorem D_307_84 : decode J_307.2.2.1 84 = .ok (.getfield 72, 3) := dzq_180 (by decide +kernel)
theorem D_307_87 : decode J_307.2.2.1 87 = .ok (.iload_n 2, 1) := dzq_28 (by decide +kernel)
theorem D_307_88 : decode J_307.2.2.1 88 = .ok (.iaload, 1) := dzq_46 (by decide +kernel)
theorem D_307_89 : decode J_307.2.2.1 89 = .ok (.bipush (-9), 2) := dzq_16 (by decide +kernel)
theorem D_307_91 : decode J_307.2.2.1 91 = .ok (.if_icmp .ne 14, 3) := dzq_160 (by decide +kernel)
theorem D_307_94 : decode J_307.2.2.1 94 = .ok (.aload_n 0, 1) := dzq_42 (by decide +kernel)
theorem D_307_95 : decode J_307.2.2.1 95 = .ok (.iconst 5, 1) := dzq_8 (by decide +kernel)
theorem D_307_96 : decode J_307.2.2.1 96 = .ok (.aload_n 0, 1) := dzq_42 (by decide +kernel)
theorem D_307_97 : decode J_307.2.2.1 97 = .ok (.getfield 66, 3) := dzq_180 (by decide +kernel)
theorem D_307_100 : decode J_307.2.2.1 100 = .ok (.iload_n 2, 1) := dzq_28 (by decide +kernel)
theorem D_307_101 : decode J_307.2.2.1 101 = .ok (.iaload, 1) := dzq_46 (by decide +kernel)
theorem D_307_102 : decode J_307.2.2.1 102 = .ok (.invokevirtual 339, 3) := dzq_182 (by decide +kernel)
theorem D_307_105 : decode J_307.2.2.1 105 = .ok (.iinc 2 1, 3) := dzq_132 (by decide +kernel)
theorem D_307_108 : decode J_307.2.2.1 108 = .ok (.goto (-103), 3) := dzq_167 (by decide +kernel)
theorem D_307_111 : decode J_307.2.2.1 111 = .ok (.return_, 1) := dzq_177 (by decide +kernel)
def P_307_105 (X : mjX) (d C S kc ks : Nat) (k : Nat → Int32 → Int32 → mjH → mjU) : Prop := ∀ (l0 : Nat) (l1 : Int32) (l2 : Int32) (hp : mjH) (q : Option Value × mjH), k l0 l1 l2 hp = some q → mjG X d C S J_307 (mjEq q) 105 [some (.ref l0), some (.int l1), some (.int l2)] [] hp kc ks
def P_307_83 (X : mjX) (d C S kc ks : Nat) (k : Nat → Int32 → Int32 → mjH → mjU) : Prop := ∀ (l0 : Nat) (l1 : Int32) (l2 : Int32) (hp : mjH) (q : Option Value × mjH), k l0 l1 l2 hp = some q → mjG X d C S J_307 (mjEq q) 83 [some (.ref l0), some (.int l1), some (.int l2)] [] hp kc ks
def P_307_5 (X : mjX) (d C S kc ks : Nat) (k : Nat → Int32 → Int32 → mjH → mjU) : Prop := ∀ (l0 : Nat) (l1 : Int32) (l2 : Int32) (hp : mjH) (q : Option Value × mjH), k l0 l1 l2 hp = some q → mjG X d C S J_307 (mjEq q) 5 [some (.ref l0), some (.int l1), some (.int l2)] [] hp kc ks
def P_307_0 (X : mjX) (d C S kc ks : Nat) (k : Nat → Int32 → mjH → mjU) : Prop := ∀ (l0 : Nat) (l1 : Int32) (hp : mjH) (q : Option Value × mjH), k l0 l1 hp = some q → mjG X d C S J_307 (mjEq q) 0 [some (.ref l0), some (.int l1), none] [] hp kc ks
noncomputable def b_307_105 (R : mjR) (k5 : Nat → Int32 → Int32 → mjH → mjU) (l0 : Nat) (l1 : Int32) (l2 : Int32) (hp : mjH) : mjU := k5 l0 l1 (l2 + (1 : Int32)) hp
theorem t_307_105 {X : mjX} {d C S kc ks : Nat} {R : mjR} (hR : mjC R d) (h1 : kc ≤ C) (h2 : ks ≤ S) {k5 : Nat → Int32 → Int32 → mjH → mjU} (hk5 : P_307_5 X (d + 1) C S kc ks k5) : P_307_105 X (d + 1) C S kc ks (b_307_105 R k5) := by
  intro l0 l1 l2 hp q h
  unfold b_307_105 at h
  refine mjq_iinc (x := l2) (c := (1 : Int32)) (lo' := [some (.ref l0), some (.int l1), some (.int (l2 + (1 : Int32)))]) D_307_105 rfl (Nat.le_of_ble_eq_true rfl) rfl rfl ?_
  refine mjr_goto (tgt := 5) D_307_108 rfl ?_
  exact hk5 _ _ _ _ _ h
noncomputable def b_307_83 (R : mjR) (k5 : Nat → Int32 → Int32 → mjH → mjU) (l0 : Nat) (l1 : Int32) (l2 : Int32) (hp : mjH) : mjU := gR hp l0 12 29 (fun v1 => aI hp v1 l2 (fun v2 => (if v2 = (-9 : Int32) then gR hp l0 12 27 (fun v3 => aI hp v3 l2 (fun v4 => rV hp l0 12 (bN (R 268 [.ref l0, .int (5 : Int32), .int v4] hp) (fun  hp5 => b_307_105 R k5 l0 l1 l2 hp5)))) else b_307_105 R k5 l0 l1 l2 hp)))
theorem t_307_83 {X : mjX} {d C S kc ks : Nat} {R : mjR} (hR : mjC R d) (h1 : kc ≤ C) (h2 : ks ≤ S) {k5 : Nat → Int32 → Int32 → mjH → mjU} (hk5 : P_307_5 X (d + 1) C S kc ks k5) : P_307_83 X (d + 1) C S kc ks (b_307_83 R k5) := by
  intro l0 l1 l2 hp q h
  unfold b_307_83 at h
  refine mjr_aload_n (x := l0) D_307_83 rfl ?_
  refine mjq_gR D_307_84 fr_12_72 h (fun v1 h => ?_)
  refine mjr_iload_n (x := l2) D_307_87 rfl ?_
  refine mjq_aI D_307_88 h (fun v2 h => ?_)
  refine mjq_bi (v := (-9 : Int32)) D_307_89 rfl ?_
  refine mjq_icmp_ne (tgt := 105) D_307_91 rfl h (fun h => ?_) (fun h => ?_)
  · exact (t_307_105 hR h1 h2 hk5) _ _ _ _ _ h
  · refine mjr_aload_n (x := l0) D_307_94 rfl ?_
    refine mjq_ic (v := (5 : Int32)) D_307_95 rfl ?_
    refine mjr_aload_n (x := l0) D_307_96 rfl ?_
    refine mjq_gR D_307_97 fr_12_66 h (fun v3 h => ?_)
    refine mjr_iload_n (x := l2) D_307_100 rfl ?_
    refine mjq_aI D_307_101 h (fun v4 h => ?_)
    refine mjq_vN (As := [.int (5 : Int32), .int v4]) (rest := []) D_307_102 mr_12_339 V_268 rfl rfl rfl hR (Nat.le_refl _) h1 h2 h (fun  hp5 h => ?_)
    exact (t_307_105 hR h1 h2 hk5) _ _ _ _ _ h
noncomputable def b_307_5 (R : mjR) (k5 : Nat → Int32 → Int32 → mjH → mjU) (l0 : Nat) (l1 : Int32) (l2 : Int32) (hp : mjH) : mjU := gR hp l0 12 17 (fun v1 => aI hp v1 l1 (fun v2 => (if (((8 : Int32) * l1) + v2) ≤ l2 then some (none, hp) else gI hp l0 12 61 (fun v3 => (if v3 = 0 then gR hp l0 12 28 (fun v4 => gR hp l0 12 24 (fun v5 => aL hp v5 l2 (fun v6 => rV hp l0 12 (bI (R 305 [.ref l0, .int l1, .long v6] hp) (fun v7 hp8 => sI hp8 v4 l2 v7 (fun hp9 => gR hp9 l0 12 29 (fun v10 => gR hp9 l0 12 25 (fun v11 => aL hp9 v11 l2 (fun v12 => rV hp9 l0 12 (bI (R 305 [.ref l0, .int l1, .long v12] hp9) (fun v13 hp14 => sI hp14 v10 l2 v13 (fun hp15 => gR hp15 l0 12 28 (fun v16 => aI hp15 v16 l2 (fun v17 => (if v17 = (-9 : Int32) then gR hp15 l0 12 26 (fun v18 => aI hp15 v18 l2 (fun v19 => rV hp15 l0 12 (bN (R 268 [.ref l0, .int (5 : Int32), .int v19] hp15) (fun  hp20 => b_307_83 R k5 l0 l1 l2 hp20)))) else b_307_83 R k5 l0 l1 l2 hp15))))))))))))))) else some (none, hp))))))
theorem t_307_5 {X : mjX} {d C S kc ks : Nat} {R : mjR} (hR : mjC R d) (h1 : kc ≤ C) (h2 : ks ≤ S) {k5 : Nat → Int32 → Int32 → mjH → mjU} (hk5 : P_307_5 X (d + 1) C S kc ks k5) : P_307_5 X (d + 1) C S kc ks (b_307_5 R k5) := by
  intro l0 l1 l2 hp q h
  unfold b_307_5 at h
  refine mjr_iload_n (x := l2) D_307_5 rfl ?_
  refine mjq_bi (v := (8 : Int32)) D_307_6 rfl ?_
  refine mjr_iload_n (x := l1) D_307_8 rfl ?_
  refine mjr_imul D_307_9 ?_
  refine mjr_aload_n (x := l0) D_307_10 rfl ?_
  refine mjq_gR D_307_11 fr_12_36 h (fun v1 h => ?_)
  refine mjr_iload_n (x := l1) D_307_14 rfl ?_
  refine mjq_aI D_307_15 h (fun v2 h => ?_)
  refine mjr_iadd D_307_16 ?_
  refine mjq_icmp_ge (tgt := 111) D_307_17 rfl h (fun h => ?_) (fun h => ?_)
  · exact mjq_nret D_307_111 rfl h1 h2 h
  · refine mjr_aload_n (x := l0) D_307_20 rfl ?_
    refine mjq_gI D_307_21 fr_12_333 h (fun v3 h => ?_)
    refine mjq_if_ne (tgt := 111) D_307_24 rfl h (fun h => ?_) (fun h => ?_)
    · exact mjq_nret D_307_111 rfl h1 h2 h
    · refine mjr_aload_n (x := l0) D_307_27 rfl ?_
      refine mjq_gR D_307_28 fr_12_69 h (fun v4 h => ?_)
      refine mjr_iload_n (x := l2) D_307_31 rfl ?_
      refine mjr_aload_n (x := l0) D_307_32 rfl ?_
      refine mjr_iload_n (x := l1) D_307_33 rfl ?_
      refine mjr_aload_n (x := l0) D_307_34 rfl ?_
      refine mjq_gR D_307_35 fr_12_57 h (fun v5 h => ?_)
      refine mjr_iload_n (x := l2) D_307_38 rfl ?_
      refine mjq_aL D_307_39 h (fun v6 h => ?_)
      refine mjq_vI (As := [.int l1, .long v6]) (rest := [.int l2, .ref v4]) D_307_40 mr_12_481 V_305 rfl rfl rfl hR (Nat.le_refl _) h1 h2 h (fun v7 hp8 h => ?_)
      refine mjq_sI D_307_43 h (fun hp9 h => ?_)
      refine mjr_aload_n (x := l0) D_307_44 rfl ?_
      refine mjq_gR D_307_45 fr_12_72 h (fun v10 h => ?_)
      refine mjr_iload_n (x := l2) D_307_48 rfl ?_
      refine mjr_aload_n (x := l0) D_307_49 rfl ?_
      refine mjr_iload_n (x := l1) D_307_50 rfl ?_
      refine mjr_aload_n (x := l0) D_307_51 rfl ?_
      refine mjq_gR D_307_52 fr_12_60 h (fun v11 h => ?_)
      refine mjr_iload_n (x := l2) D_307_55 rfl ?_
      refine mjq_aL D_307_56 h (fun v12 h => ?_)
      refine mjq_vI (As := [.int l1, .long v12]) (rest := [.int l2, .ref v10]) D_307_57 mr_12_481 V_305 rfl rfl rfl hR (Nat.le_refl _) h1 h2 h (fun v13 hp14 h => ?_)
      refine mjq_sI D_307_60 h (fun hp15 h => ?_)
      refine mjr_aload_n (x := l0) D_307_61 rfl ?_
      refine mjq_gR D_307_62 fr_12_69 h (fun v16 h => ?_)
      refine mjr_iload_n (x := l2) D_307_65 rfl ?_
      refine mjq_aI D_307_66 h (fun v17 h => ?_)
      refine mjq_bi (v := (-9 : Int32)) D_307_67 rfl ?_
      refine mjq_icmp_ne (tgt := 83) D_307_69 rfl h (fun h => ?_) (fun h => ?_)
      · exact (t_307_83 hR h1 h2 hk5) _ _ _ _ _ h
      · refine mjr_aload_n (x := l0) D_307_72 rfl ?_
        refine mjq_ic (v := (5 : Int32)) D_307_73 rfl ?_
        refine mjr_aload_n (x := l0) D_307_74 rfl ?_
        refine mjq_gR D_307_75 fr_12_63 h (fun v18 h => ?_)
        refine mjr_iload_n (x := l2) D_307_78 rfl ?_
        refine mjq_aI D_307_79 h (fun v19 h => ?_)
        refine mjq_vN (As := [.int (5 : Int32), .int v19]) (rest := []) D_307_80 mr_12_339 V_268 rfl rfl rfl hR (Nat.le_refl _) h1 h2 h (fun  hp20 h => ?_)
        exact (t_307_83 hR h1 h2 hk5) _ _ _ _ _ h
noncomputable def L_307_5 (R : mjR) (n : Nat) : Nat → Int32 → Int32 → mjH → mjU := Nat.rec (motive := fun _ => Nat → Int32 → Int32 → mjH → mjU) (fun _ _ _ _ => none) (fun _ self => b_307_5 R self) n
theorem T_307_5 {X : mjX} {d C S kc ks : Nat} {R : mjR} (hR : mjC R d) (h1 : kc ≤ C) (h2 : ks ≤ S) (n : Nat) : P_307_5 X (d + 1) C S kc ks (L_307_5 R n) := by
  induction n with
  | zero => intro _ _ _ _ _ h; exact mj_no h
  | succ n ih => exact t_307_5 hR h1 h2 ih
noncomputable def b_307_0 (R : mjR) (l0 : Nat) (l1 : Int32) (hp : mjH) : mjU := L_307_5 R mjN l0 l1 ((8 : Int32) * l1) hp
theorem t_307_0 {X : mjX} {d C S kc ks : Nat} {R : mjR} (hR : mjC R d) (h1 : kc ≤ C) (h2 : ks ≤ S) : P_307_0 X (d + 1) C S kc ks (b_307_0 R) := by
  intro l0 l1 hp q h
  unfold b_307_0 at h
  refine mjq_bi (v := (8 : Int32)) D_307_0 rfl ?_
  refine mjr_iload_n (x := l1) D_307_2 rfl ?_
  refine mjr_imul D_307_3 ?_
  refine mjq_istore_n (lo' := [some (.ref l0), some (.int l1), some (.int ((8 : Int32) * l1))]) D_307_4 (Nat.le_of_ble_eq_true rfl) rfl ?_
  exact (T_307_5 hR h1 h2 mjN) _ _ _ _ _ h
noncomputable def f_307 (R : mjR) (a0 : Nat) (a1 : Int32) (hp : mjH) : mjU := b_307_0 R a0 a1 hp
theorem c_307 {R : mjR} {d : Nat} (hR : mjC R d) {a0 : Nat} {a1 : Int32} {hp : mjH} {q : Option Value × mjH} (h : f_307 R a0 a1 hp = some q) : mjM (d + 1) 0 0 307 [.ref a0, .int a1] hp (mjEq q) :=
  mjM_of Ja_307 (Nat.le_of_ble_eq_true rfl) (mjG.fg (lo' := [some (.ref a0), some (.int a1), none]) (And.intro rfl (And.intro rfl True.intro)) ((t_307_0 hR (Nat.le_refl 0) (Nat.le_refl 0)) a0 a1 hp q h))
def J_308 : mjI := (⟨"OwnerHeapModel", "knows", "(I)V"⟩, 12, prog_14_method_57_code, 6, none, 1, false)
theorem Ja_308 : mjMt 308 = some J_308 := by rfl
theorem D_308_0 : decode J_308.2.2.1 0 = .ok (.bipush 49, 2) := dzq_16 (by decide +kernel)
theorem D_308_2 : decode J_308.2.2.1 2 = .ok (.iload_n 1, 1) := dzq_27 (by decide +kernel)
theorem D_308_3 : decode J_308.2.2.1 3 = .ok (.imul, 1) := dzq_104 (by decide +kernel)
theorem D_308_4 : decode J_308.2.2.1 4 = .ok (.istore_n 2, 1) := dzq_61 (by decide +kernel)
theorem D_308_5 : decode J_308.2.2.1 5 = .ok (.iconst 0, 1) := dzq_3 (by decide +kernel)
theorem D_308_6 : decode J_308.2.2.1 6 = .ok (.istore_n 3, 1) := dzq_62 (by decide +kernel)
theorem D_308_7 : decode J_308.2.2.1 7 = .ok (.iload_n 3, 1) := dzq_29 (by decide +kernel)
theorem D_308_8 : decode J_308.2.2.1 8 = .ok (.bipush 49, 2) := dzq_16 (by decide +kernel)
theorem D_308_10 : decode J_308.2.2.1 10 = .ok (.if_icmp .ge 42, 3) := dzq_162 (by decide +kernel)
theorem D_308_13 : decode J_308.2.2.1 13 = .ok (.aload_n 0, 1) := dzq_42 (by decide +kernel)
theorem D_308_14 : decode J_308.2.2.1 14 = .ok (.getfield 75, 3) := dzq_180 (by decide +kernel)
theorem D_308_17 : decode J_308.2.2.1 17 = .ok (.iload_n 2, 1) := dzq_28 (by decide +kernel)
theorem D_308_18 : decode J_308.2.2.1 18 = .ok (.iload_n 3, 1) := dzq_29 (by decide +kernel)
theorem D_308_19 : decode J_308.2.2.1 19 = .ok (.iadd, 1) := dzq_96 (by decide +kernel)
theorem D_308_20 : decode J_308.2.2.1 20 = .ok (.iload_n 3, 1) := dzq_29 (by decide +kernel)
theorem D_308_21 : decode J_308.2.2.1 21 = .ok (.bipush 7, 2) := dzq_16 (by decide +kernel)
theorem D_308_23 : decode J_308.2.2.1 23 = .ok (.idiv, 1) := by decide +kernel
theorem D_308_24 : decode J_308.2.2.1 24 = .ok (.iload_n 3, 1) := dzq_29 (by decide +kernel)
theorem D_308_25 : decode J_308.2.2.1 25 = .ok (.bipush 7, 2) := dzq_16 (by decide +kernel)
theorem D_308_27 : decode J_308.2.2.1 27 = .ok (.irem, 1) := by decide +kernel
theorem D_308_28 : decode J_308.2.2.1 28 = .ok (.if_icmp .eq 12, 3) := dzq_159 (by decide +kernel)
theorem D_308_31 : decode J_308.2.2.1 31 = .ok (.iload_n 3, 1) := dzq_29 (by decide +kernel)
theorem D_308_32 : decode J_308.2.2.1 32 = .ok (.bipush 7, 2) := dzq_16 (by decide +kernel)
theorem D_308_34 : decode J_308.2.2.1 34 = .ok (.irem, 1) := by decide +kernel
theorem D_308_35 : decode J_308.2.2.1 35 = .ok (.bipush 6, 2) := dzq_16 (by decide +kernel)
theorem D_308_37 : decode J_308.2.2.1 37 = .ok (.if_icmp .ne 7, 3) := dzq_160 (by decide +kernel)
theorem D_308_40 : decode J_308.2.2.1 40 = .ok (.iconst 1, 1) := dzq_4 (by decide +kernel)
theorem D_308_41 : decode J_308.2.2.1 41 = .ok (.goto 4, 3) := dzq_167 (by decide +kernel)
theorem D_308_44 : decode J_308.2.2.1 44 = .ok (.iconst 0, 1) := dzq_3 (by decide +kernel)
theorem D_308_45 : decode J_308.2.2.1 45 = .ok (.bastore, 1) := by decide +kernel
theorem D_308_46 : decode J_308.2.2.1 46 = .ok (.iinc 3 1, 3) := dzq_132 (by decide +kernel)
theorem D_308_49 : decode J_308.2.2.1 49 = .ok (.goto (-42), 3) := dzq_167 (by decide +kernel)
theorem D_308_52 : decode J_308.2.2.1 52 = .ok (.aload_n 0, 1) := dzq_42 (by decide +kernel)
theorem D_308_53 : decode J_308.2.2.1 53 = .ok (.getfield 75, 3) := dzq_180 (by decide +kernel)
theorem D_308_56 : decode J_308.2.2.1 56 = .ok (.iload_n 2, 1) := dzq_28 (by decide +kernel)
theorem D_308_57 : decode J_308.2.2.1 57 = .ok (.bipush 35, 2) := dzq_16 (by decide +kernel)
theorem D_308_59 : decode J_308.2.2.1 59 = .ok (.iadd, 1) := dzq_96 (by decide +kernel)
theorem D_308_60 : decode J_308.2.2.1 60 = .ok (.iconst 1, 1) := dzq_4 (by decide +kernel)
theorem D_308_61 : decode J_308.2.2.1 61 = .ok (.bastore, 1) := by decide +kernel
theorem D_308_62 : decode J_308.2.2.1 62 = .ok (.iconst 0, 1) := dzq_3 (by decide +kernel)
theorem D_308_63 : decode J_308.2.2.1 63 = .ok (.istore_n 3, 1) := dzq_62 (by decide +kernel)
theorem D_308_64 : decode J_308.2.2.1 64 = .ok (.iload_n 3, 1) := dzq_29 (by decide +kernel)
theorem D_308_65 : decode J_308.2.2.1 65 = .ok (.aload_n 0, 1) := dzq_42 (by decide +kernel)
theorem D_308_66 : decode J_308.2.2.1 66 = .ok (.getfield 30, 3) := dzq_180 (by decide +kernel)
theorem D_308_69 : decode J_308.2.2.1 69 = .ok (.iload_n 1, 1) := dzq_27 (by decide +kernel)
theorem D_308_70 : decode J_308.2.2.1 70 = .ok (.iaload, 1) := dzq_46 (by decide +kernel)
theorem D_308_71 : decode J_308.2.2.1 71 = .ok (.if_icmp .ge 18, 3) := dzq_162 (by decide +kernel)
theorem D_308_74 : decode J_308.2.2.1 74 = .ok (.aload_n 0, 1) := dzq_42 (by decide +kernel)
theorem D_308_75 : decode J_308.2.2.1 75 = .ok (.getfield 75, 3) := dzq_180 (by decide +kernel)
theorem D_308_78 : decode J_308.2.2.1 78 = .ok (.iload_n 2, 1) := dzq_28 (by decide +kernel)
theorem D_308_79 : decode J_308.2.2.1 79 = .ok (.iload_n 3, 1) := dzq_29 (by decide +kernel)
theorem D_308_80 : decode J_308.2.2.1 80 = .ok (.iadd, 1) := dzq_96 (by decide +kernel)
theorem D_308_81 : decode J_308.2.2.1 81 = .ok (.iconst 1, 1) := dzq_4 (by decide +kernel)
theorem D_308_82 : decode J_308.2.2.1 82 = .ok (.bastore, 1) := by decide +kernel
theorem D_308_83 : decode J_308.2.2.1 83 = .ok (.iinc 3 1, 3) := dzq_132 (by decide +kernel)
theorem D_308_86 : decode J_308.2.2.1 86 = .ok (.goto (-22), 3) := dzq_167 (by decide +kernel)
theorem D_308_89 : decode J_308.2.2.1 89 = .ok (.bipush 8, 2) := dzq_16 (by decide +kernel)
theorem D_308_91 : decode J_308.2.2.1 91 = .ok (.iload_n 1, 1) := dzq_27 (by decide +kernel)
theorem D_308_92 : decode J_308.2.2.1 92 = .ok (.imul, 1) := dzq_104 (by decide +kernel)
theorem D_308_93 : decode J_308.2.2.1 93 = .ok (.istore_n 3, 1) := dzq_62 (by decide +kernel)
theorem D_308_94 : decode J_308.2.2.1 94 = .ok (.iload_n 3, 1) := dzq_29 (by decide +kernel)
theorem D_308_95 : decode J_308.2.2.1 95 = .ok (.bipush 8, 2) := dzq_16 (by decide +kernel)
theorem D_308_97 : decode J_308.2.2.1 97 = .ok (.iload_n 1, 1) := dzq_27 (by decide +kernel)
theorem D_308_98 : decode J_308.2.2.1 98 = .ok (.imul, 1) := dzq_104 (by decide +kernel)
theorem D_308_99 : decode J_308.2.2.1 99 = .ok (.aload_n 0, 1) := dzq_42 (by decide +kernel)
theorem D_308_100 : decode J_308.2.2.1 100 = .ok (.getfield 36, 3) := dzq_180 (by decide +kernel)
theorem D_308_103 : decode J_308.2.2.1 103 = .ok (.iload_n 1, 1) := dzq_27 (by decide +kernel)
theorem D_308_104 : decode J_308.2.2.1 104 = .ok (.iaload, 1) := dzq_46 (by decide +kernel)
theorem D_308_105 : decode J_308.2.2.1 105 = .ok (.iadd, 1) := dzq_96 (by decide +kernel)
theorem D_308_106 : decode J_308.2.2.1 106 = .ok (.if_icmp .ge 33, 3) := dzq_162 (by decide +kernel)
theorem D_308_109 : decode J_308.2.2.1 109 = .ok (.aload_n 0, 1) := dzq_42 (by decide +kernel)
theorem D_308_110 : decode J_308.2.2.1 110 = .ok (.getfield 75, 3) := dzq_180 (by decide +kernel)
theorem D_308_113 : decode J_308.2.2.1 113 = .ok (.iload_n 2, 1) := dzq_28 (by decide +kernel)
theorem D_308_114 : decode J_308.2.2.1 114 = .ok (.bipush 7, 2) := dzq_16 (by decide +kernel)
theorem D_308_116 : decode J_308.2.2.1 116 = .ok (.aload_n 0, 1) := dzq_42 (by decide +kernel)
theorem D_308_117 : decode J_308.2.2.1 117 = .ok (.getfield 69, 3) := dzq_180 (by decide +kernel)
theorem D_308_120 : decode J_308.2.2.1 120 = .ok (.iload_n 3, 1) := dzq_29 (by decide +kernel)
theorem D_308_121 : decode J_308.2.2.1 121 = .ok (.iaload, 1) := dzq_46 (by decide +kernel)
theorem D_308_122 : decode J_308.2.2.1 122 = .ok (.imul, 1) := dzq_104 (by decide +kernel)
theorem D_308_123 : decode J_308.2.2.1 123 = .ok (.iadd, 1) := dzq_96 (by decide +kernel)
theorem D_308_124 : decode J_308.2.2.1 124 = .ok (.aload_n 0, 1) := dzq_42 (by decide +kernel)
theorem D_308_125 : decode J_308.2.2.1 125 = .ok (.getfield 72, 3) := dzq_180 (by decide +kernel)
theorem D_308_128 : decode J_308.2.2.1 128 = .ok (.iload_n 3, 1) := dzq_29 (by decide +kernel)
theorem D_308_129 : decode J_308.2.2.1 129 = .ok (.iaload, 1) := dzq_46 (by decide +kernel)
theorem D_308_130 : decode J_308.2.2.1 130 = .ok (.iadd, 1) := dzq_96 (by decide +kernel)
theorem D_308_131 : decode J_308.2.2.1 131 = .ok (.iconst 1, 1) := dzq_4 (by decide +kernel)
theorem D_308_132 : decode J_308.2.2.1 132 = .ok (.bastore, 1) := by decide +kernel
theorem D_308_133 : decode J_308.2.2.1 133 = .ok (.iinc 3 1, 3) := dzq_132 (by decide +kernel)
theorem D_308_136 : decode J_308.2.2.1 136 = .ok (.goto (-42), 3) := dzq_167 (by decide +kernel)
theorem D_308_139 : decode J_308.2.2.1 139 = .ok (.iconst 0, 1) := dzq_3 (by decide +kernel)
theorem D_308_140 : decode J_308.2.2.1 140 = .ok (.istore_n 3, 1) := dzq_62 (by decide +kernel)
theorem D_308_141 : decode J_308.2.2.1 141 = .ok (.iload_n 3, 1) := dzq_29 (by decide +kernel)
theorem D_308_142 : decode J_308.2.2.1 142 = .ok (.bipush 7, 2) := dzq_16 (by decide +kernel)
theorem D_308_144 : decode J_308.2.2.1 144 = .ok (.if_icmp .ge 91, 3) := dzq_162 (by decide +kernel)
theorem D_308_147 : decode J_308.2.2.1 147 = .ok (.iconst 0, 1) := dzq_3 (by decide +kernel)
theorem D_308_148 : decode J_308.2.2.1 148 = .ok (.istore 4, 2) := dzq_54 (by decide +kernel)
theorem D_308_150 : decode J_308.2.2.1 150 = .ok (.iload 4, 2) := dzq_21 (by decide +kernel)
theorem D_308_152 : decode J_308.2.2.1 152 = .ok (.bipush 7, 2) := dzq_16 (by decide +kernel)
theorem D_308_154 : decode J_308.2.2.1 154 = .ok (.if_icmp .ge 75, 3) := dzq_162 (by decide +kernel)
theorem D_308_157 : decode J_308.2.2.1 157 = .ok (.iconst 0, 1) := dzq_3 (by decide +kernel)
theorem D_308_158 : decode J_308.2.2.1 158 = .ok (.istore 5, 2) := dzq_54 (by decide +kernel)
theorem D_308_160 : decode J_308.2.2.1 160 = .ok (.iload 5, 2) := dzq_21 (by decide +kernel)
theorem D_308_162 : decode J_308.2.2.1 162 = .ok (.bipush 7, 2) := dzq_16 (by decide +kernel)
theorem D_308_164 : decode J_308.2.2.1 164 = .ok (.if_icmp .ge 59, 3) := dzq_162 (by decide +kernel)
theorem D_308_167 : decode J_308.2.2.1 167 = .ok (.aload_n 0, 1) := dzq_42 (by decide +kernel)
theorem D_308_168 : decode J_308.2.2.1 168 = .ok (.getfield 75, 3) := dzq_180 (by decide +kernel)
theorem D_308_171 : decode J_308.2.2.1 171 = .ok (.iload_n 2, 1) := dzq_28 (by decide +kernel)
theorem D_308_172 : decode J_308.2.2.1 172 = .ok (.bipush 7, 2) := dzq_16 (by decide +kernel)
theorem D_308_174 : decode J_308.2.2.1 174 = .ok (.iload 4, 2) := dzq_21 (by decide +kernel)
theorem D_308_176 : decode J_308.2.2.1 176 = .ok (.imul, 1) := dzq_104 (by decide +kernel)
theorem D_308_177 : decode J_308.2.2.1 177 = .ok (.iadd, 1) := dzq_96 (by decide +kernel)
theorem D_308_178 : decode J_308.2.2.1 178 = .ok (.iload_n 3, 1) := dzq_29 (by decide +kernel)
theorem D_308_179 : decode J_308.2.2.1 179 = .ok (.iadd, 1) := dzq_96 (by decide +kernel)
theorem D_308_180 : decode J_308.2.2.1 180 = .ok (.baload, 1) := dzq_51 (by decide +kernel)
theorem D_308_181 : decode J_308.2.2.1 181 = .ok (.ifCond .eq 36, 3) := dzq_153 (by decide +kernel)
theorem D_308_184 : decode J_308.2.2.1 184 = .ok (.aload_n 0, 1) := dzq_42 (by decide +kernel)
theorem D_308_185 : decode J_308.2.2.1 185 = .ok (.getfield 75, 3) := dzq_180 (by decide +kernel)
theorem D_308_188 : decode J_308.2.2.1 188 = .ok (.iload_n 2, 1) := dzq_28 (by decide +kernel)
theorem D_308_189 : decode J_308.2.2.1 189 = .ok (.bipush 7, 2) := dzq_16 (by decide +kernel)
theorem D_308_191 : decode J_308.2.2.1 191 = .ok (.iload_n 3, 1) := dzq_29 (by decide +kernel)
theorem D_308_192 : decode J_308.2.2.1 192 = .ok (.imul, 1) := dzq_104 (by decide +kernel)
theorem D_308_193 : decode J_308.2.2.1 193 = .ok (.iadd, 1) := dzq_96 (by decide +kernel)
theorem D_308_194 : decode J_308.2.2.1 194 = .ok (.iload 5, 2) := dzq_21 (by decide +kernel)
theorem D_308_196 : decode J_308.2.2.1 196 = .ok (.iadd, 1) := dzq_96 (by decide +kernel)
theorem D_308_197 : decode J_308.2.2.1 197 = .ok (.baload, 1) := dzq_51 (by decide +kernel)
theorem D_308_198 : decode J_308.2.2.1 198 = .ok (.ifCond .eq 19, 3) := dzq_153 (by decide +kernel)
theorem D_308_201 : decode J_308.2.2.1 201 = .ok (.aload_n 0, 1) := dzq_42 (by decide +kernel)
theorem D_308_202 : decode J_308.2.2.1 202 = .ok (.getfield 75, 3) := dzq_180 (by decide +kernel)
theorem D_308_205 : decode J_308.2.2.1 205 = .ok (.iload_n 2, 1) := dzq_28 (by decide +kernel)
theorem D_308_206 : decode J_308.2.2.1 206 = .ok (.bipush 7, 2) := dzq_16 (by decide +kernel)
theorem D_308_208 : decode J_308.2.2.1 208 = .ok (.iload 4, 2) := dzq_21 (by decide +kernel)
theorem D_308_210 : decode J_308.2.2.1 210 = .ok (.imul, 1) := dzq_104 (by decide +kernel)
theorem D_308_211 : decode J_308.2.2.1 211 = .ok (.iadd, 1) := dzq_96 (by decide +kernel)
theorem D_308_212 : decode J_308.2.2.1 212 = .ok (.iload 5, 2) := dzq_21 (by decide +kernel)
theorem D_308_214 : decode J_308.2.2.1 214 = .ok (.iadd, 1) := dzq_96 (by decide +kernel)
theorem D_308_215 : decode J_308.2.2.1 215 = .ok (.iconst 1, 1) := dzq_4 (by decide +kernel)
theorem D_308_216 : decode J_308.2.2.1 216 = .ok (.bastore, 1) := by decide +kernel
theorem D_308_217 : decode J_308.2.2.1 217 = .ok (.iinc 5 1, 3) := dzq_132 (by decide +kernel)
theorem D_308_220 : decode J_308.2.2.1 220 = .ok (.goto (-60), 3) := dzq_167 (by decide +kernel)
theorem D_308_223 : decode J_308.2.2.1 223 = .ok (.iinc 4 1, 3) := dzq_132 (by decide +kernel)
theorem D_308_226 : decode J_308.2.2.1 226 = .ok (.goto (-76), 3) := dzq_167 (by decide +kernel)
theorem D_308_229 : decode J_308.2.2.1 229 = .ok (.iinc 3 1, 3) := dzq_132 (by decide +kernel)
theorem D_308_232 : decode J_308.2.2.1 232 = .ok (.goto (-91), 3) := dzq_167 (by decide +kernel)
theorem D_308_235 : decode J_308.2.2.1 235 = .ok (.return_, 1) := dzq_177 (by decide +kernel)
def P_308_217 (X : mjX) (d C S kc ks : Nat) (k : Nat → Int32 → Int32 → Int32 → Int32 → mjH → mjU) : Prop := ∀ (l0 : Nat) (l2 : Int32) (l3 : Int32) (l4 : Int32) (l5 : Int32) (hp : mjH) (q : Option Value × mjH), k l0 l2 l3 l4 l5 hp = some q → mjG X d C S J_308 (mjEq q) 217 [some (.ref l0), none, some (.int l2), some (.int l3), some (.int l4), some (.int l5)] [] hp kc ks
def P_308_160 (X : mjX) (d C S kc ks : Nat) (k : Nat → Int32 → Int32 → Int32 → Int32 → mjH → mjU) : Prop := ∀ (l0 : Nat) (l2 : Int32) (l3 : Int32) (l4 : Int32) (l5 : Int32) (hp : mjH) (q : Option Value × mjH), k l0 l2 l3 l4 l5 hp = some q → mjG X d C S J_308 (mjEq q) 160 [some (.ref l0), none, some (.int l2), some (.int l3), some (.int l4), some (.int l5)] [] hp kc ks
def P_308_150 (X : mjX) (d C S kc ks : Nat) (k : Nat → Int32 → Int32 → Int32 → mjH → mjU) : Prop := ∀ (l0 : Nat) (l2 : Int32) (l3 : Int32) (l4 : Int32) (hp : mjH) (q : Option Value × mjH), k l0 l2 l3 l4 hp = some q → mjG X d C S J_308 (mjEq q) 150 [some (.ref l0), none, some (.int l2), some (.int l3), some (.int l4), none] [] hp kc ks
def P_308_141 (X : mjX) (d C S kc ks : Nat) (k : Nat → Int32 → Int32 → mjH → mjU) : Prop := ∀ (l0 : Nat) (l2 : Int32) (l3 : Int32) (hp : mjH) (q : Option Value × mjH), k l0 l2 l3 hp = some q → mjG X d C S J_308 (mjEq q) 141 [some (.ref l0), none, some (.int l2), some (.int l3), none, none] [] hp kc ks
def P_308_94 (X : mjX) (d C S kc ks : Nat) (k : Nat → Int32 → Int32 → Int32 → mjH → mjU) : Prop := ∀ (l0 : Nat) (l1 : Int32) (l2 : Int32) (l3 : Int32) (hp : mjH) (q : Option Value × mjH), k l0 l1 l2 l3 hp = some q → mjG X d C S J_308 (mjEq q) 94 [some (.ref l0), some (.int l1), some (.int l2), some (.int l3), none, none] [] hp kc ks
def P_308_64 (X : mjX) (d C S kc ks : Nat) (k : Nat → Int32 → Int32 → Int32 → mjH → mjU) : Prop := ∀ (l0 : Nat) (l1 : Int32) (l2 : Int32) (l3 : Int32) (hp : mjH) (q : Option Value × mjH), k l0 l1 l2 l3 hp = some q → mjG X d C S J_308 (mjEq q) 64 [some (.ref l0), some (.int l1), some (.int l2), some (.int l3), none, none] [] hp kc ks
def P_308_45 (X : mjX) (d C S kc ks : Nat) (k : Nat → Int32 → Int32 → Int32 → Nat → Int32 → Int32 → mjH → mjU) : Prop := ∀ (l0 : Nat) (l1 : Int32) (l2 : Int32) (l3 : Int32) (s0 : Nat) (s1 : Int32) (s2 : Int32) (hp : mjH) (q : Option Value × mjH), k l0 l1 l2 l3 s0 s1 s2 hp = some q → mjG X d C S J_308 (mjEq q) 45 [some (.ref l0), some (.int l1), some (.int l2), some (.int l3), none, none] [.int s2, .int s1, .ref s0] hp kc ks
def P_308_40 (X : mjX) (d C S kc ks : Nat) (k : Nat → Int32 → Int32 → Int32 → Nat → Int32 → mjH → mjU) : Prop := ∀ (l0 : Nat) (l1 : Int32) (l2 : Int32) (l3 : Int32) (s0 : Nat) (s1 : Int32) (hp : mjH) (q : Option Value × mjH), k l0 l1 l2 l3 s0 s1 hp = some q → mjG X d C S J_308 (mjEq q) 40 [some (.ref l0), some (.int l1), some (.int l2), some (.int l3), none, none] [.int s1, .ref s0] hp kc ks
def P_308_7 (X : mjX) (d C S kc ks : Nat) (k : Nat → Int32 → Int32 → Int32 → mjH → mjU) : Prop := ∀ (l0 : Nat) (l1 : Int32) (l2 : Int32) (l3 : Int32) (hp : mjH) (q : Option Value × mjH), k l0 l1 l2 l3 hp = some q → mjG X d C S J_308 (mjEq q) 7 [some (.ref l0), some (.int l1), some (.int l2), some (.int l3), none, none] [] hp kc ks
def P_308_0 (X : mjX) (d C S kc ks : Nat) (k : Nat → Int32 → mjH → mjU) : Prop := ∀ (l0 : Nat) (l1 : Int32) (hp : mjH) (q : Option Value × mjH), k l0 l1 hp = some q → mjG X d C S J_308 (mjEq q) 0 [some (.ref l0), some (.int l1), none, none, none, none] [] hp kc ks
noncomputable def b_308_217 (R : mjR) (k141 : Nat → Int32 → Int32 → mjH → mjU) (k150 : Nat → Int32 → Int32 → Int32 → mjH → mjU) (k160 : Nat → Int32 → Int32 → Int32 → Int32 → mjH → mjU) (l0 : Nat) (l2 : Int32) (l3 : Int32) (l4 : Int32) (l5 : Int32) (hp : mjH) : mjU := k160 l0 l2 l3 l4 (l5 + (1 : Int32)) hp
theorem t_308_217 {X : mjX} {d C S kc ks : Nat} {R : mjR} (hR : mjC R d) (h1 : kc ≤ C) (h2 : ks ≤ S) {k141 : Nat → Int32 → Int32 → mjH → mjU} (hk141 : P_308_141 X (d + 1) C S kc ks k141) {k150 : Nat → Int32 → Int32 → Int32 → mjH → mjU} (hk150 : P_308_150 X (d + 1) C S kc ks k150) {k160 : Nat → Int32 → Int32 → Int32 → Int32 → mjH → mjU} (hk160 : P_308_160 X (d + 1) C S kc ks k160) : P_308_217 X (d + 1) C S kc ks (b_308_217 R k141 k150 k160) := by
  intro l0 l2 l3 l4 l5 hp q h
  unfold b_308_217 at h
  refine mjq_iinc (x := l5) (c := (1 : Int32)) (lo' := [some (.ref l0), none, some (.int l2), some (.int l3), some (.int l4), some (.int (l5 + (1 : Int32)))]) D_308_217 rfl (Nat.le_of_ble_eq_true rfl) rfl rfl ?_
  refine mjr_goto (tgt := 160) D_308_220 rfl ?_
  exact hk160 _ _ _ _ _ _ _ h
noncomputable def b_308_160 (R : mjR) (k141 : Nat → Int32 → Int32 → mjH → mjU) (k150 : Nat → Int32 → Int32 → Int32 → mjH → mjU) (k160 : Nat → Int32 → Int32 → Int32 → Int32 → mjH → mjU) (l0 : Nat) (l2 : Int32) (l3 : Int32) (l4 : Int32) (l5 : Int32) (hp : mjH) : mjU := (if (7 : Int32) ≤ l5 then k150 l0 l2 l3 (l4 + (1 : Int32)) hp else gR hp l0 12 30 (fun v1 => aB hp v1 ((l2 + ((7 : Int32) * l4)) + l3) (fun v2 => (if v2 = 0 then b_308_217 R k141 k150 k160 l0 l2 l3 l4 l5 hp else gR hp l0 12 30 (fun v3 => aB hp v3 ((l2 + ((7 : Int32) * l3)) + l5) (fun v4 => (if v4 = 0 then b_308_217 R k141 k150 k160 l0 l2 l3 l4 l5 hp else gR hp l0 12 30 (fun v5 => sB hp v5 ((l2 + ((7 : Int32) * l4)) + l5) (1 : Int32) (fun hp6 => b_308_217 R k141 k150 k160 l0 l2 l3 l4 l5 hp6)))))))))
theorem t_308_160 {X : mjX} {d C S kc ks : Nat} {R : mjR} (hR : mjC R d) (h1 : kc ≤ C) (h2 : ks ≤ S) {k141 : Nat → Int32 → Int32 → mjH → mjU} (hk141 : P_308_141 X (d + 1) C S kc ks k141) {k150 : Nat → Int32 → Int32 → Int32 → mjH → mjU} (hk150 : P_308_150 X (d + 1) C S kc ks k150) {k160 : Nat → Int32 → Int32 → Int32 → Int32 → mjH → mjU} (hk160 : P_308_160 X (d + 1) C S kc ks k160) : P_308_160 X (d + 1) C S kc ks (b_308_160 R k141 k150 k160) := by
  intro l0 l2 l3 l4 l5 hp q h
  unfold b_308_160 at h
  refine mjr_iload (x := l5) D_308_160 rfl ?_
  refine mjq_bi (v := (7 : Int32)) D_308_162 rfl ?_
  refine mjq_icmp_ge (tgt := 223) D_308_164 rfl h (fun h => ?_) (fun h => ?_)
  · refine mjq_iinc (x := l4) (c := (1 : Int32)) (lo' := [some (.ref l0), none, some (.int l2), some (.int l3), some (.int (l4 + (1 : Int32))), some (.int l5)]) D_308_223 rfl (Nat.le_of_ble_eq_true rfl) rfl rfl ?_
    refine mjr_goto (tgt := 150) D_308_226 rfl ?_
    exact mjG.fg (lo' := [some (.ref l0), none, some (.int l2), some (.int l3), some (.int (l4 + (1 : Int32))), none]) (And.intro rfl (And.intro rfl (And.intro rfl (And.intro rfl True.intro)))) (hk150 _ _ _ _ _ _ h)
  · refine mjr_aload_n (x := l0) D_308_167 rfl ?_
    refine mjq_gR D_308_168 fr_12_75 h (fun v1 h => ?_)
    refine mjr_iload_n (x := l2) D_308_171 rfl ?_
    refine mjq_bi (v := (7 : Int32)) D_308_172 rfl ?_
    refine mjr_iload (x := l4) D_308_174 rfl ?_
    refine mjr_imul D_308_176 ?_
    refine mjr_iadd D_308_177 ?_
    refine mjr_iload_n (x := l3) D_308_178 rfl ?_
    refine mjr_iadd D_308_179 ?_
    refine mjq_aB D_308_180 h (fun v2 h => ?_)
    refine mjq_if_eq (tgt := 217) D_308_181 rfl h (fun h => ?_) (fun h => ?_)
    · exact (t_308_217 hR h1 h2 hk141 hk150 hk160) _ _ _ _ _ _ _ h
    · refine mjr_aload_n (x := l0) D_308_184 rfl ?_
      refine mjq_gR D_308_185 fr_12_75 h (fun v3 h => ?_)
      refine mjr_iload_n (x := l2) D_308_188 rfl ?_
      refine mjq_bi (v := (7 : Int32)) D_308_189 rfl ?_
      refine mjr_iload_n (x := l3) D_308_191 rfl ?_
      refine mjr_imul D_308_192 ?_
      refine mjr_iadd D_308_193 ?_
      refine mjr_iload (x := l5) D_308_194 rfl ?_
      refine mjr_iadd D_308_196 ?_
      refine mjq_aB D_308_197 h (fun v4 h => ?_)
      refine mjq_if_eq (tgt := 217) D_308_198 rfl h (fun h => ?_) (fun h => ?_)
      · exact (t_308_217 hR h1 h2 hk141 hk150 hk160) _ _ _ _ _ _ _ h
      · refine mjr_aload_n (x := l0) D_308_201 rfl ?_
        refine mjq_gR D_308_202 fr_12_75 h (fun v5 h => ?_)
        refine mjr_iload_n (x := l2) D_308_205 rfl ?_
        refine mjq_bi (v := (7 : Int32)) D_308_206 rfl ?_
        refine mjr_iload (x := l4) D_308_208 rfl ?_
        refine mjr_imul D_308_210 ?_
        refine mjr_iadd D_308_211 ?_
        refine mjr_iload (x := l5) D_308_212 rfl ?_
        refine mjr_iadd D_308_214 ?_
        refine mjq_ic (v := (1 : Int32)) D_308_215 rfl ?_
        refine mjq_sB D_308_216 h (fun hp6 h => ?_)
        exact (t_308_217 hR h1 h2 hk141 hk150 hk160) _ _ _ _ _ _ _ h
noncomputable def L_308_160 (R : mjR) (k141 : Nat → Int32 → Int32 → mjH → mjU) (k150 : Nat → Int32 → Int32 → Int32 → mjH → mjU) (n : Nat) : Nat → Int32 → Int32 → Int32 → Int32 → mjH → mjU := Nat.rec (motive := fun _ => Nat → Int32 → Int32 → Int32 → Int32 → mjH → mjU) (fun _ _ _ _ _ _ => none) (fun _ self => b_308_160 R k141 k150 self) n
theorem T_308_160 {X : mjX} {d C S kc ks : Nat} {R : mjR} (hR : mjC R d) (h1 : kc ≤ C) (h2 : ks ≤ S) {k141 : Nat → Int32 → Int32 → mjH → mjU} (hk141 : P_308_141 X (d + 1) C S kc ks k141) {k150 : Nat → Int32 → Int32 → Int32 → mjH → mjU} (hk150 : P_308_150 X (d + 1) C S kc ks k150) (n : Nat) : P_308_160 X (d + 1) C S kc ks (L_308_160 R k141 k150 n) := by
  induction n with
  | zero => intro _ _ _ _ _ _ _ h; exact mj_no h
  | succ n ih => exact t_308_160 hR h1 h2 hk141 hk150 ih
noncomputable def b_308_150 (R : mjR) (k141 : Nat → Int32 → Int32 → mjH → mjU) (k150 : Nat → Int32 → Int32 → Int32 → mjH → mjU) (l0 : Nat) (l2 : Int32) (l3 : Int32) (l4 : Int32) (hp : mjH) : mjU := (if (7 : Int32) ≤ l4 then k141 l0 l2 (l3 + (1 : Int32)) hp else L_308_160 R k141 k150 mjN l0 l2 l3 l4 (0 : Int32) hp)
theorem t_308_150 {X : mjX} {d C S kc ks : Nat} {R : mjR} (hR : mjC R d) (h1 : kc ≤ C) (h2 : ks ≤ S) {k141 : Nat → Int32 → Int32 → mjH → mjU} (hk141 : P_308_141 X (d + 1) C S kc ks k141) {k150 : Nat → Int32 → Int32 → Int32 → mjH → mjU} (hk150 : P_308_150 X (d + 1) C S kc ks k150) : P_308_150 X (d + 1) C S kc ks (b_308_150 R k141 k150) := by
  intro l0 l2 l3 l4 hp q h
  unfold b_308_150 at h
  refine mjr_iload (x := l4) D_308_150 rfl ?_
  refine mjq_bi (v := (7 : Int32)) D_308_152 rfl ?_
  refine mjq_icmp_ge (tgt := 229) D_308_154 rfl h (fun h => ?_) (fun h => ?_)
  · refine mjq_iinc (x := l3) (c := (1 : Int32)) (lo' := [some (.ref l0), none, some (.int l2), some (.int (l3 + (1 : Int32))), some (.int l4), none]) D_308_229 rfl (Nat.le_of_ble_eq_true rfl) rfl rfl ?_
    refine mjr_goto (tgt := 141) D_308_232 rfl ?_
    exact mjG.fg (lo' := [some (.ref l0), none, some (.int l2), some (.int (l3 + (1 : Int32))), none, none]) (And.intro rfl (And.intro rfl (And.intro rfl True.intro))) (hk141 _ _ _ _ _ h)
  · refine mjq_ic (v := (0 : Int32)) D_308_157 rfl ?_
    refine mjq_istore (lo' := [some (.ref l0), none, some (.int l2), some (.int l3), some (.int l4), some (.int (0 : Int32))]) D_308_158 (Nat.le_of_ble_eq_true rfl) rfl ?_
    exact (T_308_160 hR h1 h2 hk141 hk150 mjN) _ _ _ _ _ _ _ h
noncomputable def L_308_150 (R : mjR) (k141 : Nat → Int32 → Int32 → mjH → mjU) (n : Nat) : Nat → Int32 → Int32 → Int32 → mjH → mjU := Nat.rec (motive := fun _ => Nat → Int32 → Int32 → Int32 → mjH → mjU) (fun _ _ _ _ _ => none) (fun _ self => b_308_150 R k141 self) n
theorem T_308_150 {X : mjX} {d C S kc ks : Nat} {R : mjR} (hR : mjC R d) (h1 : kc ≤ C) (h2 : ks ≤ S) {k141 : Nat → Int32 → Int32 → mjH → mjU} (hk141 : P_308_141 X (d + 1) C S kc ks k141) (n : Nat) : P_308_150 X (d + 1) C S kc ks (L_308_150 R k141 n) := by
  induction n with
  | zero => intro _ _ _ _ _ _ h; exact mj_no h
  | succ n ih => exact t_308_150 hR h1 h2 hk141 ih
noncomputable def b_308_141 (R : mjR) (k141 : Nat → Int32 → Int32 → mjH → mjU) (l0 : Nat) (l2 : Int32) (l3 : Int32) (hp : mjH) : mjU := (if (7 : Int32) ≤ l3 then some (none, hp) else L_308_150 R k141 mjN l0 l2 l3 (0 : Int32) hp)
theorem t_308_141 {X : mjX} {d C S kc ks : Nat} {R : mjR} (hR : mjC R d) (h1 : kc ≤ C) (h2 : ks ≤ S) {k141 : Nat → Int32 → Int32 → mjH → mjU} (hk141 : P_308_141 X (d + 1) C S kc ks k141) : P_308_141 X (d + 1) C S kc ks (b_308_141 R k141) := by
  intro l0 l2 l3 hp q h
  unfold b_308_141 at h
  refine mjr_iload_n (x := l3) D_308_141 rfl ?_
  refine mjq_bi (v := (7 : Int32)) D_308_142 rfl ?_
  refine mjq_icmp_ge (tgt := 235) D_308_144 rfl h (fun h => ?_) (fun h => ?_)
  · exact mjq_nret D_308_235 rfl h1 h2 h
  · refine mjq_ic (v := (0 : Int32)) D_308_147 rfl ?_
    refine mjq_istore (lo' := [some (.ref l0), none, some (.int l2), some (.int l3), some (.int (0 : Int32)), none]) D_308_148 (Nat.le_of_ble_eq_true rfl) rfl ?_
    exact (T_308_150 hR h1 h2 hk141 mjN) _ _ _ _ _ _ h
noncomputable def L_308_141 (R : mjR) (n : Nat) : Nat → Int32 → Int32 → mjH → mjU := Nat.rec (motive := fun _ => Nat → Int32 → Int32 → mjH → mjU) (fun _ _ _ _ => none) (fun _ self => b_308_141 R self) n
theorem T_308_141 {X : mjX} {d C S kc ks : Nat} {R : mjR} (hR : mjC R d) (h1 : kc ≤ C) (h2 : ks ≤ S) (n : Nat) : P_308_141 X (d + 1) C S kc ks (L_308_141 R n) := by
  induction n with
  | zero => intro _ _ _ _ _ h; exact mj_no h
  | succ n ih => exact t_308_141 hR h1 h2 ih
noncomputable def b_308_94 (R : mjR) (k94 : Nat → Int32 → Int32 → Int32 → mjH → mjU) (l0 : Nat) (l1 : Int32) (l2 : Int32) (l3 : Int32) (hp : mjH) : mjU := gR hp l0 12 17 (fun v1 => aI hp v1 l1 (fun v2 => (if (((8 : Int32) * l1) + v2) ≤ l3 then L_308_141 R mjN l0 l2 (0 : Int32) hp else gR hp l0 12 30 (fun v3 => gR hp l0 12 28 (fun v4 => aI hp v4 l3 (fun v5 => gR hp l0 12 29 (fun v6 => aI hp v6 l3 (fun v7 => sB hp v3 ((l2 + ((7 : Int32) * v5)) + v7) (1 : Int32) (fun hp8 => k94 l0 l1 l2 (l3 + (1 : Int32)) hp8)))))))))
theorem t_308_94 {X : mjX} {d C S kc ks : Nat} {R : mjR} (hR : mjC R d) (h1 : kc ≤ C) (h2 : ks ≤ S) {k94 : Nat → Int32 → Int32 → Int32 → mjH → mjU} (hk94 : P_308_94 X (d + 1) C S kc ks k94) : P_308_94 X (d + 1) C S kc ks (b_308_94 R k94) := by
  intro l0 l1 l2 l3 hp q h
  unfold b_308_94 at h
  refine mjr_iload_n (x := l3) D_308_94 rfl ?_
  refine mjq_bi (v := (8 : Int32)) D_308_95 rfl ?_
  refine mjr_iload_n (x := l1) D_308_97 rfl ?_
  refine mjr_imul D_308_98 ?_
  refine mjr_aload_n (x := l0) D_308_99 rfl ?_
  refine mjq_gR D_308_100 fr_12_36 h (fun v1 h => ?_)
  refine mjr_iload_n (x := l1) D_308_103 rfl ?_
  refine mjq_aI D_308_104 h (fun v2 h => ?_)
  refine mjr_iadd D_308_105 ?_
  refine mjq_icmp_ge (tgt := 139) D_308_106 rfl h (fun h => ?_) (fun h => ?_)
  · refine mjq_ic (v := (0 : Int32)) D_308_139 rfl ?_
    refine mjq_istore_n (lo' := [some (.ref l0), some (.int l1), some (.int l2), some (.int (0 : Int32)), none, none]) D_308_140 (Nat.le_of_ble_eq_true rfl) rfl ?_
    exact mjG.fg (lo' := [some (.ref l0), none, some (.int l2), some (.int (0 : Int32)), none, none]) (And.intro rfl (And.intro rfl (And.intro rfl True.intro))) ((T_308_141 hR h1 h2 mjN) _ _ _ _ _ h)
  · refine mjr_aload_n (x := l0) D_308_109 rfl ?_
    refine mjq_gR D_308_110 fr_12_75 h (fun v3 h => ?_)
    refine mjr_iload_n (x := l2) D_308_113 rfl ?_
    refine mjq_bi (v := (7 : Int32)) D_308_114 rfl ?_
    refine mjr_aload_n (x := l0) D_308_116 rfl ?_
    refine mjq_gR D_308_117 fr_12_69 h (fun v4 h => ?_)
    refine mjr_iload_n (x := l3) D_308_120 rfl ?_
    refine mjq_aI D_308_121 h (fun v5 h => ?_)
    refine mjr_imul D_308_122 ?_
    refine mjr_iadd D_308_123 ?_
    refine mjr_aload_n (x := l0) D_308_124 rfl ?_
    refine mjq_gR D_308_125 fr_12_72 h (fun v6 h => ?_)
    refine mjr_iload_n (x := l3) D_308_128 rfl ?_
    refine mjq_aI D_308_129 h (fun v7 h => ?_)
    refine mjr_iadd D_308_130 ?_
    refine mjq_ic (v := (1 : Int32)) D_308_131 rfl ?_
    refine mjq_sB D_308_132 h (fun hp8 h => ?_)
    refine mjq_iinc (x := l3) (c := (1 : Int32)) (lo' := [some (.ref l0), some (.int l1), some (.int l2), some (.int (l3 + (1 : Int32))), none, none]) D_308_133 rfl (Nat.le_of_ble_eq_true rfl) rfl rfl ?_
    refine mjr_goto (tgt := 94) D_308_136 rfl ?_
    exact hk94 _ _ _ _ _ _ h
noncomputable def L_308_94 (R : mjR) (n : Nat) : Nat → Int32 → Int32 → Int32 → mjH → mjU := Nat.rec (motive := fun _ => Nat → Int32 → Int32 → Int32 → mjH → mjU) (fun _ _ _ _ _ => none) (fun _ self => b_308_94 R self) n
theorem T_308_94 {X : mjX} {d C S kc ks : Nat} {R : mjR} (hR : mjC R d) (h1 : kc ≤ C) (h2 : ks ≤ S) (n : Nat) : P_308_94 X (d + 1) C S kc ks (L_308_94 R n) := by
  induction n with
  | zero => intro _ _ _ _ _ _ h; exact mj_no h
  | succ n ih => exact t_308_94 hR h1 h2 ih
noncomputable def b_308_64 (R : mjR) (k64 : Nat → Int32 → Int32 → Int32 → mjH → mjU) (l0 : Nat) (l1 : Int32) (l2 : Int32) (l3 : Int32) (hp : mjH) : mjU := gR hp l0 12 15 (fun v1 => aI hp v1 l1 (fun v2 => (if v2 ≤ l3 then L_308_94 R mjN l0 l1 l2 ((8 : Int32) * l1) hp else gR hp l0 12 30 (fun v3 => sB hp v3 (l2 + l3) (1 : Int32) (fun hp4 => k64 l0 l1 l2 (l3 + (1 : Int32)) hp4)))))
theorem t_308_64 {X : mjX} {d C S kc ks : Nat} {R : mjR} (hR : mjC R d) (h1 : kc ≤ C) (h2 : ks ≤ S) {k64 : Nat → Int32 → Int32 → Int32 → mjH → mjU} (hk64 : P_308_64 X (d + 1) C S kc ks k64) : P_308_64 X (d + 1) C S kc ks (b_308_64 R k64) := by
  intro l0 l1 l2 l3 hp q h
  unfold b_308_64 at h
  refine mjr_iload_n (x := l3) D_308_64 rfl ?_
  refine mjr_aload_n (x := l0) D_308_65 rfl ?_
  refine mjq_gR D_308_66 fr_12_30 h (fun v1 h => ?_)
  refine mjr_iload_n (x := l1) D_308_69 rfl ?_
  refine mjq_aI D_308_70 h (fun v2 h => ?_)
  refine mjq_icmp_ge (tgt := 89) D_308_71 rfl h (fun h => ?_) (fun h => ?_)
  · refine mjq_bi (v := (8 : Int32)) D_308_89 rfl ?_
    refine mjr_iload_n (x := l1) D_308_91 rfl ?_
    refine mjr_imul D_308_92 ?_
    refine mjq_istore_n (lo' := [some (.ref l0), some (.int l1), some (.int l2), some (.int ((8 : Int32) * l1)), none, none]) D_308_93 (Nat.le_of_ble_eq_true rfl) rfl ?_
    exact (T_308_94 hR h1 h2 mjN) _ _ _ _ _ _ h
  · refine mjr_aload_n (x := l0) D_308_74 rfl ?_
    refine mjq_gR D_308_75 fr_12_75 h (fun v3 h => ?_)
    refine mjr_iload_n (x := l2) D_308_78 rfl ?_
    refine mjr_iload_n (x := l3) D_308_79 rfl ?_
    refine mjr_iadd D_308_80 ?_
    refine mjq_ic (v := (1 : Int32)) D_308_81 rfl ?_
    refine mjq_sB D_308_82 h (fun hp4 h => ?_)
    refine mjq_iinc (x := l3) (c := (1 : Int32)) (lo' := [some (.ref l0), some (.int l1), some (.int l2), some (.int (l3 + (1 : Int32))), none, none]) D_308_83 rfl (Nat.le_of_ble_eq_true rfl) rfl rfl ?_
    refine mjr_goto (tgt := 64) D_308_86 rfl ?_
    exact hk64 _ _ _ _ _ _ h
noncomputable def L_308_64 (R : mjR) (n : Nat) : Nat → Int32 → Int32 → Int32 → mjH → mjU := Nat.rec (motive := fun _ => Nat → Int32 → Int32 → Int32 → mjH → mjU) (fun _ _ _ _ _ => none) (fun _ self => b_308_64 R self) n
theorem T_308_64 {X : mjX} {d C S kc ks : Nat} {R : mjR} (hR : mjC R d) (h1 : kc ≤ C) (h2 : ks ≤ S) (n : Nat) : P_308_64 X (d + 1) C S kc ks (L_308_64 R n) := by
  induction n with
  | zero => intro _ _ _ _ _ _ h; exact mj_no h
  | succ n ih => exact t_308_64 hR h1 h2 ih
noncomputable def b_308_45 (R : mjR) (k7 : Nat → Int32 → Int32 → Int32 → mjH → mjU) (l0 : Nat) (l1 : Int32) (l2 : Int32) (l3 : Int32) (s0 : Nat) (s1 : Int32) (s2 : Int32) (hp : mjH) : mjU := sB hp s0 s1 s2 (fun hp1 => k7 l0 l1 l2 (l3 + (1 : Int32)) hp1)
theorem t_308_45 {X : mjX} {d C S kc ks : Nat} {R : mjR} (hR : mjC R d) (h1 : kc ≤ C) (h2 : ks ≤ S) {k7 : Nat → Int32 → Int32 → Int32 → mjH → mjU} (hk7 : P_308_7 X (d + 1) C S kc ks k7) : P_308_45 X (d + 1) C S kc ks (b_308_45 R k7) := by
  intro l0 l1 l2 l3 s0 s1 s2 hp q h
  unfold b_308_45 at h
  refine mjq_sB D_308_45 h (fun hp1 h => ?_)
  refine mjq_iinc (x := l3) (c := (1 : Int32)) (lo' := [some (.ref l0), some (.int l1), some (.int l2), some (.int (l3 + (1 : Int32))), none, none]) D_308_46 rfl (Nat.le_of_ble_eq_true rfl) rfl rfl ?_
  refine mjr_goto (tgt := 7) D_308_49 rfl ?_
  exact hk7 _ _ _ _ _ _ h
noncomputable def b_308_40 (R : mjR) (k7 : Nat → Int32 → Int32 → Int32 → mjH → mjU) (l0 : Nat) (l1 : Int32) (l2 : Int32) (l3 : Int32) (s0 : Nat) (s1 : Int32) (hp : mjH) : mjU := b_308_45 R k7 l0 l1 l2 l3 s0 s1 (1 : Int32) hp
theorem t_308_40 {X : mjX} {d C S kc ks : Nat} {R : mjR} (hR : mjC R d) (h1 : kc ≤ C) (h2 : ks ≤ S) {k7 : Nat → Int32 → Int32 → Int32 → mjH → mjU} (hk7 : P_308_7 X (d + 1) C S kc ks k7) : P_308_40 X (d + 1) C S kc ks (b_308_40 R k7) := by
  intro l0 l1 l2 l3 s0 s1 hp q h
  unfold b_308_40 at h
  refine mjq_ic (v := (1 : Int32)) D_308_40 rfl ?_
  refine mjr_goto (tgt := 45) D_308_41 rfl ?_
  exact (t_308_45 hR h1 h2 hk7) _ _ _ _ _ _ _ _ _ h
noncomputable def b_308_7 (R : mjR) (k7 : Nat → Int32 → Int32 → Int32 → mjH → mjU) (l0 : Nat) (l1 : Int32) (l2 : Int32) (l3 : Int32) (hp : mjH) : mjU := (if (49 : Int32) ≤ l3 then gR hp l0 12 30 (fun v1 => sB hp v1 (l2 + (35 : Int32)) (1 : Int32) (fun hp2 => L_308_64 R mjN l0 l1 l2 (0 : Int32) hp2)) else gR hp l0 12 30 (fun v3 => (if (l3 / (7 : Int32)) = (l3 - l3 / (7 : Int32) * (7 : Int32)) then b_308_40 R k7 l0 l1 l2 l3 v3 (l2 + l3) hp else (if (l3 - l3 / (7 : Int32) * (7 : Int32)) = (6 : Int32) then b_308_40 R k7 l0 l1 l2 l3 v3 (l2 + l3) hp else b_308_45 R k7 l0 l1 l2 l3 v3 (l2 + l3) (0 : Int32) hp))))
theorem t_308_7 {X : mjX} {d C S kc ks : Nat} {R : mjR} (hR : mjC R d) (h1 : kc ≤ C) (h2 : ks ≤ S) {k7 : Nat → Int32 → Int32 → Int32 → mjH → mjU} (hk7 : P_308_7 X (d + 1) C S kc ks k7) : P_308_7 X (d + 1) C S kc ks (b_308_7 R k7) := by
  intro l0 l1 l2 l3 hp q h
  unfold b_308_7 at h
  refine mjr_iload_n (x := l3) D_308_7 rfl ?_
  refine mjq_bi (v := (49 : Int32)) D_308_8 rfl ?_
  refine mjq_icmp_ge (tgt := 52) D_308_10 rfl h (fun h => ?_) (fun h => ?_)
  · refine mjr_aload_n (x := l0) D_308_52 rfl ?_
    refine mjq_gR D_308_53 fr_12_75 h (fun v1 h => ?_)
    refine mjr_iload_n (x := l2) D_308_56 rfl ?_
    refine mjq_bi (v := (35 : Int32)) D_308_57 rfl ?_
    refine mjr_iadd D_308_59 ?_
    refine mjq_ic (v := (1 : Int32)) D_308_60 rfl ?_
    refine mjq_sB D_308_61 h (fun hp2 h => ?_)
    refine mjq_ic (v := (0 : Int32)) D_308_62 rfl ?_
    refine mjq_istore_n (lo' := [some (.ref l0), some (.int l1), some (.int l2), some (.int (0 : Int32)), none, none]) D_308_63 (Nat.le_of_ble_eq_true rfl) rfl ?_
    exact (T_308_64 hR h1 h2 mjN) _ _ _ _ _ _ h
  · refine mjr_aload_n (x := l0) D_308_13 rfl ?_
    refine mjq_gR D_308_14 fr_12_75 h (fun v3 h => ?_)
    refine mjr_iload_n (x := l2) D_308_17 rfl ?_
    refine mjr_iload_n (x := l3) D_308_18 rfl ?_
    refine mjr_iadd D_308_19 ?_
    refine mjr_iload_n (x := l3) D_308_20 rfl ?_
    refine mjq_bi (v := (7 : Int32)) D_308_21 rfl ?_
    refine mjr_idiv D_308_23 (by decide) ?_
    refine mjr_iload_n (x := l3) D_308_24 rfl ?_
    refine mjq_bi (v := (7 : Int32)) D_308_25 rfl ?_
    refine mjr_irem D_308_27 (by decide) ?_
    refine mjq_icmp_eq (tgt := 40) D_308_28 rfl h (fun h => ?_) (fun h => ?_)
    · exact (t_308_40 hR h1 h2 hk7) _ _ _ _ _ _ _ _ h
    · refine mjr_iload_n (x := l3) D_308_31 rfl ?_
      refine mjq_bi (v := (7 : Int32)) D_308_32 rfl ?_
      refine mjr_irem D_308_34 (by decide) ?_
      refine mjq_bi (v := (6 : Int32)) D_308_35 rfl ?_
      refine mjq_icmp_ne (tgt := 44) D_308_37 rfl h (fun h => ?_) (fun h => ?_)
      · refine mjq_ic (v := (0 : Int32)) D_308_44 rfl ?_
        exact (t_308_45 hR h1 h2 hk7) _ _ _ _ _ _ _ _ _ h
      · exact (t_308_40 hR h1 h2 hk7) _ _ _ _ _ _ _ _ h
noncomputable def L_308_7 (R : mjR) (n : Nat) : Nat → Int32 → Int32 → Int32 → mjH → mjU := Nat.rec (motive := fun _ => Nat → Int32 → Int32 → Int32 → mjH → mjU) (fun _ _ _ _ _ => none) (fun _ self => b_308_7 R self) n
theorem T_308_7 {X : mjX} {d C S kc ks : Nat} {R : mjR} (hR : mjC R d) (h1 : kc ≤ C) (h2 : ks ≤ S) (n : Nat) : P_308_7 X (d + 1) C S kc ks (L_308_7 R n) := by
  induction n with
  | zero => intro _ _ _ _ _ _ h; exact mj_no h
  | succ n ih => exact t_308_7 hR h1 h2 ih
noncomputable def b_308_0 (R : mjR) (l0 : Nat) (l1 : Int32) (hp : mjH) : mjU := L_308_7 R mjN l0 l1 ((49 : Int32) * l1) (0 : Int32) hp
theorem t_308_0 {X : mjX} {d C S kc ks : Nat} {R : mjR} (hR : mjC R d) (h1 : kc ≤ C) (h2 : ks ≤ S) : P_308_0 X (d + 1) C S kc ks (b_308_0 R) := by
  intro l0 l1 hp q h
  unfold b_308_0 at h
  refine mjq_bi (v := (49 : Int32)) D_308_0 rfl ?_
  refine mjr_iload_n (x := l1) D_308_2 rfl ?_
  refine mjr_imul D_308_3 ?_
  refine mjq_istore_n (lo' := [some (.ref l0), some (.int l1), some (.int ((49 : Int32) * l1)), none, none, none]) D_308_4 (Nat.le_of_ble_eq_true rfl) rfl ?_
  refine mjq_ic (v := (0 : Int32)) D_308_5 rfl ?_
  refine mjq_istore_n (lo' := [some (.ref l0), some (.int l1), some (.int ((49 : Int32) * l1)), some (.int (0 : Int32)), none, none]) D_308_6 (Nat.le_of_ble_eq_true rfl) rfl ?_
  exact (T_308_7 hR h1 h2 mjN) _ _ _ _ _ _ h
noncomputable def f_308 (R : mjR) (a0 : Nat) (a1 : Int32) (hp : mjH) : mjU := b_308_0 R a0 a1 hp
theorem c_308 {R : mjR} {d : Nat} (hR : mjC R d) {a0 : Nat} {a1 : Int32} {hp : mjH} {q : Option Value × mjH} (h : f_308 R a0 a1 hp = some q) : mjM (d + 1) 0 0 308 [.ref a0, .int a1] hp (mjEq q) :=
  mjM_of Ja_308 (Nat.le_of_ble_eq_true rfl) (mjG.fg (lo' := [some (.ref a0), some (.int a1), none, none, none, none]) (And.intro rfl (And.intro rfl True.intro)) ((t_308_0 hR (Nat.le_refl 0) (Nat.le_refl 0)) a0 a1 hp q h))
def J_309 : mjI := (⟨"OwnerHeapModel", "judgeMembers", "(I)V"⟩, 12, prog_14_method_58_code, 5, none, 1, false)
theorem Ja_309 : mjMt 309 = some J_309 := by rfl
theorem D_309_0 : decode J_309.2.2.1 0 = .ok (.aload_n 0, 1) := dzq_42 (by decide +kernel)
theorem D_309_1 : decode J_309.2.2.1 1 = .ok (.getfield 33, 3) := dzq_180 (by decide +kernel)
theorem D_309_4 : decode J_309.2.2.1 4 = .ok (.iload_n 1, 1) := dzq_27 (by decide +kernel)
theorem D_309_5 : decode J_309.2.2.1 5 = .ok (.iaload, 1) := dzq_46 (by decide +kernel)
theorem D_309_6 : decode J_309.2.2.1 6 = .ok (.ifCond .lt 14, 3) := dzq_155 (by decide +kernel)
theorem D_309_9 : decode J_309.2.2.1 9 = .ok (.aload_n 0, 1) := dzq_42 (by decide +kernel)
theorem D_309_10 : decode J_309.2.2.1 10 = .ok (.aload_n 0, 1) := dzq_42 (by decide +kernel)
theorem D_309_11 : decode J_309.2.2.1 11 = .ok (.getfield 33, 3) := dzq_180 (by decide +kernel)
theorem D_309_14 : decode J_309.2.2.1 14 = .ok (.iload_n 1, 1) := dzq_27 (by decide +kernel)
theorem D_309_15 : decode J_309.2.2.1 15 = .ok (.iaload, 1) := dzq_46 (by decide +kernel)
theorem D_309_16 : decode J_309.2.2.1 16 = .ok (.iload_n 1, 1) := dzq_27 (by decide +kernel)
theorem D_309_17 : decode J_309.2.2.1 17 = .ok (.invokevirtual 508, 3) := dzq_182 (by decide +kernel)
theorem D_309_20 : decode J_309.2.2.1 20 = .ok (.aload_n 0, 1) := dzq_42 (by decide +kernel)
theorem D_309_21 : decode J_309.2.2.1 21 = .ok (.getfield 39, 3) := dzq_180 (by decide +kernel)
theorem D_309_24 : decode J_309.2.2.1 24 = .ok (.iload_n 1, 1) := dzq_27 (by decide +kernel)
theorem D_309_25 : decode J_309.2.2.1 25 = .ok (.iaload, 1) := dzq_46 (by decide +kernel)
theorem D_309_26 : decode J_309.2.2.1 26 = .ok (.sipush 400, 3) := dzq_17 (by decide +kernel)
theorem D_309_29 : decode J_309.2.2.1 29 = .ok (.aload_n 0, 1) := dzq_42 (by decide +kernel)
theorem D_309_30 : decode J_309.2.2.1 30 = .ok (.getfield 356, 3) := dzq_180 (by decide +kernel)
theorem D_309_33 : decode J_309.2.2.1 33 = .ok (.imul, 1) := dzq_104 (by decide +kernel)
theorem D_309_34 : decode J_309.2.2.1 34 = .ok (.iadd, 1) := dzq_96 (by decide +kernel)
theorem D_309_35 : decode J_309.2.2.1 35 = .ok (.istore_n 2, 1) := dzq_61 (by decide +kernel)
theorem D_309_36 : decode J_309.2.2.1 36 = .ok (.iload_n 2, 1) := dzq_28 (by decide +kernel)
theorem D_309_37 : decode J_309.2.2.1 37 = .ok (.aload_n 0, 1) := dzq_42 (by decide +kernel)
theorem D_309_38 : decode J_309.2.2.1 38 = .ok (.getfield 39, 3) := dzq_180 (by decide +kernel)
theorem D_309_41 : decode J_309.2.2.1 41 = .ok (.iload_n 1, 1) := dzq_27 (by decide +kernel)
theorem D_309_42 : decode J_309.2.2.1 42 = .ok (.iaload, 1) := dzq_46 (by decide +kernel)
theorem D_309_43 : decode J_309.2.2.1 43 = .ok (.sipush 400, 3) := dzq_17 (by decide +kernel)
theorem D_309_46 : decode J_309.2.2.1 46 = .ok (.aload_n 0, 1) := dzq_42 (by decide +kernel)
theorem D_309_47 : decode J_309.2.2.1 47 = .ok (.getfield 356, 3) := dzq_180 (by decide +kernel)
theorem D_309_50 : decode J_309.2.2.1 50 = .ok (.imul, 1) := dzq_104 (by decide +kernel)
theorem D_309_51 : decode J_309.2.2.1 51 = .ok (.iadd, 1) := dzq_96 (by decide +kernel)
theorem D_309_52 : decode J_309.2.2.1 52 = .ok (.aload_n 0, 1) := dzq_42 (by decide +kernel)
theorem D_309_53 : decode J_309.2.2.1 53 = .ok (.getfield 42, 3) := dzq_180 (by decide +kernel)
theorem D_309_56 : decode J_309.2.2.1 56 = .ok (.iload_n 1, 1) := dzq_27 (by decide +kernel)
theorem D_309_57 : decode J_309.2.2.1 57 = .ok (.iaload, 1) := dzq_46 (by decide +kernel)
theorem D_309_58 : decode J_309.2.2.1 58 = .ok (.iadd, 1) := dzq_96 (by decide +kernel)
theorem D_309_59 : decode J_309.2.2.1 59 = .ok (.if_icmp .ge 171, 3) := dzq_162 (by decide +kernel)
theorem D_309_62 : decode J_309.2.2.1 62 = .ok (.aload_n 0, 1) := dzq_42 (by decide +kernel)
theorem D_309_63 : decode J_309.2.2.1 63 = .ok (.getfield 333, 3) := dzq_180 (by decide +kernel)
theorem D_309_66 : decode J_309.2.2.1 66 = .ok (.ifCond .ne 164, 3) := dzq_154 (by decide +kernel)
theorem D_309_69 : decode J_309.2.2.1 69 = .ok (.aload_n 0, 1) := dzq_42 (by decide +kernel)
theorem D_309_70 : decode J_309.2.2.1 70 = .ok (.aload_n 0, 1) := dzq_42 (by decide +kernel)
theorem D_309_71 : decode J_309.2.2.1 71 = .ok (.getfield 97, 3) := dzq_180 (by decide +kernel)
theorem D_309_74 : decode J_309.2.2.1 74 = .ok (.iload_n 2, 1) := dzq_28 (by decide +kernel)
theorem D_309_75 : decode J_309.2.2.1 75 = .ok (.iaload, 1) := dzq_46 (by decide +kernel)
theorem D_309_76 : decode J_309.2.2.1 76 = .ok (.iload_n 1, 1) := dzq_27 (by decide +kernel)
theorem D_309_77 : decode J_309.2.2.1 77 = .ok (.invokevirtual 541, 3) := dzq_182 (by decide +kernel)
theorem D_309_80 : decode J_309.2.2.1 80 = .ok (.aload_n 0, 1) := dzq_42 (by decide +kernel)
theorem D_309_81 : decode J_309.2.2.1 81 = .ok (.getfield 39, 3) := dzq_180 (by decide +kernel)
theorem D_309_84 : decode J_309.2.2.1 84 = .ok (.iload_n 1, 1) := dzq_27 (by decide +kernel)
theorem D_309_85 : decode J_309.2.2.1 85 = .ok (.iaload, 1) := dzq_46 (by decide +kernel)
theorem D_309_86 : decode J_309.2.2.1 86 = .ok (.sipush 400, 3) := dzq_17 (by decide +kernel)
theorem D_309_89 : decode J_309.2.2.1 89 = .ok (.aload_n 0, 1) := dzq_42 (by decide +kernel)
theorem D_309_90 : decode J_309.2.2.1 90 = .ok (.getfield 356, 3) := dzq_180 (by decide +kernel)
theorem D_309_93 : decode J_309.2.2.1 93 = .ok (.imul, 1) := dzq_104 (by decide +kernel)
theorem D_309_94 : decode J_309.2.2.1 94 = .ok (.iadd, 1) := dzq_96 (by decide +kernel)
theorem D_309_95 : decode J_309.2.2.1 95 = .ok (.istore_n 3, 1) := dzq_62 (by decide +kernel)
theorem D_309_96 : decode J_309.2.2.1 96 = .ok (.iload_n 3, 1) := dzq_29 (by decide +kernel)
theorem D_309_97 : decode J_309.2.2.1 97 = .ok (.iload_n 2, 1) := dzq_28 (by decide +kernel)
theorem D_309_98 : decode J_309.2.2.1 98 = .ok (.if_icmp .ge 36, 3) := dzq_162 (by decide +kernel)
theorem D_309_101 : decode J_309.2.2.1 101 = .ok (.aload_n 0, 1) := dzq_42 (by decide +kernel)
theorem D_309_102 : decode J_309.2.2.1 102 = .ok (.getfield 115, 3) := dzq_180 (by decide +kernel)
theorem D_309_105 : decode J_309.2.2.1 105 = .ok (.iload_n 3, 1) := dzq_29 (by decide +kernel)
theorem D_309_106 : decode J_309.2.2.1 106 = .ok (.laload, 1) := dzq_47 (by decide +kernel)
theorem D_309_107 : decode J_309.2.2.1 107 = .ok (.aload_n 0, 1) := dzq_42 (by decide +kernel)
theorem D_309_108 : decode J_309.2.2.1 108 = .ok (.getfield 115, 3) := dzq_180 (by decide +kernel)
theorem D_309_111 : decode J_309.2.2.1 111 = .ok (.iload_n 2, 1) := dzq_28 (by decide +kernel)
theorem D_309_112 : decode J_309.2.2.1 112 = .ok (.laload, 1) := dzq_47 (by decide +kernel)
theorem D_309_113 : decode J_309.2.2.1 113 = .ok (.lcmp, 1) := by decide +kernel
theorem D_309_114 : decode J_309.2.2.1 114 = .ok (.ifCond .ne 14, 3) := dzq_154 (by decide +kernel)
theorem D_309_117 : decode J_309.2.2.1 117 = .ok (.aload_n 0, 1) := dzq_42 (by decide +kernel)
theorem D_309_118 : decode J_309.2.2.1 118 = .ok (.iconst 4, 1) := dzq_7 (by decide +kernel)
theorem D_309_119 : decode J_309.2.2.1 119 = .ok (.aload_n 0, 1) := dzq_42 (by decide +kernel)
theorem D_309_120 : decode J_309.2.2.1 120 = .ok (.getfield 100, 3) := dzq_180 (by decide +kernel)
theorem D_309_123 : decode J_309.2.2.1 123 = .ok (.iload_n 2, 1) := dzq_28 (by decide +kernel)
theorem D_309_124 : decode J_309.2.2.1 124 = .ok (.iaload, 1) := dzq_46 (by decide +kernel)
theorem D_309_125 : decode J_309.2.2.1 125 = .ok (.invokevirtual 339, 3) := dzq_182 (by decide +kernel)
theorem D_309_128 : decode J_309.2.2.1 128 = .ok (.iinc 3 1, 3) := dzq_132 (by decide +kernel)
theorem D_309_131 : decode J_309.2.2.1 131 = .ok (.goto (-35), 3) := dzq_167 (by decide +kernel)
theorem D_309_134 : decode J_309.2.2.1 134 = .ok (.bipush 6, 2) := dzq_16 (by decide +kernel)
theorem D_309_136 : decode J_309.2.2.1 136 = .ok (.iload_n 2, 1) := dzq_28 (by decide +kernel)
theorem D_309_137 : decode J_309.2.2.1 137 = .ok (.imul, 1) := dzq_104 (by decide +kernel)
theorem D_309_138 : decode J_309.2.2.1 138 = .ok (.istore_n 3, 1) := dzq_62 (by decide +kernel)
theorem D_309_139 : decode J_309.2.2.1 139 = .ok (.iload_n 3, 1) := dzq_29 (by decide +kernel)
theorem D_309_140 : decode J_309.2.2.1 140 = .ok (.bipush 6, 2) := dzq_16 (by decide +kernel)
theorem D_309_142 : decode J_309.2.2.1 142 = .ok (.iload_n 2, 1) := dzq_28 (by decide +kernel)
theorem D_309_143 : decode J_309.2.2.1 143 = .ok (.imul, 1) := dzq_104 (by decide +kernel)
theorem D_309_144 : decode J_309.2.2.1 144 = .ok (.aload_n 0, 1) := dzq_42 (by decide +kernel)
theorem D_309_145 : decode J_309.2.2.1 145 = .ok (.getfield 103, 3) := dzq_180 (by decide +kernel)
theorem D_309_148 : decode J_309.2.2.1 148 = .ok (.iload_n 2, 1) := dzq_28 (by decide +kernel)
theorem D_309_149 : decode J_309.2.2.1 149 = .ok (.iaload, 1) := dzq_46 (by decide +kernel)
theorem D_309_150 : decode J_309.2.2.1 150 = .ok (.iadd, 1) := dzq_96 (by decide +kernel)
theorem D_309_151 : decode J_309.2.2.1 151 = .ok (.if_icmp .ge 73, 3) := dzq_162 (by decide +kernel)
theorem D_309_154 : decode J_309.2.2.1 154 = .ok (.aload_n 0, 1) := dzq_42 (by decide +kernel)
theorem D_309_155 : decode J_309.2.2.1 155 = .ok (.getfield 333, 3) := dzq_180 (by decide +kernel)
theorem D_309_158 : decode J_309.2.2.1 158 = .ok (.ifCond .ne 66, 3) := dzq_154 (by decide +kernel)
theorem D_309_161 : decode J_309.2.2.1 161 = .ok (.aload_n 0, 1) := dzq_42 (by decide +kernel)
theorem D_309_162 : decode J_309.2.2.1 162 = .ok (.aload_n 0, 1) := dzq_42 (by decide +kernel)
theorem D_309_163 : decode J_309.2.2.1 163 = .ok (.getfield 118, 3) := dzq_180 (by decide +kernel)
theorem D_309_166 : decode J_309.2.2.1 166 = .ok (.iload_n 3, 1) := dzq_29 (by decide +kernel)
theorem D_309_167 : decode J_309.2.2.1 167 = .ok (.iaload, 1) := dzq_46 (by decide +kernel)
theorem D_309_168 : decode J_309.2.2.1 168 = .ok (.iload_n 1, 1) := dzq_27 (by decide +kernel)
theorem D_309_169 : decode J_309.2.2.1 169 = .ok (.invokevirtual 541, 3) := dzq_182 (by decide +kernel)
theorem D_309_172 : decode J_309.2.2.1 172 = .ok (.bipush 6, 2) := dzq_16 (by decide +kernel)
theorem D_309_174 : decode J_309.2.2.1 174 = .ok (.iload_n 2, 1) := dzq_28 (by decide +kernel)
theorem D_309_175 : decode J_309.2.2.1 175 = .ok (.imul, 1) := dzq_104 (by decide +kernel)
theorem D_309_176 : decode J_309.2.2.1 176 = .ok (.istore 4, 2) := dzq_54 (by decide +kernel)
theorem D_309_178 : decode J_309.2.2.1 178 = .ok (.iload 4, 2) := dzq_21 (by decide +kernel)
theorem D_309_180 : decode J_309.2.2.1 180 = .ok (.iload_n 3, 1) := dzq_29 (by decide +kernel)
theorem D_309_181 : decode J_309.2.2.1 181 = .ok (.if_icmp .ge 37, 3) := dzq_162 (by decide +kernel)
theorem D_309_184 : decode J_309.2.2.1 184 = .ok (.aload_n 0, 1) := dzq_42 (by decide +kernel)
theorem D_309_185 : decode J_309.2.2.1 185 = .ok (.getfield 124, 3) := dzq_180 (by decide +kernel)
theorem D_309_188 : decode J_309.2.2.1 188 = .ok (.iload 4, 2) := dzq_21 (by decide +kernel)
theorem D_309_190 : decode J_309.2.2.1 190 = .ok (.laload, 1) := dzq_47 (by decide +kernel)
theorem D_309_191 : decode J_309.2.2.1 191 = .ok (.aload_n 0, 1) := dzq_42 (by decide +kernel)
theorem D_309_192 : decode J_309.2.2.1 192 = .ok (.getfield 124, 3) := dzq_180 (by decide +kernel)
theorem D_309_195 : decode J_309.2.2.1 195 = .ok (.iload_n 3, 1) := dzq_29 (by decide +kernel)
theorem D_309_196 : decode J_309.2.2.1 196 = .ok (.laload, 1) := dzq_47 (by decide +kernel)
theorem D_309_197 : decode J_309.2.2.1 197 = .ok (.lcmp, 1) := by decide +kernel
theorem D_309_198 : decode J_309.2.2.1 198 = .ok (.ifCond .ne 14, 3) := dzq_154 (by decide +kernel)
theorem D_309_201 : decode J_309.2.2.1 201 = .ok (.aload_n 0, 1) := dzq_42 (by decide +kernel)
theorem D_309_202 : decode J_309.2.2.1 202 = .ok (.iconst 4, 1) := dzq_7 (by decide +kernel)
theorem D_309_203 : decode J_309.2.2.1 203 = .ok (.aload_n 0, 1) := dzq_42 (by decide +kernel)
theorem D_309_204 : decode J_309.2.2.1 204 = .ok (.getfield 121, 3) := dzq_180 (by decide +kernel)
theorem D_309_207 : decode J_309.2.2.1 207 = .ok (.iload_n 3, 1) := dzq_29 (by decide +kernel)
theorem D_309_208 : decode J_309.2.2.1 208 = .ok (.iaload, 1) := dzq_46 (by decide +kernel)
theorem D_309_209 : decode J_309.2.2.1 209 = .ok (.invokevirtual 339, 3) := dzq_182 (by decide +kernel)
theorem D_309_212 : decode J_309.2.2.1 212 = .ok (.iinc 4 1, 3) := dzq_132 (by decide +kernel)
theorem D_309_215 : decode J_309.2.2.1 215 = .ok (.goto (-37), 3) := dzq_167 (by decide +kernel)
theorem D_309_218 : decode J_309.2.2.1 218 = .ok (.iinc 3 1, 3) := dzq_132 (by decide +kernel)
theorem D_309_221 : decode J_309.2.2.1 221 = .ok (.goto (-82), 3) := dzq_167 (by decide +kernel)
theorem D_309_224 : decode J_309.2.2.1 224 = .ok (.iinc 2 1, 3) := dzq_132 (by decide +kernel)
theorem D_309_227 : decode J_309.2.2.1 227 = .ok (.goto (-191), 3) := dzq_167 (by decide +kernel)
theorem D_309_230 : decode J_309.2.2.1 230 = .ok (.return_, 1) := dzq_177 (by decide +kernel)
def P_309_224 (X : mjX) (d C S kc ks : Nat) (k : Nat → Int32 → Int32 → mjH → mjU) : Prop := ∀ (l0 : Nat) (l1 : Int32) (l2 : Int32) (hp : mjH) (q : Option Value × mjH), k l0 l1 l2 hp = some q → mjG X d C S J_309 (mjEq q) 224 [some (.ref l0), some (.int l1), some (.int l2), none, none] [] hp kc ks
def P_309_212 (X : mjX) (d C S kc ks : Nat) (k : Nat → Int32 → Int32 → Int32 → Int32 → mjH → mjU) : Prop := ∀ (l0 : Nat) (l1 : Int32) (l2 : Int32) (l3 : Int32) (l4 : Int32) (hp : mjH) (q : Option Value × mjH), k l0 l1 l2 l3 l4 hp = some q → mjG X d C S J_309 (mjEq q) 212 [some (.ref l0), some (.int l1), some (.int l2), some (.int l3), some (.int l4)] [] hp kc ks
def P_309_178 (X : mjX) (d C S kc ks : Nat) (k : Nat → Int32 → Int32 → Int32 → Int32 → mjH → mjU) : Prop := ∀ (l0 : Nat) (l1 : Int32) (l2 : Int32) (l3 : Int32) (l4 : Int32) (hp : mjH) (q : Option Value × mjH), k l0 l1 l2 l3 l4 hp = some q → mjG X d C S J_309 (mjEq q) 178 [some (.ref l0), some (.int l1), some (.int l2), some (.int l3), some (.int l4)] [] hp kc ks
def P_309_139 (X : mjX) (d C S kc ks : Nat) (k : Nat → Int32 → Int32 → Int32 → mjH → mjU) : Prop := ∀ (l0 : Nat) (l1 : Int32) (l2 : Int32) (l3 : Int32) (hp : mjH) (q : Option Value × mjH), k l0 l1 l2 l3 hp = some q → mjG X d C S J_309 (mjEq q) 139 [some (.ref l0), some (.int l1), some (.int l2), some (.int l3), none] [] hp kc ks
def P_309_128 (X : mjX) (d C S kc ks : Nat) (k : Nat → Int32 → Int32 → Int32 → mjH → mjU) : Prop := ∀ (l0 : Nat) (l1 : Int32) (l2 : Int32) (l3 : Int32) (hp : mjH) (q : Option Value × mjH), k l0 l1 l2 l3 hp = some q → mjG X d C S J_309 (mjEq q) 128 [some (.ref l0), some (.int l1), some (.int l2), some (.int l3), none] [] hp kc ks
def P_309_96 (X : mjX) (d C S kc ks : Nat) (k : Nat → Int32 → Int32 → Int32 → mjH → mjU) : Prop := ∀ (l0 : Nat) (l1 : Int32) (l2 : Int32) (l3 : Int32) (hp : mjH) (q : Option Value × mjH), k l0 l1 l2 l3 hp = some q → mjG X d C S J_309 (mjEq q) 96 [some (.ref l0), some (.int l1), some (.int l2), some (.int l3), none] [] hp kc ks
def P_309_36 (X : mjX) (d C S kc ks : Nat) (k : Nat → Int32 → Int32 → mjH → mjU) : Prop := ∀ (l0 : Nat) (l1 : Int32) (l2 : Int32) (hp : mjH) (q : Option Value × mjH), k l0 l1 l2 hp = some q → mjG X d C S J_309 (mjEq q) 36 [some (.ref l0), some (.int l1), some (.int l2), none, none] [] hp kc ks
def P_309_20 (X : mjX) (d C S kc ks : Nat) (k : Nat → Int32 → mjH → mjU) : Prop := ∀ (l0 : Nat) (l1 : Int32) (hp : mjH) (q : Option Value × mjH), k l0 l1 hp = some q → mjG X d C S J_309 (mjEq q) 20 [some (.ref l0), some (.int l1), none, none, none] [] hp kc ks
def P_309_0 (X : mjX) (d C S kc ks : Nat) (k : Nat → Int32 → mjH → mjU) : Prop := ∀ (l0 : Nat) (l1 : Int32) (hp : mjH) (q : Option Value × mjH), k l0 l1 hp = some q → mjG X d C S J_309 (mjEq q) 0 [some (.ref l0), some (.int l1), none, none, none] [] hp kc ks
noncomputable def b_309_224 (R : mjR) (k36 : Nat → Int32 → Int32 → mjH → mjU) (l0 : Nat) (l1 : Int32) (l2 : Int32) (hp : mjH) : mjU := k36 l0 l1 (l2 + (1 : Int32)) hp
theorem t_309_224 {X : mjX} {d C S kc ks : Nat} {R : mjR} (hR : mjC R d) (h1 : kc ≤ C) (h2 : ks ≤ S) {k36 : Nat → Int32 → Int32 → mjH → mjU} (hk36 : P_309_36 X (d + 1) C S kc ks k36) : P_309_224 X (d + 1) C S kc ks (b_309_224 R k36) := by
  intro l0 l1 l2 hp q h
  unfold b_309_224 at h
  refine mjq_iinc (x := l2) (c := (1 : Int32)) (lo' := [some (.ref l0), some (.int l1), some (.int (l2 + (1 : Int32))), none, none]) D_309_224 rfl (Nat.le_of_ble_eq_true rfl) rfl rfl ?_
  refine mjr_goto (tgt := 36) D_309_227 rfl ?_
  exact hk36 _ _ _ _ _ h
noncomputable def b_309_212 (R : mjR) (k36 : Nat → Int32 → Int32 → mjH → mjU) (k139 : Nat → Int32 → Int32 → Int32 → mjH → mjU) (k178 : Nat → Int32 → Int32 → Int32 → Int32 → mjH → mjU) (l0 : Nat) (l1 : Int32) (l2 : Int32) (l3 : Int32) (l4 : Int32) (hp : mjH) : mjU := k178 l0 l1 l2 l3 (l4 + (1 : Int32)) hp
theorem t_309_212 {X : mjX} {d C S kc ks : Nat} {R : mjR} (hR : mjC R d) (h1 : kc ≤ C) (h2 : ks ≤ S) {k36 : Nat → Int32 → Int32 → mjH → mjU} (hk36 : P_309_36 X (d + 1) C S kc ks k36) {k139 : Nat → Int32 → Int32 → Int32 → mjH → mjU} (hk139 : P_309_139 X (d + 1) C S kc ks k139) {k178 : Nat → Int32 → Int32 → Int32 → Int32 → mjH → mjU} (hk178 : P_309_178 X (d + 1) C S kc ks k178) : P_309_212 X (d + 1) C S kc ks (b_309_212 R k36 k139 k178) := by
  intro l0 l1 l2 l3 l4 hp q h
  unfold b_309_212 at h
  refine mjq_iinc (x := l4) (c := (1 : Int32)) (lo' := [some (.ref l0), some (.int l1), some (.int l2), some (.int l3), some (.int (l4 + (1 : Int32)))]) D_309_212 rfl (Nat.le_of_ble_eq_true rfl) rfl rfl ?_
  refine mjr_goto (tgt := 178) D_309_215 rfl ?_
  exact hk178 _ _ _ _ _ _ _ h
noncomputable def b_309_178 (R : mjR) (k36 : Nat → Int32 → Int32 → mjH → mjU) (k139 : Nat → Int32 → Int32 → Int32 → mjH → mjU) (k178 : Nat → Int32 → Int32 → Int32 → Int32 → mjH → mjU) (l0 : Nat) (l1 : Int32) (l2 : Int32) (l3 : Int32) (l4 : Int32) (hp : mjH) : mjU := (if l3 ≤ l4 then k139 l0 l1 l2 (l3 + (1 : Int32)) hp else gR hp l0 12 46 (fun v1 => aL hp v1 l4 (fun v2 => gR hp l0 12 46 (fun v3 => aL hp v3 l3 (fun v4 => (if (lg_cmp v2 v4) = 0 then gR hp l0 12 45 (fun v5 => aI hp v5 l3 (fun v6 => rV hp l0 12 (bN (R 268 [.ref l0, .int (4 : Int32), .int v6] hp) (fun  hp7 => b_309_212 R k36 k139 k178 l0 l1 l2 l3 l4 hp7)))) else b_309_212 R k36 k139 k178 l0 l1 l2 l3 l4 hp))))))
theorem t_309_178 {X : mjX} {d C S kc ks : Nat} {R : mjR} (hR : mjC R d) (h1 : kc ≤ C) (h2 : ks ≤ S) {k36 : Nat → Int32 → Int32 → mjH → mjU} (hk36 : P_309_36 X (d + 1) C S kc ks k36) {k139 : Nat → Int32 → Int32 → Int32 → mjH → mjU} (hk139 : P_309_139 X (d + 1) C S kc ks k139) {k178 : Nat → Int32 → Int32 → Int32 → Int32 → mjH → mjU} (hk178 : P_309_178 X (d + 1) C S kc ks k178) : P_309_178 X (d + 1) C S kc ks (b_309_178 R k36 k139 k178) := by
  intro l0 l1 l2 l3 l4 hp q h
  unfold b_309_178 at h
  refine mjr_iload (x := l4) D_309_178 rfl ?_
  refine mjr_iload_n (x := l3) D_309_180 rfl ?_
  refine mjq_icmp_ge (tgt := 218) D_309_181 rfl h (fun h => ?_) (fun h => ?_)
  · refine mjq_iinc (x := l3) (c := (1 : Int32)) (lo' := [some (.ref l0), some (.int l1), some (.int l2), some (.int (l3 + (1 : Int32))), some (.int l4)]) D_309_218 rfl (Nat.le_of_ble_eq_true rfl) rfl rfl ?_
    refine mjr_goto (tgt := 139) D_309_221 rfl ?_
    exact mjG.fg (lo' := [some (.ref l0), some (.int l1), some (.int l2), some (.int (l3 + (1 : Int32))), none]) (And.intro rfl (And.intro rfl (And.intro rfl (And.intro rfl True.intro)))) (hk139 _ _ _ _ _ _ h)
  · refine mjr_aload_n (x := l0) D_309_184 rfl ?_
    refine mjq_gR D_309_185 fr_12_124 h (fun v1 h => ?_)
    refine mjr_iload (x := l4) D_309_188 rfl ?_
    refine mjq_aL D_309_190 h (fun v2 h => ?_)
    refine mjr_aload_n (x := l0) D_309_191 rfl ?_
    refine mjq_gR D_309_192 fr_12_124 h (fun v3 h => ?_)
    refine mjr_iload_n (x := l3) D_309_195 rfl ?_
    refine mjq_aL D_309_196 h (fun v4 h => ?_)
    refine mjr_lcmp D_309_197 ?_
    refine mjq_if_ne (tgt := 212) D_309_198 rfl h (fun h => ?_) (fun h => ?_)
    · exact (t_309_212 hR h1 h2 hk36 hk139 hk178) _ _ _ _ _ _ _ h
    · refine mjr_aload_n (x := l0) D_309_201 rfl ?_
      refine mjq_ic (v := (4 : Int32)) D_309_202 rfl ?_
      refine mjr_aload_n (x := l0) D_309_203 rfl ?_
      refine mjq_gR D_309_204 fr_12_121 h (fun v5 h => ?_)
      refine mjr_iload_n (x := l3) D_309_207 rfl ?_
      refine mjq_aI D_309_208 h (fun v6 h => ?_)
      refine mjq_vN (As := [.int (4 : Int32), .int v6]) (rest := []) D_309_209 mr_12_339 V_268 rfl rfl rfl hR (Nat.le_refl _) h1 h2 h (fun  hp7 h => ?_)
      exact (t_309_212 hR h1 h2 hk36 hk139 hk178) _ _ _ _ _ _ _ h
noncomputable def L_309_178 (R : mjR) (k36 : Nat → Int32 → Int32 → mjH → mjU) (k139 : Nat → Int32 → Int32 → Int32 → mjH → mjU) (n : Nat) : Nat → Int32 → Int32 → Int32 → Int32 → mjH → mjU := Nat.rec (motive := fun _ => Nat → Int32 → Int32 → Int32 → Int32 → mjH → mjU) (fun _ _ _ _ _ _ => none) (fun _ self => b_309_178 R k36 k139 self) n
theorem T_309_178 {X : mjX} {d C S kc ks : Nat} {R : mjR} (hR : mjC R d) (h1 : kc ≤ C) (h2 : ks ≤ S) {k36 : Nat → Int32 → Int32 → mjH → mjU} (hk36 : P_309_36 X (d + 1) C S kc ks k36) {k139 : Nat → Int32 → Int32 → Int32 → mjH → mjU} (hk139 : P_309_139 X (d + 1) C S kc ks k139) (n : Nat) : P_309_178 X (d + 1) C S kc ks (L_309_178 R k36 k139 n) := by
  induction n with
  | zero => intro _ _ _ _ _ _ _ h; exact mj_no h
  | succ n ih => exact t_309_178 hR h1 h2 hk36 hk139 ih
noncomputable def b_309_139 (R : mjR) (k36 : Nat → Int32 → Int32 → mjH → mjU) (k139 : Nat → Int32 → Int32 → Int32 → mjH → mjU) (l0 : Nat) (l1 : Int32) (l2 : Int32) (l3 : Int32) (hp : mjH) : mjU := gR hp l0 12 39 (fun v1 => aI hp v1 l2 (fun v2 => (if (((6 : Int32) * l2) + v2) ≤ l3 then b_309_224 R k36 l0 l1 l2 hp else gI hp l0 12 61 (fun v3 => (if v3 = 0 then gR hp l0 12 44 (fun v4 => aI hp v4 l3 (fun v5 => rV hp l0 12 (bN (R 313 [.ref l0, .int v5, .int l1] hp) (fun  hp6 => L_309_178 R k36 k139 mjN l0 l1 l2 l3 ((6 : Int32) * l2) hp6)))) else b_309_224 R k36 l0 l1 l2 hp)))))
theorem t_309_139 {X : mjX} {d C S kc ks : Nat} {R : mjR} (hR : mjC R d) (h1 : kc ≤ C) (h2 : ks ≤ S) {k36 : Nat → Int32 → Int32 → mjH → mjU} (hk36 : P_309_36 X (d + 1) C S kc ks k36) {k139 : Nat → Int32 → Int32 → Int32 → mjH → mjU} (hk139 : P_309_139 X (d + 1) C S kc ks k139) : P_309_139 X (d + 1) C S kc ks (b_309_139 R k36 k139) := by
  intro l0 l1 l2 l3 hp q h
  unfold b_309_139 at h
  refine mjr_iload_n (x := l3) D_309_139 rfl ?_
  refine mjq_bi (v := (6 : Int32)) D_309_140 rfl ?_
  refine mjr_iload_n (x := l2) D_309_142 rfl ?_
  refine mjr_imul D_309_143 ?_
  refine mjr_aload_n (x := l0) D_309_144 rfl ?_
  refine mjq_gR D_309_145 fr_12_103 h (fun v1 h => ?_)
  refine mjr_iload_n (x := l2) D_309_148 rfl ?_
  refine mjq_aI D_309_149 h (fun v2 h => ?_)
  refine mjr_iadd D_309_150 ?_
  refine mjq_icmp_ge (tgt := 224) D_309_151 rfl h (fun h => ?_) (fun h => ?_)
  · exact mjG.fg (lo' := [some (.ref l0), some (.int l1), some (.int l2), none, none]) (And.intro rfl (And.intro rfl (And.intro rfl True.intro))) ((t_309_224 hR h1 h2 hk36) _ _ _ _ _ h)
  · refine mjr_aload_n (x := l0) D_309_154 rfl ?_
    refine mjq_gI D_309_155 fr_12_333 h (fun v3 h => ?_)
    refine mjq_if_ne (tgt := 224) D_309_158 rfl h (fun h => ?_) (fun h => ?_)
    · exact mjG.fg (lo' := [some (.ref l0), some (.int l1), some (.int l2), none, none]) (And.intro rfl (And.intro rfl (And.intro rfl True.intro))) ((t_309_224 hR h1 h2 hk36) _ _ _ _ _ h)
    · refine mjr_aload_n (x := l0) D_309_161 rfl ?_
      refine mjr_aload_n (x := l0) D_309_162 rfl ?_
      refine mjq_gR D_309_163 fr_12_118 h (fun v4 h => ?_)
      refine mjr_iload_n (x := l3) D_309_166 rfl ?_
      refine mjq_aI D_309_167 h (fun v5 h => ?_)
      refine mjr_iload_n (x := l1) D_309_168 rfl ?_
      refine mjq_vN (As := [.int v5, .int l1]) (rest := []) D_309_169 mr_12_541 V_313 rfl rfl rfl hR (Nat.le_refl _) h1 h2 h (fun  hp6 h => ?_)
      refine mjq_bi (v := (6 : Int32)) D_309_172 rfl ?_
      refine mjr_iload_n (x := l2) D_309_174 rfl ?_
      refine mjr_imul D_309_175 ?_
      refine mjq_istore (lo' := [some (.ref l0), some (.int l1), some (.int l2), some (.int l3), some (.int ((6 : Int32) * l2))]) D_309_176 (Nat.le_of_ble_eq_true rfl) rfl ?_
      exact (T_309_178 hR h1 h2 hk36 hk139 mjN) _ _ _ _ _ _ _ h
noncomputable def L_309_139 (R : mjR) (k36 : Nat → Int32 → Int32 → mjH → mjU) (n : Nat) : Nat → Int32 → Int32 → Int32 → mjH → mjU := Nat.rec (motive := fun _ => Nat → Int32 → Int32 → Int32 → mjH → mjU) (fun _ _ _ _ _ => none) (fun _ self => b_309_139 R k36 self) n
theorem T_309_139 {X : mjX} {d C S kc ks : Nat} {R : mjR} (hR : mjC R d) (h1 : kc ≤ C) (h2 : ks ≤ S) {k36 : Nat → Int32 → Int32 → mjH → mjU} (hk36 : P_309_36 X (d + 1) C S kc ks k36) (n : Nat) : P_309_139 X (d + 1) C S kc ks (L_309_139 R k36 n) := by
  induction n with
  | zero => intro _ _ _ _ _ _ h; exact mj_no h
  | succ n ih => exact t_309_139 hR h1 h2 hk36 ih
noncomputable def b_309_128 (R : mjR) (k36 : Nat → Int32 → Int32 → mjH → mjU) (k96 : Nat → Int32 → Int32 → Int32 → mjH → mjU) (l0 : Nat) (l1 : Int32) (l2 : Int32) (l3 : Int32) (hp : mjH) : mjU := k96 l0 l1 l2 (l3 + (1 : Int32)) hp
theorem t_309_128 {X : mjX} {d C S kc ks : Nat} {R : mjR} (hR : mjC R d) (h1 : kc ≤ C) (h2 : ks ≤ S) {k36 : Nat → Int32 → Int32 → mjH → mjU} (hk36 : P_309_36 X (d + 1) C S kc ks k36) {k96 : Nat → Int32 → Int32 → Int32 → mjH → mjU} (hk96 : P_309_96 X (d + 1) C S kc ks k96) : P_309_128 X (d + 1) C S kc ks (b_309_128 R k36 k96) := by
  intro l0 l1 l2 l3 hp q h
  unfold b_309_128 at h
  refine mjq_iinc (x := l3) (c := (1 : Int32)) (lo' := [some (.ref l0), some (.int l1), some (.int l2), some (.int (l3 + (1 : Int32))), none]) D_309_128 rfl (Nat.le_of_ble_eq_true rfl) rfl rfl ?_
  refine mjr_goto (tgt := 96) D_309_131 rfl ?_
  exact hk96 _ _ _ _ _ _ h
noncomputable def b_309_96 (R : mjR) (k36 : Nat → Int32 → Int32 → mjH → mjU) (k96 : Nat → Int32 → Int32 → Int32 → mjH → mjU) (l0 : Nat) (l1 : Int32) (l2 : Int32) (l3 : Int32) (hp : mjH) : mjU := (if l2 ≤ l3 then L_309_139 R k36 mjN l0 l1 l2 ((6 : Int32) * l2) hp else gR hp l0 12 43 (fun v1 => aL hp v1 l3 (fun v2 => gR hp l0 12 43 (fun v3 => aL hp v3 l2 (fun v4 => (if (lg_cmp v2 v4) = 0 then gR hp l0 12 38 (fun v5 => aI hp v5 l2 (fun v6 => rV hp l0 12 (bN (R 268 [.ref l0, .int (4 : Int32), .int v6] hp) (fun  hp7 => b_309_128 R k36 k96 l0 l1 l2 l3 hp7)))) else b_309_128 R k36 k96 l0 l1 l2 l3 hp))))))
theorem t_309_96 {X : mjX} {d C S kc ks : Nat} {R : mjR} (hR : mjC R d) (h1 : kc ≤ C) (h2 : ks ≤ S) {k36 : Nat → Int32 → Int32 → mjH → mjU} (hk36 : P_309_36 X (d + 1) C S kc ks k36) {k96 : Nat → Int32 → Int32 → Int32 → mjH → mjU} (hk96 : P_309_96 X (d + 1) C S kc ks k96) : P_309_96 X (d + 1) C S kc ks (b_309_96 R k36 k96) := by
  intro l0 l1 l2 l3 hp q h
  unfold b_309_96 at h
  refine mjr_iload_n (x := l3) D_309_96 rfl ?_
  refine mjr_iload_n (x := l2) D_309_97 rfl ?_
  refine mjq_icmp_ge (tgt := 134) D_309_98 rfl h (fun h => ?_) (fun h => ?_)
  · refine mjq_bi (v := (6 : Int32)) D_309_134 rfl ?_
    refine mjr_iload_n (x := l2) D_309_136 rfl ?_
    refine mjr_imul D_309_137 ?_
    refine mjq_istore_n (lo' := [some (.ref l0), some (.int l1), some (.int l2), some (.int ((6 : Int32) * l2)), none]) D_309_138 (Nat.le_of_ble_eq_true rfl) rfl ?_
    exact (T_309_139 hR h1 h2 hk36 mjN) _ _ _ _ _ _ h
  · refine mjr_aload_n (x := l0) D_309_101 rfl ?_
    refine mjq_gR D_309_102 fr_12_115 h (fun v1 h => ?_)
    refine mjr_iload_n (x := l3) D_309_105 rfl ?_
    refine mjq_aL D_309_106 h (fun v2 h => ?_)
    refine mjr_aload_n (x := l0) D_309_107 rfl ?_
    refine mjq_gR D_309_108 fr_12_115 h (fun v3 h => ?_)
    refine mjr_iload_n (x := l2) D_309_111 rfl ?_
    refine mjq_aL D_309_112 h (fun v4 h => ?_)
    refine mjr_lcmp D_309_113 ?_
    refine mjq_if_ne (tgt := 128) D_309_114 rfl h (fun h => ?_) (fun h => ?_)
    · exact (t_309_128 hR h1 h2 hk36 hk96) _ _ _ _ _ _ h
    · refine mjr_aload_n (x := l0) D_309_117 rfl ?_
      refine mjq_ic (v := (4 : Int32)) D_309_118 rfl ?_
      refine mjr_aload_n (x := l0) D_309_119 rfl ?_
      refine mjq_gR D_309_120 fr_12_100 h (fun v5 h => ?_)
      refine mjr_iload_n (x := l2) D_309_123 rfl ?_
      refine mjq_aI D_309_124 h (fun v6 h => ?_)
      refine mjq_vN (As := [.int (4 : Int32), .int v6]) (rest := []) D_309_125 mr_12_339 V_268 rfl rfl rfl hR (Nat.le_refl _) h1 h2 h (fun  hp7 h => ?_)
      exact (t_309_128 hR h1 h2 hk36 hk96) _ _ _ _ _ _ h
noncomputable def L_309_96 (R : mjR) (k36 : Nat → Int32 → Int32 → mjH → mjU) (n : Nat) : Nat → Int32 → Int32 → Int32 → mjH → mjU := Nat.rec (motive := fun _ => Nat → Int32 → Int32 → Int32 → mjH → mjU) (fun _ _ _ _ _ => none) (fun _ self => b_309_96 R k36 self) n
theorem T_309_96 {X : mjX} {d C S kc ks : Nat} {R : mjR} (hR : mjC R d) (h1 : kc ≤ C) (h2 : ks ≤ S) {k36 : Nat → Int32 → Int32 → mjH → mjU} (hk36 : P_309_36 X (d + 1) C S kc ks k36) (n : Nat) : P_309_96 X (d + 1) C S kc ks (L_309_96 R k36 n) := by
  induction n with
  | zero => intro _ _ _ _ _ _ h; exact mj_no h
  | succ n ih => exact t_309_96 hR h1 h2 hk36 ih
noncomputable def b_309_36 (R : mjR) (k36 : Nat → Int32 → Int32 → mjH → mjU) (l0 : Nat) (l1 : Int32) (l2 : Int32) (hp : mjH) : mjU := gR hp l0 12 18 (fun v1 => aI hp v1 l1 (fun v2 => gI hp l0 12 63 (fun v3 => gR hp l0 12 19 (fun v4 => aI hp v4 l1 (fun v5 => (if ((v2 + ((400 : Int32) * v3)) + v5) ≤ l2 then some (none, hp) else gI hp l0 12 61 (fun v6 => (if v6 = 0 then gR hp l0 12 37 (fun v7 => aI hp v7 l2 (fun v8 => rV hp l0 12 (bN (R 313 [.ref l0, .int v8, .int l1] hp) (fun  hp9 => gR hp9 l0 12 18 (fun v10 => aI hp9 v10 l1 (fun v11 => gI hp9 l0 12 63 (fun v12 => L_309_96 R k36 mjN l0 l1 l2 (v11 + ((400 : Int32) * v12)) hp9))))))) else some (none, hp)))))))))
theorem t_309_36 {X : mjX} {d C S kc ks : Nat} {R : mjR} (hR : mjC R d) (h1 : kc ≤ C) (h2 : ks ≤ S) {k36 : Nat → Int32 → Int32 → mjH → mjU} (hk36 : P_309_36 X (d + 1) C S kc ks k36) : P_309_36 X (d + 1) C S kc ks (b_309_36 R k36) := by
  intro l0 l1 l2 hp q h
  unfold b_309_36 at h
  refine mjr_iload_n (x := l2) D_309_36 rfl ?_
  refine mjr_aload_n (x := l0) D_309_37 rfl ?_
  refine mjq_gR D_309_38 fr_12_39 h (fun v1 h => ?_)
  refine mjr_iload_n (x := l1) D_309_41 rfl ?_
  refine mjq_aI D_309_42 h (fun v2 h => ?_)
  refine mjq_si (v := (400 : Int32)) D_309_43 rfl ?_
  refine mjr_aload_n (x := l0) D_309_46 rfl ?_
  refine mjq_gI D_309_47 fr_12_356 h (fun v3 h => ?_)
  refine mjr_imul D_309_50 ?_
  refine mjr_iadd D_309_51 ?_
  refine mjr_aload_n (x := l0) D_309_52 rfl ?_
  refine mjq_gR D_309_53 fr_12_42 h (fun v4 h => ?_)
  refine mjr_iload_n (x := l1) D_309_56 rfl ?_
  refine mjq_aI D_309_57 h (fun v5 h => ?_)
  refine mjr_iadd D_309_58 ?_
  refine mjq_icmp_ge (tgt := 230) D_309_59 rfl h (fun h => ?_) (fun h => ?_)
  · exact mjq_nret D_309_230 rfl h1 h2 h
  · refine mjr_aload_n (x := l0) D_309_62 rfl ?_
    refine mjq_gI D_309_63 fr_12_333 h (fun v6 h => ?_)
    refine mjq_if_ne (tgt := 230) D_309_66 rfl h (fun h => ?_) (fun h => ?_)
    · exact mjq_nret D_309_230 rfl h1 h2 h
    · refine mjr_aload_n (x := l0) D_309_69 rfl ?_
      refine mjr_aload_n (x := l0) D_309_70 rfl ?_
      refine mjq_gR D_309_71 fr_12_97 h (fun v7 h => ?_)
      refine mjr_iload_n (x := l2) D_309_74 rfl ?_
      refine mjq_aI D_309_75 h (fun v8 h => ?_)
      refine mjr_iload_n (x := l1) D_309_76 rfl ?_
      refine mjq_vN (As := [.int v8, .int l1]) (rest := []) D_309_77 mr_12_541 V_313 rfl rfl rfl hR (Nat.le_refl _) h1 h2 h (fun  hp9 h => ?_)
      refine mjr_aload_n (x := l0) D_309_80 rfl ?_
      refine mjq_gR D_309_81 fr_12_39 h (fun v10 h => ?_)
      refine mjr_iload_n (x := l1) D_309_84 rfl ?_
      refine mjq_aI D_309_85 h (fun v11 h => ?_)
      refine mjq_si (v := (400 : Int32)) D_309_86 rfl ?_
      refine mjr_aload_n (x := l0) D_309_89 rfl ?_
      refine mjq_gI D_309_90 fr_12_356 h (fun v12 h => ?_)
      refine mjr_imul D_309_93 ?_
      refine mjr_iadd D_309_94 ?_
      refine mjq_istore_n (lo' := [some (.ref l0), some (.int l1), some (.int l2), some (.int (v11 + ((400 : Int32) * v12))), none]) D_309_95 (Nat.le_of_ble_eq_true rfl) rfl ?_
      exact (T_309_96 hR h1 h2 hk36 mjN) _ _ _ _ _ _ h
noncomputable def L_309_36 (R : mjR) (n : Nat) : Nat → Int32 → Int32 → mjH → mjU := Nat.rec (motive := fun _ => Nat → Int32 → Int32 → mjH → mjU) (fun _ _ _ _ => none) (fun _ self => b_309_36 R self) n
theorem T_309_36 {X : mjX} {d C S kc ks : Nat} {R : mjR} (hR : mjC R d) (h1 : kc ≤ C) (h2 : ks ≤ S) (n : Nat) : P_309_36 X (d + 1) C S kc ks (L_309_36 R n) := by
  induction n with
  | zero => intro _ _ _ _ _ h; exact mj_no h
  | succ n ih => exact t_309_36 hR h1 h2 ih
noncomputable def b_309_20 (R : mjR) (l0 : Nat) (l1 : Int32) (hp : mjH) : mjU := gR hp l0 12 18 (fun v1 => aI hp v1 l1 (fun v2 => gI hp l0 12 63 (fun v3 => L_309_36 R mjN l0 l1 (v2 + ((400 : Int32) * v3)) hp)))
theorem t_309_20 {X : mjX} {d C S kc ks : Nat} {R : mjR} (hR : mjC R d) (h1 : kc ≤ C) (h2 : ks ≤ S) : P_309_20 X (d + 1) C S kc ks (b_309_20 R) := by
  intro l0 l1 hp q h
  unfold b_309_20 at h
  refine mjr_aload_n (x := l0) D_309_20 rfl ?_
  refine mjq_gR D_309_21 fr_12_39 h (fun v1 h => ?_)
  refine mjr_iload_n (x := l1) D_309_24 rfl ?_
  refine mjq_aI D_309_25 h (fun v2 h => ?_)
  refine mjq_si (v := (400 : Int32)) D_309_26 rfl ?_
  refine mjr_aload_n (x := l0) D_309_29 rfl ?_
  refine mjq_gI D_309_30 fr_12_356 h (fun v3 h => ?_)
  refine mjr_imul D_309_33 ?_
  refine mjr_iadd D_309_34 ?_
  refine mjq_istore_n (lo' := [some (.ref l0), some (.int l1), some (.int (v2 + ((400 : Int32) * v3))), none, none]) D_309_35 (Nat.le_of_ble_eq_true rfl) rfl ?_
  exact (T_309_36 hR h1 h2 mjN) _ _ _ _ _ h
noncomputable def b_309_0 (R : mjR) (l0 : Nat) (l1 : Int32) (hp : mjH) : mjU := gR hp l0 12 16 (fun v1 => aI hp v1 l1 (fun v2 => (if v2 < 0 then b_309_20 R l0 l1 hp else gR hp l0 12 16 (fun v3 => aI hp v3 l1 (fun v4 => rV hp l0 12 (bN (R 310 [.ref l0, .int v4, .int l1] hp) (fun  hp5 => b_309_20 R l0 l1 hp5)))))))
theorem t_309_0 {X : mjX} {d C S kc ks : Nat} {R : mjR} (hR : mjC R d) (h1 : kc ≤ C) (h2 : ks ≤ S) : P_309_0 X (d + 1) C S kc ks (b_309_0 R) := by
  intro l0 l1 hp q h
  unfold b_309_0 at h
  refine mjr_aload_n (x := l0) D_309_0 rfl ?_
  refine mjq_gR D_309_1 fr_12_33 h (fun v1 h => ?_)
  refine mjr_iload_n (x := l1) D_309_4 rfl ?_
  refine mjq_aI D_309_5 h (fun v2 h => ?_)
  refine mjq_if_lt (tgt := 20) D_309_6 rfl h (fun h => ?_) (fun h => ?_)
  · exact (t_309_20 hR h1 h2) _ _ _ _ h
  · refine mjr_aload_n (x := l0) D_309_9 rfl ?_
    refine mjr_aload_n (x := l0) D_309_10 rfl ?_
    refine mjq_gR D_309_11 fr_12_33 h (fun v3 h => ?_)
    refine mjr_iload_n (x := l1) D_309_14 rfl ?_
    refine mjq_aI D_309_15 h (fun v4 h => ?_)
    refine mjr_iload_n (x := l1) D_309_16 rfl ?_
    refine mjq_vN (As := [.int v4, .int l1]) (rest := []) D_309_17 mr_12_508 V_310 rfl rfl rfl hR (Nat.le_refl _) h1 h2 h (fun  hp5 h => ?_)
    exact (t_309_20 hR h1 h2) _ _ _ _ h
noncomputable def f_309 (R : mjR) (a0 : Nat) (a1 : Int32) (hp : mjH) : mjU := b_309_0 R a0 a1 hp
theorem c_309 {R : mjR} {d : Nat} (hR : mjC R d) {a0 : Nat} {a1 : Int32} {hp : mjH} {q : Option Value × mjH} (h : f_309 R a0 a1 hp = some q) : mjM (d + 1) 0 0 309 [.ref a0, .int a1] hp (mjEq q) :=
  mjM_of Ja_309 (Nat.le_of_ble_eq_true rfl) (mjG.fg (lo' := [some (.ref a0), some (.int a1), none, none, none]) (And.intro rfl (And.intro rfl True.intro)) ((t_309_0 hR (Nat.le_refl 0) (Nat.le_refl 0)) a0 a1 hp q h))
def J_310 : mjI := (⟨"OwnerHeapModel", "judgeNested", "(II)V"⟩, 12, prog_14_method_49_code, 6, none, 2, false)
theorem Ja_310 : mjMt 310 = some J_310 := by rfl
theorem D_310_0 : decode J_310.2.2.1 0 = .ok (.aload_n 0, 1) := dzq_42 (by decide +kernel)
theorem D_310_1 : decode J_310.2.2.1 1 = .ok (.getfield 496, 3) := dzq_180 (by decide +kernel)
theorem D_310_4 : decode J_310.2.2.1 4 = .ok (.ifCond .ne 10, 3) := dzq_154 (by decide +kernel)
theorem D_310_7 : decode J_310.2.2.1 7 = .ok (.aload_n 0, 1) := dzq_42 (by decide +kernel)
theorem D_310_8 : decode J_310.2.2.1 8 = .ok (.getfield 333, 3) := dzq_180 (by decide +kernel)
theorem D_310_11 : decode J_310.2.2.1 11 = .ok (.ifCond .le 4, 3) := dzq_158 (by decide +kernel)
theorem D_310_14 : decode J_310.2.2.1 14 = .ok (.return_, 1) := dzq_177 (by decide +kernel)
theorem D_310_15 : decode J_310.2.2.1 15 = .ok (.aload_n 0, 1) := dzq_42 (by decide +kernel)
theorem D_310_16 : decode J_310.2.2.1 16 = .ok (.getfield 136, 3) := dzq_180 (by decide +kernel)
theorem D_310_19 : decode J_310.2.2.1 19 = .ok (.iload_n 1, 1) := dzq_27 (by decide +kernel)
theorem D_310_20 : decode J_310.2.2.1 20 = .ok (.iaload, 1) := dzq_46 (by decide +kernel)
theorem D_310_21 : decode J_310.2.2.1 21 = .ok (.istore_n 3, 1) := dzq_62 (by decide +kernel)
theorem D_310_22 : decode J_310.2.2.1 22 = .ok (.iconst 1, 1) := dzq_4 (by decide +kernel)
theorem D_310_23 : decode J_310.2.2.1 23 = .ok (.istore 4, 2) := dzq_54 (by decide +kernel)
theorem D_310_25 : decode J_310.2.2.1 25 = .ok (.iconst 1, 1) := dzq_4 (by decide +kernel)
theorem D_310_26 : decode J_310.2.2.1 26 = .ok (.istore 5, 2) := dzq_54 (by decide +kernel)
theorem D_310_28 : decode J_310.2.2.1 28 = .ok (.iload 5, 2) := dzq_21 (by decide +kernel)
theorem D_310_30 : decode J_310.2.2.1 30 = .ok (.aload_n 0, 1) := dzq_42 (by decide +kernel)
theorem D_310_31 : decode J_310.2.2.1 31 = .ok (.getfield 133, 3) := dzq_180 (by decide +kernel)
theorem D_310_34 : decode J_310.2.2.1 34 = .ok (.iload_n 1, 1) := dzq_27 (by decide +kernel)
theorem D_310_35 : decode J_310.2.2.1 35 = .ok (.iaload, 1) := dzq_46 (by decide +kernel)
theorem D_310_36 : decode J_310.2.2.1 36 = .ok (.if_icmp .ge 48, 3) := dzq_162 (by decide +kernel)
theorem D_310_39 : decode J_310.2.2.1 39 = .ok (.iload 4, 2) := dzq_21 (by decide +kernel)
theorem D_310_41 : decode J_310.2.2.1 41 = .ok (.ifCond .eq 34, 3) := dzq_153 (by decide +kernel)
theorem D_310_44 : decode J_310.2.2.1 44 = .ok (.aload_n 0, 1) := dzq_42 (by decide +kernel)
theorem D_310_45 : decode J_310.2.2.1 45 = .ok (.iload_n 2, 1) := dzq_28 (by decide +kernel)
theorem D_310_46 : decode J_310.2.2.1 46 = .ok (.aload_n 0, 1) := dzq_42 (by decide +kernel)
theorem D_310_47 : decode J_310.2.2.1 47 = .ok (.getfield 145, 3) := dzq_180 (by decide +kernel)
theorem D_310_50 : decode J_310.2.2.1 50 = .ok (.iconst 5, 1) := dzq_8 (by decide +kernel)
theorem D_310_51 : decode J_310.2.2.1 51 = .ok (.iload_n 1, 1) := dzq_27 (by decide +kernel)
theorem D_310_52 : decode J_310.2.2.1 52 = .ok (.imul, 1) := dzq_104 (by decide +kernel)
theorem D_310_53 : decode J_310.2.2.1 53 = .ok (.iaload, 1) := dzq_46 (by decide +kernel)
theorem D_310_54 : decode J_310.2.2.1 54 = .ok (.aload_n 0, 1) := dzq_42 (by decide +kernel)
theorem D_310_55 : decode J_310.2.2.1 55 = .ok (.getfield 145, 3) := dzq_180 (by decide +kernel)
theorem D_310_58 : decode J_310.2.2.1 58 = .ok (.iconst 5, 1) := dzq_8 (by decide +kernel)
theorem D_310_59 : decode J_310.2.2.1 59 = .ok (.iload_n 1, 1) := dzq_27 (by decide +kernel)
theorem D_310_60 : decode J_310.2.2.1 60 = .ok (.imul, 1) := dzq_104 (by decide +kernel)
theorem D_310_61 : decode J_310.2.2.1 61 = .ok (.iload 5, 2) := dzq_21 (by decide +kernel)
theorem D_310_63 : decode J_310.2.2.1 63 = .ok (.iadd, 1) := dzq_96 (by decide +kernel)
theorem D_310_64 : decode J_310.2.2.1 64 = .ok (.iaload, 1) := dzq_46 (by decide +kernel)
theorem D_310_65 : decode J_310.2.2.1 65 = .ok (.invokevirtual 500, 3) := dzq_182 (by decide +kernel)
theorem D_310_68 : decode J_310.2.2.1 68 = .ok (.ifCond .eq 7, 3) := dzq_153 (by decide +kernel)
theorem D_310_71 : decode J_310.2.2.1 71 = .ok (.iconst 1, 1) := dzq_4 (by decide +kernel)
theorem D_310_72 : decode J_310.2.2.1 72 = .ok (.goto 4, 3) := dzq_167 (by decide +kernel)
theorem D_310_75 : decode J_310.2.2.1 75 = .ok (.iconst 0, 1) := dzq_3 (by decide +kernel)
theorem D_310_76 : decode J_310.2.2.1 76 = .ok (.istore 4, 2) := dzq_54 (by decide +kernel)
theorem D_310_78 : decode J_310.2.2.1 78 = .ok (.iinc 5 1, 3) := dzq_132 (by decide +kernel)
theorem D_310_81 : decode J_310.2.2.1 81 = .ok (.goto (-53), 3) := dzq_167 (by decide +kernel)
theorem D_310_84 : decode J_310.2.2.1 84 = .ok (.iconst 0, 1) := dzq_3 (by decide +kernel)
theorem D_310_85 : decode J_310.2.2.1 85 = .ok (.istore 5, 2) := dzq_54 (by decide +kernel)
theorem D_310_87 : decode J_310.2.2.1 87 = .ok (.iload 5, 2) := dzq_21 (by decide +kernel)
theorem D_310_89 : decode J_310.2.2.1 89 = .ok (.aload_n 0, 1) := dzq_42 (by decide +kernel)
theorem D_310_90 : decode J_310.2.2.1 90 = .ok (.getfield 36, 3) := dzq_180 (by decide +kernel)
theorem D_310_93 : decode J_310.2.2.1 93 = .ok (.iload_n 3, 1) := dzq_29 (by decide +kernel)
theorem D_310_94 : decode J_310.2.2.1 94 = .ok (.iaload, 1) := dzq_46 (by decide +kernel)
theorem D_310_95 : decode J_310.2.2.1 95 = .ok (.if_icmp .ge 71, 3) := dzq_162 (by decide +kernel)
theorem D_310_98 : decode J_310.2.2.1 98 = .ok (.iload 4, 2) := dzq_21 (by decide +kernel)
theorem D_310_100 : decode J_310.2.2.1 100 = .ok (.ifCond .eq 57, 3) := dzq_153 (by decide +kernel)
theorem D_310_103 : decode J_310.2.2.1 103 = .ok (.aload_n 0, 1) := dzq_42 (by decide +kernel)
theorem D_310_104 : decode J_310.2.2.1 104 = .ok (.iload_n 2, 1) := dzq_28 (by decide +kernel)
theorem D_310_105 : decode J_310.2.2.1 105 = .ok (.aload_n 0, 1) := dzq_42 (by decide +kernel)
theorem D_310_106 : decode J_310.2.2.1 106 = .ok (.getfield 145, 3) := dzq_180 (by decide +kernel)
theorem D_310_109 : decode J_310.2.2.1 109 = .ok (.iconst 5, 1) := dzq_8 (by decide +kernel)
theorem D_310_110 : decode J_310.2.2.1 110 = .ok (.iload_n 1, 1) := dzq_27 (by decide +kernel)
theorem D_310_111 : decode J_310.2.2.1 111 = .ok (.imul, 1) := dzq_104 (by decide +kernel)
theorem D_310_112 : decode J_310.2.2.1 112 = .ok (.aload_n 0, 1) := dzq_42 (by decide +kernel)
theorem D_310_113 : decode J_310.2.2.1 113 = .ok (.getfield 69, 3) := dzq_180 (by decide +kernel)
theorem D_310_116 : decode J_310.2.2.1 116 = .ok (.bipush 8, 2) := dzq_16 (by decide +kernel)
theorem D_310_118 : decode J_310.2.2.1 118 = .ok (.iload_n 3, 1) := dzq_29 (by decide +kernel)
theorem D_310_119 : decode J_310.2.2.1 119 = .ok (.imul, 1) := dzq_104 (by decide +kernel)
theorem D_310_120 : decode J_310.2.2.1 120 = .ok (.iload 5, 2) := dzq_21 (by decide +kernel)
theorem D_310_122 : decode J_310.2.2.1 122 = .ok (.iadd, 1) := dzq_96 (by decide +kernel)
theorem D_310_123 : decode J_310.2.2.1 123 = .ok (.iaload, 1) := dzq_46 (by decide +kernel)
theorem D_310_124 : decode J_310.2.2.1 124 = .ok (.iadd, 1) := dzq_96 (by decide +kernel)
theorem D_310_125 : decode J_310.2.2.1 125 = .ok (.iaload, 1) := dzq_46 (by decide +kernel)
theorem D_310_126 : decode J_310.2.2.1 126 = .ok (.aload_n 0, 1) := dzq_42 (by decide +kernel)
theorem D_310_127 : decode J_310.2.2.1 127 = .ok (.getfield 145, 3) := dzq_180 (by decide +kernel)
theorem D_310_130 : decode J_310.2.2.1 130 = .ok (.iconst 5, 1) := dzq_8 (by decide +kernel)
theorem D_310_131 : decode J_310.2.2.1 131 = .ok (.iload_n 1, 1) := dzq_27 (by decide +kernel)
theorem D_310_132 : decode J_310.2.2.1 132 = .ok (.imul, 1) := dzq_104 (by decide +kernel)
theorem D_310_133 : decode J_310.2.2.1 133 = .ok (.aload_n 0, 1) := dzq_42 (by decide +kernel)
theorem D_310_134 : decode J_310.2.2.1 134 = .ok (.getfield 72, 3) := dzq_180 (by decide +kernel)
theorem D_310_137 : decode J_310.2.2.1 137 = .ok (.bipush 8, 2) := dzq_16 (by decide +kernel)
theorem D_310_139 : decode J_310.2.2.1 139 = .ok (.iload_n 3, 1) := dzq_29 (by decide +kernel)
theorem D_310_140 : decode J_310.2.2.1 140 = .ok (.imul, 1) := dzq_104 (by decide +kernel)
theorem D_310_141 : decode J_310.2.2.1 141 = .ok (.iload 5, 2) := dzq_21 (by decide +kernel)
theorem D_310_143 : decode J_310.2.2.1 143 = .ok (.iadd, 1) := dzq_96 (by decide +kernel)
theorem D_310_144 : decode J_310.2.2.1 144 = .ok (.iaload, 1) := dzq_46 (by decide +kernel)
theorem D_310_145 : decode J_310.2.2.1 145 = .ok (.iadd, 1) := dzq_96 (by decide +kernel)
theorem D_310_146 : decode J_310.2.2.1 146 = .ok (.iaload, 1) := dzq_46 (by decide +kernel)
theorem D_310_147 : decode J_310.2.2.1 147 = .ok (.invokevirtual 500, 3) := dzq_182 (by decide +kernel)
theorem D_310_150 : decode J_310.2.2.1 150 = .ok (.ifCond .eq 7, 3) := dzq_153 (by decide +kernel)
theorem D_310_153 : decode J_310.2.2.1 153 = .ok (.iconst 1, 1) := dzq_4 (by decide +kernel)
theorem D_310_154 : decode J_310.2.2.1 154 = .ok (.goto 4, 3) := dzq_167 (by decide +kernel)
theorem D_310_157 : decode J_310.2.2.1 157 = .ok (.iconst 0, 1) := dzq_3 (by decide +kernel)
theorem D_310_158 : decode J_310.2.2.1 158 = .ok (.istore 4, 2) := dzq_54 (by decide +kernel)
theorem D_310_160 : decode J_310.2.2.1 160 = .ok (.iinc 5 1, 3) := dzq_132 (by decide +kernel)
theorem D_310_163 : decode J_310.2.2.1 163 = .ok (.goto (-76), 3) := dzq_167 (by decide +kernel)
theorem D_310_166 : decode J_310.2.2.1 166 = .ok (.iload 4, 2) := dzq_21 (by decide +kernel)
theorem D_310_168 : decode J_310.2.2.1 168 = .ok (.ifCond .ne 15, 3) := dzq_154 (by decide +kernel)
theorem D_310_171 : decode J_310.2.2.1 171 = .ok (.aload_n 0, 1) := dzq_42 (by decide +kernel)
theorem D_310_172 : decode J_310.2.2.1 172 = .ok (.bipush 8, 2) := dzq_16 (by decide +kernel)
theorem D_310_174 : decode J_310.2.2.1 174 = .ok (.aload_n 0, 1) := dzq_42 (by decide +kernel)
theorem D_310_175 : decode J_310.2.2.1 175 = .ok (.getfield 130, 3) := dzq_180 (by decide +kernel)
theorem D_310_178 : decode J_310.2.2.1 178 = .ok (.iload_n 1, 1) := dzq_27 (by decide +kernel)
theorem D_310_179 : decode J_310.2.2.1 179 = .ok (.iaload, 1) := dzq_46 (by decide +kernel)
theorem D_310_180 : decode J_310.2.2.1 180 = .ok (.invokevirtual 339, 3) := dzq_182 (by decide +kernel)
theorem D_310_183 : decode J_310.2.2.1 183 = .ok (.return_, 1) := dzq_177 (by decide +kernel)
def P_310_158 (X : mjX) (d C S kc ks : Nat) (k : Nat → Int32 → Int32 → Int32 → Int32 → Int32 → mjH → mjU) : Prop := ∀ (l0 : Nat) (l1 : Int32) (l2 : Int32) (l3 : Int32) (l5 : Int32) (s0 : Int32) (hp : mjH) (q : Option Value × mjH), k l0 l1 l2 l3 l5 s0 hp = some q → mjG X d C S J_310 (mjEq q) 158 [some (.ref l0), some (.int l1), some (.int l2), some (.int l3), none, some (.int l5)] [.int s0] hp kc ks
def P_310_157 (X : mjX) (d C S kc ks : Nat) (k : Nat → Int32 → Int32 → Int32 → Int32 → mjH → mjU) : Prop := ∀ (l0 : Nat) (l1 : Int32) (l2 : Int32) (l3 : Int32) (l5 : Int32) (hp : mjH) (q : Option Value × mjH), k l0 l1 l2 l3 l5 hp = some q → mjG X d C S J_310 (mjEq q) 157 [some (.ref l0), some (.int l1), some (.int l2), some (.int l3), none, some (.int l5)] [] hp kc ks
def P_310_87 (X : mjX) (d C S kc ks : Nat) (k : Nat → Int32 → Int32 → Int32 → Int32 → Int32 → mjH → mjU) : Prop := ∀ (l0 : Nat) (l1 : Int32) (l2 : Int32) (l3 : Int32) (l4 : Int32) (l5 : Int32) (hp : mjH) (q : Option Value × mjH), k l0 l1 l2 l3 l4 l5 hp = some q → mjG X d C S J_310 (mjEq q) 87 [some (.ref l0), some (.int l1), some (.int l2), some (.int l3), some (.int l4), some (.int l5)] [] hp kc ks
def P_310_76 (X : mjX) (d C S kc ks : Nat) (k : Nat → Int32 → Int32 → Int32 → Int32 → Int32 → mjH → mjU) : Prop := ∀ (l0 : Nat) (l1 : Int32) (l2 : Int32) (l3 : Int32) (l5 : Int32) (s0 : Int32) (hp : mjH) (q : Option Value × mjH), k l0 l1 l2 l3 l5 s0 hp = some q → mjG X d C S J_310 (mjEq q) 76 [some (.ref l0), some (.int l1), some (.int l2), some (.int l3), none, some (.int l5)] [.int s0] hp kc ks
def P_310_75 (X : mjX) (d C S kc ks : Nat) (k : Nat → Int32 → Int32 → Int32 → Int32 → mjH → mjU) : Prop := ∀ (l0 : Nat) (l1 : Int32) (l2 : Int32) (l3 : Int32) (l5 : Int32) (hp : mjH) (q : Option Value × mjH), k l0 l1 l2 l3 l5 hp = some q → mjG X d C S J_310 (mjEq q) 75 [some (.ref l0), some (.int l1), some (.int l2), some (.int l3), none, some (.int l5)] [] hp kc ks
def P_310_28 (X : mjX) (d C S kc ks : Nat) (k : Nat → Int32 → Int32 → Int32 → Int32 → Int32 → mjH → mjU) : Prop := ∀ (l0 : Nat) (l1 : Int32) (l2 : Int32) (l3 : Int32) (l4 : Int32) (l5 : Int32) (hp : mjH) (q : Option Value × mjH), k l0 l1 l2 l3 l4 l5 hp = some q → mjG X d C S J_310 (mjEq q) 28 [some (.ref l0), some (.int l1), some (.int l2), some (.int l3), some (.int l4), some (.int l5)] [] hp kc ks
def P_310_0 (X : mjX) (d C S kc ks : Nat) (k : Nat → Int32 → Int32 → mjH → mjU) : Prop := ∀ (l0 : Nat) (l1 : Int32) (l2 : Int32) (hp : mjH) (q : Option Value × mjH), k l0 l1 l2 hp = some q → mjG X d C S J_310 (mjEq q) 0 [some (.ref l0), some (.int l1), some (.int l2), none, none, none] [] hp kc ks
noncomputable def b_310_158 (R : mjR) (k87 : Nat → Int32 → Int32 → Int32 → Int32 → Int32 → mjH → mjU) (l0 : Nat) (l1 : Int32) (l2 : Int32) (l3 : Int32) (l5 : Int32) (s0 : Int32) (hp : mjH) : mjU := k87 l0 l1 l2 l3 s0 (l5 + (1 : Int32)) hp
theorem t_310_158 {X : mjX} {d C S kc ks : Nat} {R : mjR} (hR : mjC R d) (h1 : kc ≤ C) (h2 : ks ≤ S) {k87 : Nat → Int32 → Int32 → Int32 → Int32 → Int32 → mjH → mjU} (hk87 : P_310_87 X (d + 1) C S kc ks k87) : P_310_158 X (d + 1) C S kc ks (b_310_158 R k87) := by
  intro l0 l1 l2 l3 l5 s0 hp q h
  unfold b_310_158 at h
  refine mjq_istore (lo' := [some (.ref l0), some (.int l1), some (.int l2), some (.int l3), some (.int s0), some (.int l5)]) D_310_158 (Nat.le_of_ble_eq_true rfl) rfl ?_
  refine mjq_iinc (x := l5) (c := (1 : Int32)) (lo' := [some (.ref l0), some (.int l1), some (.int l2), some (.int l3), some (.int s0), some (.int (l5 + (1 : Int32)))]) D_310_160 rfl (Nat.le_of_ble_eq_true rfl) rfl rfl ?_
  refine mjr_goto (tgt := 87) D_310_163 rfl ?_
  exact hk87 _ _ _ _ _ _ _ _ h
noncomputable def b_310_157 (R : mjR) (k87 : Nat → Int32 → Int32 → Int32 → Int32 → Int32 → mjH → mjU) (l0 : Nat) (l1 : Int32) (l2 : Int32) (l3 : Int32) (l5 : Int32) (hp : mjH) : mjU := b_310_158 R k87 l0 l1 l2 l3 l5 (0 : Int32) hp
theorem t_310_157 {X : mjX} {d C S kc ks : Nat} {R : mjR} (hR : mjC R d) (h1 : kc ≤ C) (h2 : ks ≤ S) {k87 : Nat → Int32 → Int32 → Int32 → Int32 → Int32 → mjH → mjU} (hk87 : P_310_87 X (d + 1) C S kc ks k87) : P_310_157 X (d + 1) C S kc ks (b_310_157 R k87) := by
  intro l0 l1 l2 l3 l5 hp q h
  unfold b_310_157 at h
  refine mjq_ic (v := (0 : Int32)) D_310_157 rfl ?_
  exact (t_310_158 hR h1 h2 hk87) _ _ _ _ _ _ _ _ h
noncomputable def b_310_87 (R : mjR) (k87 : Nat → Int32 → Int32 → Int32 → Int32 → Int32 → mjH → mjU) (l0 : Nat) (l1 : Int32) (l2 : Int32) (l3 : Int32) (l4 : Int32) (l5 : Int32) (hp : mjH) : mjU := gR hp l0 12 17 (fun v1 => aI hp v1 l3 (fun v2 => (if v2 ≤ l5 then (if l4 = 0 then gR hp l0 12 48 (fun v3 => aI hp v3 l1 (fun v4 => rV hp l0 12 (bN (R 268 [.ref l0, .int (8 : Int32), .int v4] hp) (fun  hp5 => some (none, hp5))))) else some (none, hp)) else (if l4 = 0 then b_310_157 R k87 l0 l1 l2 l3 l5 hp else gR hp l0 12 53 (fun v6 => gR hp l0 12 28 (fun v7 => aI hp v7 (((8 : Int32) * l3) + l5) (fun v8 => aI hp v6 (((5 : Int32) * l1) + v8) (fun v9 => gR hp l0 12 53 (fun v10 => gR hp l0 12 29 (fun v11 => aI hp v11 (((8 : Int32) * l3) + l5) (fun v12 => aI hp v10 (((5 : Int32) * l1) + v12) (fun v13 => rV hp l0 12 (bI (R 311 [.ref l0, .int l2, .int v9, .int v13] hp) (fun v14 hp15 => (if v14 = 0 then b_310_157 R k87 l0 l1 l2 l3 l5 hp15 else b_310_158 R k87 l0 l1 l2 l3 l5 (1 : Int32) hp15)))))))))))))))
theorem t_310_87 {X : mjX} {d C S kc ks : Nat} {R : mjR} (hR : mjC R d) (h1 : kc ≤ C) (h2 : ks ≤ S) {k87 : Nat → Int32 → Int32 → Int32 → Int32 → Int32 → mjH → mjU} (hk87 : P_310_87 X (d + 1) C S kc ks k87) : P_310_87 X (d + 1) C S kc ks (b_310_87 R k87) := by
  intro l0 l1 l2 l3 l4 l5 hp q h
  unfold b_310_87 at h
  refine mjr_iload (x := l5) D_310_87 rfl ?_
  refine mjr_aload_n (x := l0) D_310_89 rfl ?_
  refine mjq_gR D_310_90 fr_12_36 h (fun v1 h => ?_)
  refine mjr_iload_n (x := l3) D_310_93 rfl ?_
  refine mjq_aI D_310_94 h (fun v2 h => ?_)
  refine mjq_icmp_ge (tgt := 166) D_310_95 rfl h (fun h => ?_) (fun h => ?_)
  · refine mjr_iload (x := l4) D_310_166 rfl ?_
    refine mjq_if_ne (tgt := 183) D_310_168 rfl h (fun h => ?_) (fun h => ?_)
    · exact mjq_nret D_310_183 rfl h1 h2 h
    · refine mjr_aload_n (x := l0) D_310_171 rfl ?_
      refine mjq_bi (v := (8 : Int32)) D_310_172 rfl ?_
      refine mjr_aload_n (x := l0) D_310_174 rfl ?_
      refine mjq_gR D_310_175 fr_12_130 h (fun v3 h => ?_)
      refine mjr_iload_n (x := l1) D_310_178 rfl ?_
      refine mjq_aI D_310_179 h (fun v4 h => ?_)
      refine mjq_vN (As := [.int (8 : Int32), .int v4]) (rest := []) D_310_180 mr_12_339 V_268 rfl rfl rfl hR (Nat.le_refl _) h1 h2 h (fun  hp5 h => ?_)
      exact mjq_nret D_310_183 rfl h1 h2 h
  · refine mjr_iload (x := l4) D_310_98 rfl ?_
    refine mjq_if_eq (tgt := 157) D_310_100 rfl h (fun h => ?_) (fun h => ?_)
    · exact mjG.fg (lo' := [some (.ref l0), some (.int l1), some (.int l2), some (.int l3), none, some (.int l5)]) (And.intro rfl (And.intro rfl (And.intro rfl (And.intro rfl (And.intro rfl True.intro))))) ((t_310_157 hR h1 h2 hk87) _ _ _ _ _ _ _ h)
    · refine mjr_aload_n (x := l0) D_310_103 rfl ?_
      refine mjr_iload_n (x := l2) D_310_104 rfl ?_
      refine mjr_aload_n (x := l0) D_310_105 rfl ?_
      refine mjq_gR D_310_106 fr_12_145 h (fun v6 h => ?_)
      refine mjq_ic (v := (5 : Int32)) D_310_109 rfl ?_
      refine mjr_iload_n (x := l1) D_310_110 rfl ?_
      refine mjr_imul D_310_111 ?_
      refine mjr_aload_n (x := l0) D_310_112 rfl ?_
      refine mjq_gR D_310_113 fr_12_69 h (fun v7 h => ?_)
      refine mjq_bi (v := (8 : Int32)) D_310_116 rfl ?_
      refine mjr_iload_n (x := l3) D_310_118 rfl ?_
      refine mjr_imul D_310_119 ?_
      refine mjr_iload (x := l5) D_310_120 rfl ?_
      refine mjr_iadd D_310_122 ?_
      refine mjq_aI D_310_123 h (fun v8 h => ?_)
      refine mjr_iadd D_310_124 ?_
      refine mjq_aI D_310_125 h (fun v9 h => ?_)
      refine mjr_aload_n (x := l0) D_310_126 rfl ?_
      refine mjq_gR D_310_127 fr_12_145 h (fun v10 h => ?_)
      refine mjq_ic (v := (5 : Int32)) D_310_130 rfl ?_
      refine mjr_iload_n (x := l1) D_310_131 rfl ?_
      refine mjr_imul D_310_132 ?_
      refine mjr_aload_n (x := l0) D_310_133 rfl ?_
      refine mjq_gR D_310_134 fr_12_72 h (fun v11 h => ?_)
      refine mjq_bi (v := (8 : Int32)) D_310_137 rfl ?_
      refine mjr_iload_n (x := l3) D_310_139 rfl ?_
      refine mjr_imul D_310_140 ?_
      refine mjr_iload (x := l5) D_310_141 rfl ?_
      refine mjr_iadd D_310_143 ?_
      refine mjq_aI D_310_144 h (fun v12 h => ?_)
      refine mjr_iadd D_310_145 ?_
      refine mjq_aI D_310_146 h (fun v13 h => ?_)
      refine mjq_vI (As := [.int l2, .int v9, .int v13]) (rest := []) D_310_147 mr_12_500 V_311 rfl rfl rfl hR (Nat.le_refl _) h1 h2 h (fun v14 hp15 h => ?_)
      refine mjq_if_eq (tgt := 157) D_310_150 rfl h (fun h => ?_) (fun h => ?_)
      · exact mjG.fg (lo' := [some (.ref l0), some (.int l1), some (.int l2), some (.int l3), none, some (.int l5)]) (And.intro rfl (And.intro rfl (And.intro rfl (And.intro rfl (And.intro rfl True.intro))))) ((t_310_157 hR h1 h2 hk87) _ _ _ _ _ _ _ h)
      · refine mjq_ic (v := (1 : Int32)) D_310_153 rfl ?_
        refine mjr_goto (tgt := 158) D_310_154 rfl ?_
        exact mjG.fg (lo' := [some (.ref l0), some (.int l1), some (.int l2), some (.int l3), none, some (.int l5)]) (And.intro rfl (And.intro rfl (And.intro rfl (And.intro rfl (And.intro rfl True.intro))))) ((t_310_158 hR h1 h2 hk87) _ _ _ _ _ _ _ _ h)
noncomputable def L_310_87 (R : mjR) (n : Nat) : Nat → Int32 → Int32 → Int32 → Int32 → Int32 → mjH → mjU := Nat.rec (motive := fun _ => Nat → Int32 → Int32 → Int32 → Int32 → Int32 → mjH → mjU) (fun _ _ _ _ _ _ _ => none) (fun _ self => b_310_87 R self) n
theorem T_310_87 {X : mjX} {d C S kc ks : Nat} {R : mjR} (hR : mjC R d) (h1 : kc ≤ C) (h2 : ks ≤ S) (n : Nat) : P_310_87 X (d + 1) C S kc ks (L_310_87 R n) := by
  induction n with
  | zero => intro _ _ _ _ _ _ _ _ h; exact mj_no h
  | succ n ih => exact t_310_87 hR h1 h2 ih
noncomputable def b_310_76 (R : mjR) (k28 : Nat → Int32 → Int32 → Int32 → Int32 → Int32 → mjH → mjU) (l0 : Nat) (l1 : Int32) (l2 : Int32) (l3 : Int32) (l5 : Int32) (s0 : Int32) (hp : mjH) : mjU := k28 l0 l1 l2 l3 s0 (l5 + (1 : Int32)) hp
theorem t_310_76 {X : mjX} {d C S kc ks : Nat} {R : mjR} (hR : mjC R d) (h1 : kc ≤ C) (h2 : ks ≤ S) {k28 : Nat → Int32 → Int32 → Int32 → Int32 → Int32 → mjH → mjU} (hk28 : P_310_28 X (d + 1) C S kc ks k28) : P_310_76 X (d + 1) C S kc ks (b_310_76 R k28) := by
  intro l0 l1 l2 l3 l5 s0 hp q h
  unfold b_310_76 at h
  refine mjq_istore (lo' := [some (.ref l0), some (.int l1), some (.int l2), some (.int l3), some (.int s0), some (.int l5)]) D_310_76 (Nat.le_of_ble_eq_true rfl) rfl ?_
  refine mjq_iinc (x := l5) (c := (1 : Int32)) (lo' := [some (.ref l0), some (.int l1), some (.int l2), some (.int l3), some (.int s0), some (.int (l5 + (1 : Int32)))]) D_310_78 rfl (Nat.le_of_ble_eq_true rfl) rfl rfl ?_
  refine mjr_goto (tgt := 28) D_310_81 rfl ?_
  exact hk28 _ _ _ _ _ _ _ _ h
noncomputable def b_310_75 (R : mjR) (k28 : Nat → Int32 → Int32 → Int32 → Int32 → Int32 → mjH → mjU) (l0 : Nat) (l1 : Int32) (l2 : Int32) (l3 : Int32) (l5 : Int32) (hp : mjH) : mjU := b_310_76 R k28 l0 l1 l2 l3 l5 (0 : Int32) hp
theorem t_310_75 {X : mjX} {d C S kc ks : Nat} {R : mjR} (hR : mjC R d) (h1 : kc ≤ C) (h2 : ks ≤ S) {k28 : Nat → Int32 → Int32 → Int32 → Int32 → Int32 → mjH → mjU} (hk28 : P_310_28 X (d + 1) C S kc ks k28) : P_310_75 X (d + 1) C S kc ks (b_310_75 R k28) := by
  intro l0 l1 l2 l3 l5 hp q h
  unfold b_310_75 at h
  refine mjq_ic (v := (0 : Int32)) D_310_75 rfl ?_
  exact (t_310_76 hR h1 h2 hk28) _ _ _ _ _ _ _ _ h
noncomputable def b_310_28 (R : mjR) (k28 : Nat → Int32 → Int32 → Int32 → Int32 → Int32 → mjH → mjU) (l0 : Nat) (l1 : Int32) (l2 : Int32) (l3 : Int32) (l4 : Int32) (l5 : Int32) (hp : mjH) : mjU := gR hp l0 12 49 (fun v1 => aI hp v1 l1 (fun v2 => (if v2 ≤ l5 then L_310_87 R mjN l0 l1 l2 l3 l4 (0 : Int32) hp else (if l4 = 0 then b_310_75 R k28 l0 l1 l2 l3 l5 hp else gR hp l0 12 53 (fun v3 => aI hp v3 ((5 : Int32) * l1) (fun v4 => gR hp l0 12 53 (fun v5 => aI hp v5 (((5 : Int32) * l1) + l5) (fun v6 => rV hp l0 12 (bI (R 311 [.ref l0, .int l2, .int v4, .int v6] hp) (fun v7 hp8 => (if v7 = 0 then b_310_75 R k28 l0 l1 l2 l3 l5 hp8 else b_310_76 R k28 l0 l1 l2 l3 l5 (1 : Int32) hp8)))))))))))
theorem t_310_28 {X : mjX} {d C S kc ks : Nat} {R : mjR} (hR : mjC R d) (h1 : kc ≤ C) (h2 : ks ≤ S) {k28 : Nat → Int32 → Int32 → Int32 → Int32 → Int32 → mjH → mjU} (hk28 : P_310_28 X (d + 1) C S kc ks k28) : P_310_28 X (d + 1) C S kc ks (b_310_28 R k28) := by
  intro l0 l1 l2 l3 l4 l5 hp q h
  unfold b_310_28 at h
  refine mjr_iload (x := l5) D_310_28 rfl ?_
  refine mjr_aload_n (x := l0) D_310_30 rfl ?_
  refine mjq_gR D_310_31 fr_12_133 h (fun v1 h => ?_)
  refine mjr_iload_n (x := l1) D_310_34 rfl ?_
  refine mjq_aI D_310_35 h (fun v2 h => ?_)
  refine mjq_icmp_ge (tgt := 84) D_310_36 rfl h (fun h => ?_) (fun h => ?_)
  · refine mjq_ic (v := (0 : Int32)) D_310_84 rfl ?_
    refine mjq_istore (lo' := [some (.ref l0), some (.int l1), some (.int l2), some (.int l3), some (.int l4), some (.int (0 : Int32))]) D_310_85 (Nat.le_of_ble_eq_true rfl) rfl ?_
    exact (T_310_87 hR h1 h2 mjN) _ _ _ _ _ _ _ _ h
  · refine mjr_iload (x := l4) D_310_39 rfl ?_
    refine mjq_if_eq (tgt := 75) D_310_41 rfl h (fun h => ?_) (fun h => ?_)
    · exact mjG.fg (lo' := [some (.ref l0), some (.int l1), some (.int l2), some (.int l3), none, some (.int l5)]) (And.intro rfl (And.intro rfl (And.intro rfl (And.intro rfl (And.intro rfl True.intro))))) ((t_310_75 hR h1 h2 hk28) _ _ _ _ _ _ _ h)
    · refine mjr_aload_n (x := l0) D_310_44 rfl ?_
      refine mjr_iload_n (x := l2) D_310_45 rfl ?_
      refine mjr_aload_n (x := l0) D_310_46 rfl ?_
      refine mjq_gR D_310_47 fr_12_145 h (fun v3 h => ?_)
      refine mjq_ic (v := (5 : Int32)) D_310_50 rfl ?_
      refine mjr_iload_n (x := l1) D_310_51 rfl ?_
      refine mjr_imul D_310_52 ?_
      refine mjq_aI D_310_53 h (fun v4 h => ?_)
      refine mjr_aload_n (x := l0) D_310_54 rfl ?_
      refine mjq_gR D_310_55 fr_12_145 h (fun v5 h => ?_)
      refine mjq_ic (v := (5 : Int32)) D_310_58 rfl ?_
      refine mjr_iload_n (x := l1) D_310_59 rfl ?_
      refine mjr_imul D_310_60 ?_
      refine mjr_iload (x := l5) D_310_61 rfl ?_
      refine mjr_iadd D_310_63 ?_
      refine mjq_aI D_310_64 h (fun v6 h => ?_)
      refine mjq_vI (As := [.int l2, .int v4, .int v6]) (rest := []) D_310_65 mr_12_500 V_311 rfl rfl rfl hR (Nat.le_refl _) h1 h2 h (fun v7 hp8 h => ?_)
      refine mjq_if_eq (tgt := 75) D_310_68 rfl h (fun h => ?_) (fun h => ?_)
      · exact mjG.fg (lo' := [some (.ref l0), some (.int l1), some (.int l2), some (.int l3), none, some (.int l5)]) (And.intro rfl (And.intro rfl (And.intro rfl (And.intro rfl (And.intro rfl True.intro))))) ((t_310_75 hR h1 h2 hk28) _ _ _ _ _ _ _ h)
      · refine mjq_ic (v := (1 : Int32)) D_310_71 rfl ?_
        refine mjr_goto (tgt := 76) D_310_72 rfl ?_
        exact mjG.fg (lo' := [some (.ref l0), some (.int l1), some (.int l2), some (.int l3), none, some (.int l5)]) (And.intro rfl (And.intro rfl (And.intro rfl (And.intro rfl (And.intro rfl True.intro))))) ((t_310_76 hR h1 h2 hk28) _ _ _ _ _ _ _ _ h)
noncomputable def L_310_28 (R : mjR) (n : Nat) : Nat → Int32 → Int32 → Int32 → Int32 → Int32 → mjH → mjU := Nat.rec (motive := fun _ => Nat → Int32 → Int32 → Int32 → Int32 → Int32 → mjH → mjU) (fun _ _ _ _ _ _ _ => none) (fun _ self => b_310_28 R self) n
theorem T_310_28 {X : mjX} {d C S kc ks : Nat} {R : mjR} (hR : mjC R d) (h1 : kc ≤ C) (h2 : ks ≤ S) (n : Nat) : P_310_28 X (d + 1) C S kc ks (L_310_28 R n) := by
  induction n with
  | zero => intro _ _ _ _ _ _ _ _ h; exact mj_no h
  | succ n ih => exact t_310_28 hR h1 h2 ih
noncomputable def b_310_0 (R : mjR) (l0 : Nat) (l1 : Int32) (l2 : Int32) (hp : mjH) : mjU := gI hp l0 12 129 (fun v1 => (if v1 = 0 then gI hp l0 12 61 (fun v2 => (if v2 ≤ 0 then gR hp l0 12 50 (fun v3 => aI hp v3 l1 (fun v4 => L_310_28 R mjN l0 l1 l2 v4 (1 : Int32) (1 : Int32) hp)) else some (none, hp))) else some (none, hp)))
theorem t_310_0 {X : mjX} {d C S kc ks : Nat} {R : mjR} (hR : mjC R d) (h1 : kc ≤ C) (h2 : ks ≤ S) : P_310_0 X (d + 1) C S kc ks (b_310_0 R) := by
  intro l0 l1 l2 hp q h
  unfold b_310_0 at h
  refine mjr_aload_n (x := l0) D_310_0 rfl ?_
  refine mjq_gI D_310_1 fr_12_496 h (fun v1 h => ?_)
  refine mjq_if_ne (tgt := 14) D_310_4 rfl h (fun h => ?_) (fun h => ?_)
  · exact mjq_nret D_310_14 rfl h1 h2 h
  · refine mjr_aload_n (x := l0) D_310_7 rfl ?_
    refine mjq_gI D_310_8 fr_12_333 h (fun v2 h => ?_)
    refine mjq_if_le (tgt := 15) D_310_11 rfl h (fun h => ?_) (fun h => ?_)
    · refine mjr_aload_n (x := l0) D_310_15 rfl ?_
      refine mjq_gR D_310_16 fr_12_136 h (fun v3 h => ?_)
      refine mjr_iload_n (x := l1) D_310_19 rfl ?_
      refine mjq_aI D_310_20 h (fun v4 h => ?_)
      refine mjq_istore_n (lo' := [some (.ref l0), some (.int l1), some (.int l2), some (.int v4), none, none]) D_310_21 (Nat.le_of_ble_eq_true rfl) rfl ?_
      refine mjq_ic (v := (1 : Int32)) D_310_22 rfl ?_
      refine mjq_istore (lo' := [some (.ref l0), some (.int l1), some (.int l2), some (.int v4), some (.int (1 : Int32)), none]) D_310_23 (Nat.le_of_ble_eq_true rfl) rfl ?_
      refine mjq_ic (v := (1 : Int32)) D_310_25 rfl ?_
      refine mjq_istore (lo' := [some (.ref l0), some (.int l1), some (.int l2), some (.int v4), some (.int (1 : Int32)), some (.int (1 : Int32))]) D_310_26 (Nat.le_of_ble_eq_true rfl) rfl ?_
      exact (T_310_28 hR h1 h2 mjN) _ _ _ _ _ _ _ _ h
    · exact mjq_nret D_310_14 rfl h1 h2 h
noncomputable def f_310 (R : mjR) (a0 : Nat) (a1 : Int32) (a2 : Int32) (hp : mjH) : mjU := b_310_0 R a0 a1 a2 hp
theorem c_310 {R : mjR} {d : Nat} (hR : mjC R d) {a0 : Nat} {a1 : Int32} {a2 : Int32} {hp : mjH} {q : Option Value × mjH} (h : f_310 R a0 a1 a2 hp = some q) : mjM (d + 1) 0 0 310 [.ref a0, .int a1, .int a2] hp (mjEq q) :=
  mjM_of Ja_310 (Nat.le_of_ble_eq_true rfl) (mjG.fg (lo' := [some (.ref a0), some (.int a1), some (.int a2), none, none, none]) (And.intro rfl (And.intro rfl (And.intro rfl True.intro))) ((t_310_0 hR (Nat.le_refl 0) (Nat.le_refl 0)) a0 a1 a2 hp q h))
def J_311 : mjI := (⟨"OwnerHeapModel", "isKnown", "(III)Z"⟩, 12, prog_14_method_47_code, 4, (some .boolean), 3, false)
theorem Ja_311 : mjMt 311 = some J_311 := by rfl
theorem D_311_0 : decode J_311.2.2.1 0 = .ok (.iload_n 1, 1) := dzq_27 (by decide +kernel)
theorem D_311_1 : decode J_311.2.2.1 1 = .ok (.iconst (-1), 1) := dzq_2 (by decide +kernel)
theorem D_311_2 : decode J_311.2.2.1 2 = .ok (.if_icmp .ne 16, 3) := dzq_160 (by decide +kernel)
theorem D_311_5 : decode J_311.2.2.1 5 = .ok (.iload_n 2, 1) := dzq_28 (by decide +kernel)
theorem D_311_6 : decode J_311.2.2.1 6 = .ok (.iload_n 3, 1) := dzq_29 (by decide +kernel)
theorem D_311_7 : decode J_311.2.2.1 7 = .ok (.if_icmp .ne 7, 3) := dzq_160 (by decide +kernel)
theorem D_311_10 : decode J_311.2.2.1 10 = .ok (.iconst 1, 1) := dzq_4 (by decide +kernel)
theorem D_311_11 : decode J_311.2.2.1 11 = .ok (.goto 29, 3) := dzq_167 (by decide +kernel)
theorem D_311_14 : decode J_311.2.2.1 14 = .ok (.iconst 0, 1) := dzq_3 (by decide +kernel)
theorem D_311_15 : decode J_311.2.2.1 15 = .ok (.goto 25, 3) := dzq_167 (by decide +kernel)
theorem D_311_18 : decode J_311.2.2.1 18 = .ok (.aload_n 0, 1) := dzq_42 (by decide +kernel)
theorem D_311_19 : decode J_311.2.2.1 19 = .ok (.getfield 75, 3) := dzq_180 (by decide +kernel)
theorem D_311_22 : decode J_311.2.2.1 22 = .ok (.bipush 49, 2) := dzq_16 (by decide +kernel)
theorem D_311_24 : decode J_311.2.2.1 24 = .ok (.iload_n 1, 1) := dzq_27 (by decide +kernel)
theorem D_311_25 : decode J_311.2.2.1 25 = .ok (.imul, 1) := dzq_104 (by decide +kernel)
theorem D_311_26 : decode J_311.2.2.1 26 = .ok (.bipush 7, 2) := dzq_16 (by decide +kernel)
theorem D_311_28 : decode J_311.2.2.1 28 = .ok (.iload_n 2, 1) := dzq_28 (by decide +kernel)
theorem D_311_29 : decode J_311.2.2.1 29 = .ok (.invokestatic 485, 3) := dzq_184 (by decide +kernel)
theorem D_311_32 : decode J_311.2.2.1 32 = .ok (.imul, 1) := dzq_104 (by decide +kernel)
theorem D_311_33 : decode J_311.2.2.1 33 = .ok (.iadd, 1) := dzq_96 (by decide +kernel)
theorem D_311_34 : decode J_311.2.2.1 34 = .ok (.iload_n 3, 1) := dzq_29 (by decide +kernel)
theorem D_311_35 : decode J_311.2.2.1 35 = .ok (.invokestatic 485, 3) := dzq_184 (by decide +kernel)
theorem D_311_38 : decode J_311.2.2.1 38 = .ok (.iadd, 1) := dzq_96 (by decide +kernel)
theorem D_311_39 : decode J_311.2.2.1 39 = .ok (.baload, 1) := dzq_51 (by decide +kernel)
theorem D_311_40 : decode J_311.2.2.1 40 = .ok (.ireturn, 1) := dzq_172 (by decide +kernel)
def P_311_0 (X : mjX) (d C S kc ks : Nat) (k : Nat → Int32 → Int32 → Int32 → mjH → mjU) : Prop := ∀ (l0 : Nat) (l1 : Int32) (l2 : Int32) (l3 : Int32) (hp : mjH) (q : Option Value × mjH), k l0 l1 l2 l3 hp = some q → mjG X d C S J_311 (mjEq q) 0 [some (.ref l0), some (.int l1), some (.int l2), some (.int l3)] [] hp kc ks
noncomputable def b_311_0 (R : mjR) (l0 : Nat) (l1 : Int32) (l2 : Int32) (l3 : Int32) (hp : mjH) : mjU := (if l1 = (-1 : Int32) then (if l2 = l3 then some (some (.int (1 : Int32)), hp) else some (some (.int (0 : Int32)), hp)) else gR hp l0 12 30 (fun v1 => bI (R 312 [.int l2] hp) (fun v2 hp3 => bI (R 312 [.int l3] hp3) (fun v4 hp5 => aB hp5 v1 ((((49 : Int32) * l1) + ((7 : Int32) * v2)) + v4) (fun v6 => (if narrow .boolean (.int v6) = .int v6 then some (some (.int v6), hp5) else none))))))
theorem t_311_0 {X : mjX} {d C S kc ks : Nat} {R : mjR} (hR : mjC R d) (h1 : kc ≤ C) (h2 : ks ≤ S) : P_311_0 X (d + 1) C S kc ks (b_311_0 R) := by
  intro l0 l1 l2 l3 hp q h
  unfold b_311_0 at h
  refine mjr_iload_n (x := l1) D_311_0 rfl ?_
  refine mjq_ic (v := (-1 : Int32)) D_311_1 rfl ?_
  refine mjq_icmp_ne (tgt := 18) D_311_2 rfl h (fun h => ?_) (fun h => ?_)
  · refine mjr_aload_n (x := l0) D_311_18 rfl ?_
    refine mjq_gR D_311_19 fr_12_75 h (fun v1 h => ?_)
    refine mjq_bi (v := (49 : Int32)) D_311_22 rfl ?_
    refine mjr_iload_n (x := l1) D_311_24 rfl ?_
    refine mjr_imul D_311_25 ?_
    refine mjq_bi (v := (7 : Int32)) D_311_26 rfl ?_
    refine mjr_iload_n (x := l2) D_311_28 rfl ?_
    refine mjq_scI (As := [.int l2]) (rest := [.int (7 : Int32), .int ((49 : Int32) * l1), .ref v1]) D_311_29 mr_12_485 V_312 rfl rfl rfl hR (Nat.le_refl _) h1 h2 h (fun v2 hp3 h => ?_)
    refine mjr_imul D_311_32 ?_
    refine mjr_iadd D_311_33 ?_
    refine mjr_iload_n (x := l3) D_311_34 rfl ?_
    refine mjq_scI (As := [.int l3]) (rest := [.int (((49 : Int32) * l1) + ((7 : Int32) * v2)), .ref v1]) D_311_35 mr_12_485 V_312 rfl rfl rfl hR (Nat.le_refl _) h1 h2 h (fun v4 hp5 h => ?_)
    refine mjr_iadd D_311_38 ?_
    refine mjq_aB D_311_39 h (fun v6 h => ?_)
    exact mjq_retZ (ty := .boolean) D_311_40 rfl h1 h2 h
  · refine mjr_iload_n (x := l2) D_311_5 rfl ?_
    refine mjr_iload_n (x := l3) D_311_6 rfl ?_
    refine mjq_icmp_ne (tgt := 14) D_311_7 rfl h (fun h => ?_) (fun h => ?_)
    · refine mjq_ic (v := (0 : Int32)) D_311_14 rfl ?_
      refine mjr_goto (tgt := 40) D_311_15 rfl ?_
      exact mjr_ireturn D_311_40 rfl rfl h1 h2 (Option.some.inj h)
    · refine mjq_ic (v := (1 : Int32)) D_311_10 rfl ?_
      refine mjr_goto (tgt := 40) D_311_11 rfl ?_
      exact mjr_ireturn D_311_40 rfl rfl h1 h2 (Option.some.inj h)
noncomputable def f_311 (R : mjR) (a0 : Nat) (a1 : Int32) (a2 : Int32) (a3 : Int32) (hp : mjH) : mjU := b_311_0 R a0 a1 a2 a3 hp
theorem c_311 {R : mjR} {d : Nat} (hR : mjC R d) {a0 : Nat} {a1 : Int32} {a2 : Int32} {a3 : Int32} {hp : mjH} {q : Option Value × mjH} (h : f_311 R a0 a1 a2 a3 hp = some q) : mjM (d + 1) 0 0 311 [.ref a0, .int a1, .int a2, .int a3] hp (mjEq q) :=
  mjM_of Ja_311 (Nat.le_of_ble_eq_true rfl) (mjG.fg (lo' := [some (.ref a0), some (.int a1), some (.int a2), some (.int a3)]) (And.intro rfl (And.intro rfl (And.intro rfl (And.intro rfl True.intro)))) ((t_311_0 hR (Nat.le_refl 0) (Nat.le_refl 0)) a0 a1 a2 a3 hp q h))
def J_312 : mjI := (⟨"OwnerHeapModel", "row", "(I)I"⟩, 12, prog_14_method_46_code, 1, (some .int), 1, true)
theorem Ja_312 : mjMt 312 = some J_312 := by rfl
theorem D_312_0 : decode J_312.2.2.1 0 = .ok (.iload_n 0, 1) := dzq_26 (by decide +kernel)
theorem D_312_1 : decode J_312.2.2.1 1 = .ok (.bipush (-2), 2) := dzq_16 (by decide +kernel)
theorem D_312_3 : decode J_312.2.2.1 3 = .ok (.if_icmp .ne 7, 3) := dzq_160 (by decide +kernel)
theorem D_312_6 : decode J_312.2.2.1 6 = .ok (.iconst 5, 1) := dzq_8 (by decide +kernel)
theorem D_312_7 : decode J_312.2.2.1 7 = .ok (.goto 14, 3) := dzq_167 (by decide +kernel)
theorem D_312_10 : decode J_312.2.2.1 10 = .ok (.iload_n 0, 1) := dzq_26 (by decide +kernel)
theorem D_312_11 : decode J_312.2.2.1 11 = .ok (.iconst (-1), 1) := dzq_2 (by decide +kernel)
theorem D_312_12 : decode J_312.2.2.1 12 = .ok (.if_icmp .ne 8, 3) := dzq_160 (by decide +kernel)
theorem D_312_15 : decode J_312.2.2.1 15 = .ok (.bipush 6, 2) := dzq_16 (by decide +kernel)
theorem D_312_17 : decode J_312.2.2.1 17 = .ok (.goto 4, 3) := dzq_167 (by decide +kernel)
theorem D_312_20 : decode J_312.2.2.1 20 = .ok (.iload_n 0, 1) := dzq_26 (by decide +kernel)
theorem D_312_21 : decode J_312.2.2.1 21 = .ok (.ireturn, 1) := dzq_172 (by decide +kernel)
def P_312_0 (X : mjX) (d C S kc ks : Nat) (k : Int32 → mjH → mjU) : Prop := ∀ (l0 : Int32) (hp : mjH) (q : Option Value × mjH), k l0 hp = some q → mjG X d C S J_312 (mjEq q) 0 [some (.int l0)] [] hp kc ks
noncomputable def b_312_0 (R : mjR) (l0 : Int32) (hp : mjH) : mjU := (if l0 = (-2 : Int32) then some (some (.int (5 : Int32)), hp) else (if l0 = (-1 : Int32) then some (some (.int (6 : Int32)), hp) else some (some (.int l0), hp)))
theorem t_312_0 {X : mjX} {d C S kc ks : Nat} {R : mjR} (hR : mjC R d) (h1 : kc ≤ C) (h2 : ks ≤ S) : P_312_0 X (d + 1) C S kc ks (b_312_0 R) := by
  intro l0 hp q h
  unfold b_312_0 at h
  refine mjr_iload_n (x := l0) D_312_0 rfl ?_
  refine mjq_bi (v := (-2 : Int32)) D_312_1 rfl ?_
  refine mjq_icmp_ne (tgt := 10) D_312_3 rfl h (fun h => ?_) (fun h => ?_)
  · refine mjr_iload_n (x := l0) D_312_10 rfl ?_
    refine mjq_ic (v := (-1 : Int32)) D_312_11 rfl ?_
    refine mjq_icmp_ne (tgt := 20) D_312_12 rfl h (fun h => ?_) (fun h => ?_)
    · refine mjr_iload_n (x := l0) D_312_20 rfl ?_
      exact mjq_ret D_312_21 rfl h1 h2 h
    · refine mjq_bi (v := (6 : Int32)) D_312_15 rfl ?_
      refine mjr_goto (tgt := 21) D_312_17 rfl ?_
      exact mjq_ret D_312_21 rfl h1 h2 h
  · refine mjq_ic (v := (5 : Int32)) D_312_6 rfl ?_
    refine mjr_goto (tgt := 21) D_312_7 rfl ?_
    exact mjq_ret D_312_21 rfl h1 h2 h
noncomputable def f_312 (R : mjR) (a0 : Int32) (hp : mjH) : mjU := b_312_0 R a0 hp
theorem c_312 {R : mjR} {d : Nat} (hR : mjC R d) {a0 : Int32} {hp : mjH} {q : Option Value × mjH} (h : f_312 R a0 hp = some q) : mjM (d + 1) 0 0 312 [.int a0] hp (mjEq q) :=
  mjM_of Ja_312 (Nat.le_of_ble_eq_true rfl) (mjG.fg (lo' := [some (.int a0)]) (And.intro rfl True.intro) ((t_312_0 hR (Nat.le_refl 0) (Nat.le_refl 0)) a0 hp q h))
def J_313 : mjI := (⟨"OwnerHeapModel", "judgeKind", "(II)V"⟩, 12, prog_14_method_50_code, 3, none, 2, false)
theorem Ja_313 : mjMt 313 = some J_313 := by rfl
theorem D_313_0 : decode J_313.2.2.1 0 = .ok (.iload_n 1, 1) := dzq_27 (by decide +kernel)
theorem D_313_1 : decode J_313.2.2.1 1 = .ok (.ifCond .ge 4, 3) := dzq_156 (by decide +kernel)
theorem D_313_4 : decode J_313.2.2.1 4 = .ok (.return_, 1) := dzq_177 (by decide +kernel)
theorem D_313_5 : decode J_313.2.2.1 5 = .ok (.aload_n 0, 1) := dzq_42 (by decide +kernel)
theorem D_313_6 : decode J_313.2.2.1 6 = .ok (.iload_n 1, 1) := dzq_27 (by decide +kernel)
theorem D_313_7 : decode J_313.2.2.1 7 = .ok (.iload_n 2, 1) := dzq_28 (by decide +kernel)
theorem D_313_8 : decode J_313.2.2.1 8 = .ok (.iconst 0, 1) := dzq_3 (by decide +kernel)
theorem D_313_9 : decode J_313.2.2.1 9 = .ok (.invokevirtual 504, 3) := dzq_182 (by decide +kernel)
theorem D_313_12 : decode J_313.2.2.1 12 = .ok (.aload_n 0, 1) := dzq_42 (by decide +kernel)
theorem D_313_13 : decode J_313.2.2.1 13 = .ok (.iload_n 1, 1) := dzq_27 (by decide +kernel)
theorem D_313_14 : decode J_313.2.2.1 14 = .ok (.iload_n 2, 1) := dzq_28 (by decide +kernel)
theorem D_313_15 : decode J_313.2.2.1 15 = .ok (.invokevirtual 508, 3) := dzq_182 (by decide +kernel)
theorem D_313_18 : decode J_313.2.2.1 18 = .ok (.return_, 1) := dzq_177 (by decide +kernel)
def P_313_0 (X : mjX) (d C S kc ks : Nat) (k : Nat → Int32 → Int32 → mjH → mjU) : Prop := ∀ (l0 : Nat) (l1 : Int32) (l2 : Int32) (hp : mjH) (q : Option Value × mjH), k l0 l1 l2 hp = some q → mjG X d C S J_313 (mjEq q) 0 [some (.ref l0), some (.int l1), some (.int l2)] [] hp kc ks
noncomputable def b_313_0 (R : mjR) (l0 : Nat) (l1 : Int32) (l2 : Int32) (hp : mjH) : mjU := (if 0 ≤ l1 then rV hp l0 12 (bN (R 302 [.ref l0, .int l1, .int l2, .int (0 : Int32)] hp) (fun  hp1 => rV hp1 l0 12 (bN (R 310 [.ref l0, .int l1, .int l2] hp1) (fun  hp2 => some (none, hp2))))) else some (none, hp))
theorem t_313_0 {X : mjX} {d C S kc ks : Nat} {R : mjR} (hR : mjC R d) (h1 : kc ≤ C) (h2 : ks ≤ S) : P_313_0 X (d + 1) C S kc ks (b_313_0 R) := by
  intro l0 l1 l2 hp q h
  unfold b_313_0 at h
  refine mjr_iload_n (x := l1) D_313_0 rfl ?_
  refine mjq_if_ge (tgt := 5) D_313_1 rfl h (fun h => ?_) (fun h => ?_)
  · refine mjr_aload_n (x := l0) D_313_5 rfl ?_
    refine mjr_iload_n (x := l1) D_313_6 rfl ?_
    refine mjr_iload_n (x := l2) D_313_7 rfl ?_
    refine mjq_ic (v := (0 : Int32)) D_313_8 rfl ?_
    refine mjq_vN (As := [.int l1, .int l2, .int (0 : Int32)]) (rest := []) D_313_9 mr_12_504 V_302 rfl rfl rfl hR (Nat.le_refl _) h1 h2 h (fun  hp1 h => ?_)
    refine mjr_aload_n (x := l0) D_313_12 rfl ?_
    refine mjr_iload_n (x := l1) D_313_13 rfl ?_
    refine mjr_iload_n (x := l2) D_313_14 rfl ?_
    refine mjq_vN (As := [.int l1, .int l2]) (rest := []) D_313_15 mr_12_508 V_310 rfl rfl rfl hR (Nat.le_refl _) h1 h2 h (fun  hp2 h => ?_)
    exact mjq_nret D_313_18 rfl h1 h2 h
  · exact mjq_nret D_313_4 rfl h1 h2 h
noncomputable def f_313 (R : mjR) (a0 : Nat) (a1 : Int32) (a2 : Int32) (hp : mjH) : mjU := b_313_0 R a0 a1 a2 hp
theorem c_313 {R : mjR} {d : Nat} (hR : mjC R d) {a0 : Nat} {a1 : Int32} {a2 : Int32} {hp : mjH} {q : Option Value × mjH} (h : f_313 R a0 a1 a2 hp = some q) : mjM (d + 1) 0 0 313 [.ref a0, .int a1, .int a2] hp (mjEq q) :=
  mjM_of Ja_313 (Nat.le_of_ble_eq_true rfl) (mjG.fg (lo' := [some (.ref a0), some (.int a1), some (.int a2)]) (And.intro rfl (And.intro rfl (And.intro rfl True.intro))) ((t_313_0 hR (Nat.le_refl 0) (Nat.le_refl 0)) a0 a1 a2 hp q h))
def J_314 : mjI := (⟨"OwnerHeapModel", "judgeOver", "(I)V"⟩, 12, prog_14_method_63_code, 4, none, 1, false)
theorem Ja_314 : mjMt 314 = some J_314 := by rfl
theorem D_314_0 : decode J_314.2.2.1 0 = .ok (.aload_n 0, 1) := dzq_42 (by decide +kernel)
theorem D_314_1 : decode J_314.2.2.1 1 = .ok (.getfield 39, 3) := dzq_180 (by decide +kernel)
theorem D_314_4 : decode J_314.2.2.1 4 = .ok (.iload_n 1, 1) := dzq_27 (by decide +kernel)
theorem D_314_5 : decode J_314.2.2.1 5 = .ok (.iaload, 1) := dzq_46 (by decide +kernel)
theorem D_314_6 : decode J_314.2.2.1 6 = .ok (.sipush 400, 3) := dzq_17 (by decide +kernel)
theorem D_314_9 : decode J_314.2.2.1 9 = .ok (.aload_n 0, 1) := dzq_42 (by decide +kernel)
theorem D_314_10 : decode J_314.2.2.1 10 = .ok (.getfield 356, 3) := dzq_180 (by decide +kernel)
theorem D_314_13 : decode J_314.2.2.1 13 = .ok (.imul, 1) := dzq_104 (by decide +kernel)
theorem D_314_14 : decode J_314.2.2.1 14 = .ok (.iadd, 1) := dzq_96 (by decide +kernel)
theorem D_314_15 : decode J_314.2.2.1 15 = .ok (.istore_n 2, 1) := dzq_61 (by decide +kernel)
theorem D_314_16 : decode J_314.2.2.1 16 = .ok (.iload_n 2, 1) := dzq_28 (by decide +kernel)
theorem D_314_17 : decode J_314.2.2.1 17 = .ok (.aload_n 0, 1) := dzq_42 (by decide +kernel)
theorem D_314_18 : decode J_314.2.2.1 18 = .ok (.getfield 39, 3) := dzq_180 (by decide +kernel)
theorem D_314_21 : decode J_314.2.2.1 21 = .ok (.iload_n 1, 1) := dzq_27 (by decide +kernel)
theorem D_314_22 : decode J_314.2.2.1 22 = .ok (.iaload, 1) := dzq_46 (by decide +kernel)
theorem D_314_23 : decode J_314.2.2.1 23 = .ok (.sipush 400, 3) := dzq_17 (by decide +kernel)
theorem D_314_26 : decode J_314.2.2.1 26 = .ok (.aload_n 0, 1) := dzq_42 (by decide +kernel)
theorem D_314_27 : decode J_314.2.2.1 27 = .ok (.getfield 356, 3) := dzq_180 (by decide +kernel)
theorem D_314_30 : decode J_314.2.2.1 30 = .ok (.imul, 1) := dzq_104 (by decide +kernel)
theorem D_314_31 : decode J_314.2.2.1 31 = .ok (.iadd, 1) := dzq_96 (by decide +kernel)
theorem D_314_32 : decode J_314.2.2.1 32 = .ok (.aload_n 0, 1) := dzq_42 (by decide +kernel)
theorem D_314_33 : decode J_314.2.2.1 33 = .ok (.getfield 42, 3) := dzq_180 (by decide +kernel)
theorem D_314_36 : decode J_314.2.2.1 36 = .ok (.iload_n 1, 1) := dzq_27 (by decide +kernel)
theorem D_314_37 : decode J_314.2.2.1 37 = .ok (.iaload, 1) := dzq_46 (by decide +kernel)
theorem D_314_38 : decode J_314.2.2.1 38 = .ok (.iadd, 1) := dzq_96 (by decide +kernel)
theorem D_314_39 : decode J_314.2.2.1 39 = .ok (.if_icmp .ge 95, 3) := dzq_162 (by decide +kernel)
theorem D_314_42 : decode J_314.2.2.1 42 = .ok (.aload_n 0, 1) := dzq_42 (by decide +kernel)
theorem D_314_43 : decode J_314.2.2.1 43 = .ok (.getfield 333, 3) := dzq_180 (by decide +kernel)
theorem D_314_46 : decode J_314.2.2.1 46 = .ok (.ifCond .ne 88, 3) := dzq_154 (by decide +kernel)
theorem D_314_49 : decode J_314.2.2.1 49 = .ok (.aload_n 0, 1) := dzq_42 (by decide +kernel)
theorem D_314_50 : decode J_314.2.2.1 50 = .ok (.iload_n 1, 1) := dzq_27 (by decide +kernel)
theorem D_314_51 : decode J_314.2.2.1 51 = .ok (.invokevirtual 553, 3) := dzq_182 (by decide +kernel)
theorem D_314_54 : decode J_314.2.2.1 54 = .ok (.aload_n 0, 1) := dzq_42 (by decide +kernel)
theorem D_314_55 : decode J_314.2.2.1 55 = .ok (.aload_n 0, 1) := dzq_42 (by decide +kernel)
theorem D_314_56 : decode J_314.2.2.1 56 = .ok (.getfield 115, 3) := dzq_180 (by decide +kernel)
theorem D_314_59 : decode J_314.2.2.1 59 = .ok (.iload_n 2, 1) := dzq_28 (by decide +kernel)
theorem D_314_60 : decode J_314.2.2.1 60 = .ok (.laload, 1) := dzq_47 (by decide +kernel)
theorem D_314_61 : decode J_314.2.2.1 61 = .ok (.iconst 2, 1) := dzq_5 (by decide +kernel)
theorem D_314_62 : decode J_314.2.2.1 62 = .ok (.iconst 1, 1) := dzq_4 (by decide +kernel)
theorem D_314_63 : decode J_314.2.2.1 63 = .ok (.invokevirtual 556, 3) := dzq_182 (by decide +kernel)
theorem D_314_66 : decode J_314.2.2.1 66 = .ok (.istore_n 3, 1) := dzq_62 (by decide +kernel)
theorem D_314_67 : decode J_314.2.2.1 67 = .ok (.iload_n 3, 1) := dzq_29 (by decide +kernel)
theorem D_314_68 : decode J_314.2.2.1 68 = .ok (.iconst (-1), 1) := dzq_2 (by decide +kernel)
theorem D_314_69 : decode J_314.2.2.1 69 = .ok (.if_icmp .ne 6, 3) := dzq_160 (by decide +kernel)
theorem D_314_72 : decode J_314.2.2.1 72 = .ok (.goto 56, 3) := dzq_167 (by decide +kernel)
theorem D_314_75 : decode J_314.2.2.1 75 = .ok (.aload_n 0, 1) := dzq_42 (by decide +kernel)
theorem D_314_76 : decode J_314.2.2.1 76 = .ok (.getfield 94, 3) := dzq_180 (by decide +kernel)
theorem D_314_79 : decode J_314.2.2.1 79 = .ok (.iload_n 2, 1) := dzq_28 (by decide +kernel)
theorem D_314_80 : decode J_314.2.2.1 80 = .ok (.iaload, 1) := dzq_46 (by decide +kernel)
theorem D_314_81 : decode J_314.2.2.1 81 = .ok (.ifCond .eq 12, 3) := dzq_153 (by decide +kernel)
theorem D_314_84 : decode J_314.2.2.1 84 = .ok (.aload_n 0, 1) := dzq_42 (by decide +kernel)
theorem D_314_85 : decode J_314.2.2.1 85 = .ok (.getfield 94, 3) := dzq_180 (by decide +kernel)
theorem D_314_88 : decode J_314.2.2.1 88 = .ok (.iload_n 3, 1) := dzq_29 (by decide +kernel)
theorem D_314_89 : decode J_314.2.2.1 89 = .ok (.iaload, 1) := dzq_46 (by decide +kernel)
theorem D_314_90 : decode J_314.2.2.1 90 = .ok (.ifCond .ne 17, 3) := dzq_154 (by decide +kernel)
theorem D_314_93 : decode J_314.2.2.1 93 = .ok (.aload_n 0, 1) := dzq_42 (by decide +kernel)
theorem D_314_94 : decode J_314.2.2.1 94 = .ok (.iconst 4, 1) := dzq_7 (by decide +kernel)
theorem D_314_95 : decode J_314.2.2.1 95 = .ok (.aload_n 0, 1) := dzq_42 (by decide +kernel)
theorem D_314_96 : decode J_314.2.2.1 96 = .ok (.getfield 100, 3) := dzq_180 (by decide +kernel)
theorem D_314_99 : decode J_314.2.2.1 99 = .ok (.iload_n 2, 1) := dzq_28 (by decide +kernel)
theorem D_314_100 : decode J_314.2.2.1 100 = .ok (.iaload, 1) := dzq_46 (by decide +kernel)
theorem D_314_101 : decode J_314.2.2.1 101 = .ok (.invokevirtual 339, 3) := dzq_182 (by decide +kernel)
theorem D_314_104 : decode J_314.2.2.1 104 = .ok (.goto 24, 3) := dzq_167 (by decide +kernel)
theorem D_314_107 : decode J_314.2.2.1 107 = .ok (.aload_n 0, 1) := dzq_42 (by decide +kernel)
theorem D_314_108 : decode J_314.2.2.1 108 = .ok (.iload_n 2, 1) := dzq_28 (by decide +kernel)
theorem D_314_109 : decode J_314.2.2.1 109 = .ok (.iload_n 3, 1) := dzq_29 (by decide +kernel)
theorem D_314_110 : decode J_314.2.2.1 110 = .ok (.invokevirtual 560, 3) := dzq_182 (by decide +kernel)
theorem D_314_113 : decode J_314.2.2.1 113 = .ok (.ifCond .ne 15, 3) := dzq_154 (by decide +kernel)
theorem D_314_116 : decode J_314.2.2.1 116 = .ok (.aload_n 0, 1) := dzq_42 (by decide +kernel)
theorem D_314_117 : decode J_314.2.2.1 117 = .ok (.bipush 9, 2) := dzq_16 (by decide +kernel)
theorem D_314_119 : decode J_314.2.2.1 119 = .ok (.aload_n 0, 1) := dzq_42 (by decide +kernel)
theorem D_314_120 : decode J_314.2.2.1 120 = .ok (.getfield 100, 3) := dzq_180 (by decide +kernel)
theorem D_314_123 : decode J_314.2.2.1 123 = .ok (.iload_n 2, 1) := dzq_28 (by decide +kernel)
theorem D_314_124 : decode J_314.2.2.1 124 = .ok (.iaload, 1) := dzq_46 (by decide +kernel)
theorem D_314_125 : decode J_314.2.2.1 125 = .ok (.invokevirtual 339, 3) := dzq_182 (by decide +kernel)
theorem D_314_128 : decode J_314.2.2.1 128 = .ok (.iinc 2 1, 3) := dzq_132 (by decide +kernel)
theorem D_314_131 : decode J_314.2.2.1 131 = .ok (.goto (-115), 3) := dzq_167 (by decide +kernel)
theorem D_314_134 : decode J_314.2.2.1 134 = .ok (.return_, 1) := dzq_177 (by decide +kernel)
def P_314_128 (X : mjX) (d C S kc ks : Nat) (k : Nat → Int32 → Int32 → mjH → mjU) : Prop := ∀ (l0 : Nat) (l1 : Int32) (l2 : Int32) (hp : mjH) (q : Option Value × mjH), k l0 l1 l2 hp = some q → mjG X d C S J_314 (mjEq q) 128 [some (.ref l0), some (.int l1), some (.int l2), none] [] hp kc ks
def P_314_93 (X : mjX) (d C S kc ks : Nat) (k : Nat → Int32 → Int32 → mjH → mjU) : Prop := ∀ (l0 : Nat) (l1 : Int32) (l2 : Int32) (hp : mjH) (q : Option Value × mjH), k l0 l1 l2 hp = some q → mjG X d C S J_314 (mjEq q) 93 [some (.ref l0), some (.int l1), some (.int l2), none] [] hp kc ks
def P_314_16 (X : mjX) (d C S kc ks : Nat) (k : Nat → Int32 → Int32 → mjH → mjU) : Prop := ∀ (l0 : Nat) (l1 : Int32) (l2 : Int32) (hp : mjH) (q : Option Value × mjH), k l0 l1 l2 hp = some q → mjG X d C S J_314 (mjEq q) 16 [some (.ref l0), some (.int l1), some (.int l2), none] [] hp kc ks
def P_314_0 (X : mjX) (d C S kc ks : Nat) (k : Nat → Int32 → mjH → mjU) : Prop := ∀ (l0 : Nat) (l1 : Int32) (hp : mjH) (q : Option Value × mjH), k l0 l1 hp = some q → mjG X d C S J_314 (mjEq q) 0 [some (.ref l0), some (.int l1), none, none] [] hp kc ks
noncomputable def b_314_128 (R : mjR) (k16 : Nat → Int32 → Int32 → mjH → mjU) (l0 : Nat) (l1 : Int32) (l2 : Int32) (hp : mjH) : mjU := k16 l0 l1 (l2 + (1 : Int32)) hp
theorem t_314_128 {X : mjX} {d C S kc ks : Nat} {R : mjR} (hR : mjC R d) (h1 : kc ≤ C) (h2 : ks ≤ S) {k16 : Nat → Int32 → Int32 → mjH → mjU} (hk16 : P_314_16 X (d + 1) C S kc ks k16) : P_314_128 X (d + 1) C S kc ks (b_314_128 R k16) := by
  intro l0 l1 l2 hp q h
  unfold b_314_128 at h
  refine mjq_iinc (x := l2) (c := (1 : Int32)) (lo' := [some (.ref l0), some (.int l1), some (.int (l2 + (1 : Int32))), none]) D_314_128 rfl (Nat.le_of_ble_eq_true rfl) rfl rfl ?_
  refine mjr_goto (tgt := 16) D_314_131 rfl ?_
  exact hk16 _ _ _ _ _ h
noncomputable def b_314_93 (R : mjR) (k16 : Nat → Int32 → Int32 → mjH → mjU) (l0 : Nat) (l1 : Int32) (l2 : Int32) (hp : mjH) : mjU := gR hp l0 12 38 (fun v1 => aI hp v1 l2 (fun v2 => rV hp l0 12 (bN (R 268 [.ref l0, .int (4 : Int32), .int v2] hp) (fun  hp3 => b_314_128 R k16 l0 l1 l2 hp3))))
theorem t_314_93 {X : mjX} {d C S kc ks : Nat} {R : mjR} (hR : mjC R d) (h1 : kc ≤ C) (h2 : ks ≤ S) {k16 : Nat → Int32 → Int32 → mjH → mjU} (hk16 : P_314_16 X (d + 1) C S kc ks k16) : P_314_93 X (d + 1) C S kc ks (b_314_93 R k16) := by
  intro l0 l1 l2 hp q h
  unfold b_314_93 at h
  refine mjr_aload_n (x := l0) D_314_93 rfl ?_
  refine mjq_ic (v := (4 : Int32)) D_314_94 rfl ?_
  refine mjr_aload_n (x := l0) D_314_95 rfl ?_
  refine mjq_gR D_314_96 fr_12_100 h (fun v1 h => ?_)
  refine mjr_iload_n (x := l2) D_314_99 rfl ?_
  refine mjq_aI D_314_100 h (fun v2 h => ?_)
  refine mjq_vN (As := [.int (4 : Int32), .int v2]) (rest := []) D_314_101 mr_12_339 V_268 rfl rfl rfl hR (Nat.le_refl _) h1 h2 h (fun  hp3 h => ?_)
  refine mjr_goto (tgt := 128) D_314_104 rfl ?_
  exact (t_314_128 hR h1 h2 hk16) _ _ _ _ _ h
noncomputable def b_314_16 (R : mjR) (k16 : Nat → Int32 → Int32 → mjH → mjU) (l0 : Nat) (l1 : Int32) (l2 : Int32) (hp : mjH) : mjU := gR hp l0 12 18 (fun v1 => aI hp v1 l1 (fun v2 => gI hp l0 12 63 (fun v3 => gR hp l0 12 19 (fun v4 => aI hp v4 l1 (fun v5 => (if ((v2 + ((400 : Int32) * v3)) + v5) ≤ l2 then some (none, hp) else gI hp l0 12 61 (fun v6 => (if v6 = 0 then rV hp l0 12 (bN (R 315 [.ref l0, .int l1] hp) (fun  hp7 => gR hp7 l0 12 43 (fun v8 => aL hp7 v8 l2 (fun v9 => rV hp7 l0 12 (bI (R 316 [.ref l0, .long v9, .int (2 : Int32), .int (1 : Int32)] hp7) (fun v10 hp11 => (if v10 = (-1 : Int32) then b_314_128 R k16 l0 l1 l2 hp11 else gR hp11 l0 12 36 (fun v12 => aI hp11 v12 l2 (fun v13 => (if v13 = 0 then b_314_93 R k16 l0 l1 l2 hp11 else gR hp11 l0 12 36 (fun v14 => aI hp11 v14 v10 (fun v15 => (if v15 = 0 then b_314_93 R k16 l0 l1 l2 hp11 else rV hp11 l0 12 (bI (R 319 [.ref l0, .int l2, .int v10] hp11) (fun v16 hp17 => (if v16 = 0 then gR hp17 l0 12 38 (fun v18 => aI hp17 v18 l2 (fun v19 => rV hp17 l0 12 (bN (R 268 [.ref l0, .int (9 : Int32), .int v19] hp17) (fun  hp20 => b_314_128 R k16 l0 l1 l2 hp20)))) else b_314_128 R k16 l0 l1 l2 hp17)))))))))))))))) else some (none, hp)))))))))
theorem t_314_16 {X : mjX} {d C S kc ks : Nat} {R : mjR} (hR : mjC R d) (h1 : kc ≤ C) (h2 : ks ≤ S) {k16 : Nat → Int32 → Int32 → mjH → mjU} (hk16 : P_314_16 X (d + 1) C S kc ks k16) : P_314_16 X (d + 1) C S kc ks (b_314_16 R k16) := by
  intro l0 l1 l2 hp q h
  unfold b_314_16 at h
  refine mjr_iload_n (x := l2) D_314_16 rfl ?_
  refine mjr_aload_n (x := l0) D_314_17 rfl ?_
  refine mjq_gR D_314_18 fr_12_39 h (fun v1 h => ?_)
  refine mjr_iload_n (x := l1) D_314_21 rfl ?_
  refine mjq_aI D_314_22 h (fun v2 h => ?_)
  refine mjq_si (v := (400 : Int32)) D_314_23 rfl ?_
  refine mjr_aload_n (x := l0) D_314_26 rfl ?_
  refine mjq_gI D_314_27 fr_12_356 h (fun v3 h => ?_)
  refine mjr_imul D_314_30 ?_
  refine mjr_iadd D_314_31 ?_
  refine mjr_aload_n (x := l0) D_314_32 rfl ?_
  refine mjq_gR D_314_33 fr_12_42 h (fun v4 h => ?_)
  refine mjr_iload_n (x := l1) D_314_36 rfl ?_
  refine mjq_aI D_314_37 h (fun v5 h => ?_)
  refine mjr_iadd D_314_38 ?_
  refine mjq_icmp_ge (tgt := 134) D_314_39 rfl h (fun h => ?_) (fun h => ?_)
  · exact mjq_nret D_314_134 rfl h1 h2 h
  · refine mjr_aload_n (x := l0) D_314_42 rfl ?_
    refine mjq_gI D_314_43 fr_12_333 h (fun v6 h => ?_)
    refine mjq_if_ne (tgt := 134) D_314_46 rfl h (fun h => ?_) (fun h => ?_)
    · exact mjq_nret D_314_134 rfl h1 h2 h
    · refine mjr_aload_n (x := l0) D_314_49 rfl ?_
      refine mjr_iload_n (x := l1) D_314_50 rfl ?_
      refine mjq_vN (As := [.int l1]) (rest := []) D_314_51 mr_12_553 V_315 rfl rfl rfl hR (Nat.le_refl _) h1 h2 h (fun  hp7 h => ?_)
      refine mjr_aload_n (x := l0) D_314_54 rfl ?_
      refine mjr_aload_n (x := l0) D_314_55 rfl ?_
      refine mjq_gR D_314_56 fr_12_115 h (fun v8 h => ?_)
      refine mjr_iload_n (x := l2) D_314_59 rfl ?_
      refine mjq_aL D_314_60 h (fun v9 h => ?_)
      refine mjq_ic (v := (2 : Int32)) D_314_61 rfl ?_
      refine mjq_ic (v := (1 : Int32)) D_314_62 rfl ?_
      refine mjq_vI (As := [.long v9, .int (2 : Int32), .int (1 : Int32)]) (rest := []) D_314_63 mr_12_556 V_316 rfl rfl rfl hR (Nat.le_refl _) h1 h2 h (fun v10 hp11 h => ?_)
      refine mjq_istore_n (lo' := [some (.ref l0), some (.int l1), some (.int l2), some (.int v10)]) D_314_66 (Nat.le_of_ble_eq_true rfl) rfl ?_
      refine mjr_iload_n (x := v10) D_314_67 rfl ?_
      refine mjq_ic (v := (-1 : Int32)) D_314_68 rfl ?_
      refine mjq_icmp_ne (tgt := 75) D_314_69 rfl h (fun h => ?_) (fun h => ?_)
      · refine mjr_aload_n (x := l0) D_314_75 rfl ?_
        refine mjq_gR D_314_76 fr_12_94 h (fun v12 h => ?_)
        refine mjr_iload_n (x := l2) D_314_79 rfl ?_
        refine mjq_aI D_314_80 h (fun v13 h => ?_)
        refine mjq_if_eq (tgt := 93) D_314_81 rfl h (fun h => ?_) (fun h => ?_)
        · exact mjG.fg (lo' := [some (.ref l0), some (.int l1), some (.int l2), none]) (And.intro rfl (And.intro rfl (And.intro rfl True.intro))) ((t_314_93 hR h1 h2 hk16) _ _ _ _ _ h)
        · refine mjr_aload_n (x := l0) D_314_84 rfl ?_
          refine mjq_gR D_314_85 fr_12_94 h (fun v14 h => ?_)
          refine mjr_iload_n (x := v10) D_314_88 rfl ?_
          refine mjq_aI D_314_89 h (fun v15 h => ?_)
          refine mjq_if_ne (tgt := 107) D_314_90 rfl h (fun h => ?_) (fun h => ?_)
          · refine mjr_aload_n (x := l0) D_314_107 rfl ?_
            refine mjr_iload_n (x := l2) D_314_108 rfl ?_
            refine mjr_iload_n (x := v10) D_314_109 rfl ?_
            refine mjq_vI (As := [.int l2, .int v10]) (rest := []) D_314_110 mr_12_560 V_319 rfl rfl rfl hR (Nat.le_refl _) h1 h2 h (fun v16 hp17 h => ?_)
            refine mjq_if_ne (tgt := 128) D_314_113 rfl h (fun h => ?_) (fun h => ?_)
            · exact mjG.fg (lo' := [some (.ref l0), some (.int l1), some (.int l2), none]) (And.intro rfl (And.intro rfl (And.intro rfl True.intro))) ((t_314_128 hR h1 h2 hk16) _ _ _ _ _ h)
            · refine mjr_aload_n (x := l0) D_314_116 rfl ?_
              refine mjq_bi (v := (9 : Int32)) D_314_117 rfl ?_
              refine mjr_aload_n (x := l0) D_314_119 rfl ?_
              refine mjq_gR D_314_120 fr_12_100 h (fun v18 h => ?_)
              refine mjr_iload_n (x := l2) D_314_123 rfl ?_
              refine mjq_aI D_314_124 h (fun v19 h => ?_)
              refine mjq_vN (As := [.int (9 : Int32), .int v19]) (rest := []) D_314_125 mr_12_339 V_268 rfl rfl rfl hR (Nat.le_refl _) h1 h2 h (fun  hp20 h => ?_)
              exact mjG.fg (lo' := [some (.ref l0), some (.int l1), some (.int l2), none]) (And.intro rfl (And.intro rfl (And.intro rfl True.intro))) ((t_314_128 hR h1 h2 hk16) _ _ _ _ _ h)
          · exact mjG.fg (lo' := [some (.ref l0), some (.int l1), some (.int l2), none]) (And.intro rfl (And.intro rfl (And.intro rfl True.intro))) ((t_314_93 hR h1 h2 hk16) _ _ _ _ _ h)
      · refine mjr_goto (tgt := 128) D_314_72 rfl ?_
        exact mjG.fg (lo' := [some (.ref l0), some (.int l1), some (.int l2), none]) (And.intro rfl (And.intro rfl (And.intro rfl True.intro))) ((t_314_128 hR h1 h2 hk16) _ _ _ _ _ h)
noncomputable def L_314_16 (R : mjR) (n : Nat) : Nat → Int32 → Int32 → mjH → mjU := Nat.rec (motive := fun _ => Nat → Int32 → Int32 → mjH → mjU) (fun _ _ _ _ => none) (fun _ self => b_314_16 R self) n
theorem T_314_16 {X : mjX} {d C S kc ks : Nat} {R : mjR} (hR : mjC R d) (h1 : kc ≤ C) (h2 : ks ≤ S) (n : Nat) : P_314_16 X (d + 1) C S kc ks (L_314_16 R n) := by
  induction n with
  | zero => intro _ _ _ _ _ h; exact mj_no h
  | succ n ih => exact t_314_16 hR h1 h2 ih
noncomputable def b_314_0 (R : mjR) (l0 : Nat) (l1 : Int32) (hp : mjH) : mjU := gR hp l0 12 18 (fun v1 => aI hp v1 l1 (fun v2 => gI hp l0 12 63 (fun v3 => L_314_16 R mjN l0 l1 (v2 + ((400 : Int32) * v3)) hp)))
theorem t_314_0 {X : mjX} {d C S kc ks : Nat} {R : mjR} (hR : mjC R d) (h1 : kc ≤ C) (h2 : ks ≤ S) : P_314_0 X (d + 1) C S kc ks (b_314_0 R) := by
  intro l0 l1 hp q h
  unfold b_314_0 at h
  refine mjr_aload_n (x := l0) D_314_0 rfl ?_
  refine mjq_gR D_314_1 fr_12_39 h (fun v1 h => ?_)
  refine mjr_iload_n (x := l1) D_314_4 rfl ?_
  refine mjq_aI D_314_5 h (fun v2 h => ?_)
  refine mjq_si (v := (400 : Int32)) D_314_6 rfl ?_
  refine mjr_aload_n (x := l0) D_314_9 rfl ?_
  refine mjq_gI D_314_10 fr_12_356 h (fun v3 h => ?_)
  refine mjr_imul D_314_13 ?_
  refine mjr_iadd D_314_14 ?_
  refine mjq_istore_n (lo' := [some (.ref l0), some (.int l1), some (.int (v2 + ((400 : Int32) * v3))), none]) D_314_15 (Nat.le_of_ble_eq_true rfl) rfl ?_
  exact (T_314_16 hR h1 h2 mjN) _ _ _ _ _ h
noncomputable def f_314 (R : mjR) (a0 : Nat) (a1 : Int32) (hp : mjH) : mjU := b_314_0 R a0 a1 hp
theorem c_314 {R : mjR} {d : Nat} (hR : mjC R d) {a0 : Nat} {a1 : Int32} {hp : mjH} {q : Option Value × mjH} (h : f_314 R a0 a1 hp = some q) : mjM (d + 1) 0 0 314 [.ref a0, .int a1] hp (mjEq q) :=
  mjM_of Ja_314 (Nat.le_of_ble_eq_true rfl) (mjG.fg (lo' := [some (.ref a0), some (.int a1), none, none]) (And.intro rfl (And.intro rfl True.intro)) ((t_314_0 hR (Nat.le_refl 0) (Nat.le_refl 0)) a0 a1 hp q h))
def J_315 : mjI := (⟨"OwnerHeapModel", "own", "(I)V"⟩, 12, prog_14_method_59_code, 3, none, 1, false)
theorem Ja_315 : mjMt 315 = some J_315 := by rfl
theorem D_315_0 : decode J_315.2.2.1 0 = .ok (.aload_n 0, 1) := dzq_42 (by decide +kernel)
theorem D_315_1 : decode J_315.2.2.1 1 = .ok (.iload_n 1, 1) := dzq_27 (by decide +kernel)
theorem D_315_2 : decode J_315.2.2.1 2 = .ok (.putfield 544, 3) := dzq_181 (by decide +kernel)
theorem D_315_5 : decode J_315.2.2.1 5 = .ok (.iconst 0, 1) := dzq_3 (by decide +kernel)
theorem D_315_6 : decode J_315.2.2.1 6 = .ok (.istore_n 2, 1) := dzq_61 (by decide +kernel)
theorem D_315_7 : decode J_315.2.2.1 7 = .ok (.iload_n 2, 1) := dzq_28 (by decide +kernel)
theorem D_315_8 : decode J_315.2.2.1 8 = .ok (.iconst 5, 1) := dzq_8 (by decide +kernel)
theorem D_315_9 : decode J_315.2.2.1 9 = .ok (.if_icmp .ge 16, 3) := dzq_162 (by decide +kernel)
theorem D_315_12 : decode J_315.2.2.1 12 = .ok (.aload_n 0, 1) := dzq_42 (by decide +kernel)
theorem D_315_13 : decode J_315.2.2.1 13 = .ok (.getfield 221, 3) := dzq_180 (by decide +kernel)
theorem D_315_16 : decode J_315.2.2.1 16 = .ok (.iload_n 2, 1) := dzq_28 (by decide +kernel)
theorem D_315_17 : decode J_315.2.2.1 17 = .ok (.iload_n 2, 1) := dzq_28 (by decide +kernel)
theorem D_315_18 : decode J_315.2.2.1 18 = .ok (.iastore, 1) := dzq_79 (by decide +kernel)
theorem D_315_19 : decode J_315.2.2.1 19 = .ok (.iinc 2 1, 3) := dzq_132 (by decide +kernel)
theorem D_315_22 : decode J_315.2.2.1 22 = .ok (.goto (-15), 3) := dzq_167 (by decide +kernel)
theorem D_315_25 : decode J_315.2.2.1 25 = .ok (.return_, 1) := dzq_177 (by decide +kernel)
def P_315_7 (X : mjX) (d C S kc ks : Nat) (k : Nat → Int32 → mjH → mjU) : Prop := ∀ (l0 : Nat) (l2 : Int32) (hp : mjH) (q : Option Value × mjH), k l0 l2 hp = some q → mjG X d C S J_315 (mjEq q) 7 [some (.ref l0), none, some (.int l2)] [] hp kc ks
def P_315_0 (X : mjX) (d C S kc ks : Nat) (k : Nat → Int32 → mjH → mjU) : Prop := ∀ (l0 : Nat) (l1 : Int32) (hp : mjH) (q : Option Value × mjH), k l0 l1 hp = some q → mjG X d C S J_315 (mjEq q) 0 [some (.ref l0), some (.int l1), none] [] hp kc ks
noncomputable def b_315_7 (R : mjR) (k7 : Nat → Int32 → mjH → mjU) (l0 : Nat) (l2 : Int32) (hp : mjH) : mjU := (if (5 : Int32) ≤ l2 then some (none, hp) else gR hp l0 12 93 (fun v1 => sI hp v1 l2 l2 (fun hp2 => k7 l0 (l2 + (1 : Int32)) hp2)))
theorem t_315_7 {X : mjX} {d C S kc ks : Nat} {R : mjR} (hR : mjC R d) (h1 : kc ≤ C) (h2 : ks ≤ S) {k7 : Nat → Int32 → mjH → mjU} (hk7 : P_315_7 X (d + 1) C S kc ks k7) : P_315_7 X (d + 1) C S kc ks (b_315_7 R k7) := by
  intro l0 l2 hp q h
  unfold b_315_7 at h
  refine mjr_iload_n (x := l2) D_315_7 rfl ?_
  refine mjq_ic (v := (5 : Int32)) D_315_8 rfl ?_
  refine mjq_icmp_ge (tgt := 25) D_315_9 rfl h (fun h => ?_) (fun h => ?_)
  · exact mjq_nret D_315_25 rfl h1 h2 h
  · refine mjr_aload_n (x := l0) D_315_12 rfl ?_
    refine mjq_gR D_315_13 fr_12_221 h (fun v1 h => ?_)
    refine mjr_iload_n (x := l2) D_315_16 rfl ?_
    refine mjr_iload_n (x := l2) D_315_17 rfl ?_
    refine mjq_sI D_315_18 h (fun hp2 h => ?_)
    refine mjq_iinc (x := l2) (c := (1 : Int32)) (lo' := [some (.ref l0), none, some (.int (l2 + (1 : Int32)))]) D_315_19 rfl (Nat.le_of_ble_eq_true rfl) rfl rfl ?_
    refine mjr_goto (tgt := 7) D_315_22 rfl ?_
    exact hk7 _ _ _ _ h
noncomputable def L_315_7 (R : mjR) (n : Nat) : Nat → Int32 → mjH → mjU := Nat.rec (motive := fun _ => Nat → Int32 → mjH → mjU) (fun _ _ _ => none) (fun _ self => b_315_7 R self) n
theorem T_315_7 {X : mjX} {d C S kc ks : Nat} {R : mjR} (hR : mjC R d) (h1 : kc ≤ C) (h2 : ks ≤ S) (n : Nat) : P_315_7 X (d + 1) C S kc ks (L_315_7 R n) := by
  induction n with
  | zero => intro _ _ _ _ h; exact mj_no h
  | succ n ih => exact t_315_7 hR h1 h2 ih
noncomputable def b_315_0 (R : mjR) (l0 : Nat) (l1 : Int32) (hp : mjH) : mjU := pI hp l0 12 95 l1 (fun hp1 => L_315_7 R mjN l0 (0 : Int32) hp1)
theorem t_315_0 {X : mjX} {d C S kc ks : Nat} {R : mjR} (hR : mjC R d) (h1 : kc ≤ C) (h2 : ks ≤ S) : P_315_0 X (d + 1) C S kc ks (b_315_0 R) := by
  intro l0 l1 hp q h
  unfold b_315_0 at h
  refine mjr_aload_n (x := l0) D_315_0 rfl ?_
  refine mjr_iload_n (x := l1) D_315_1 rfl ?_
  refine mjq_pI D_315_2 fr_12_544 rfl rfl h (fun hp1 h => ?_)
  refine mjq_ic (v := (0 : Int32)) D_315_5 rfl ?_
  refine mjq_istore_n (lo' := [some (.ref l0), some (.int l1), some (.int (0 : Int32))]) D_315_6 (Nat.le_of_ble_eq_true rfl) rfl ?_
  exact mjG.fg (lo' := [some (.ref l0), none, some (.int (0 : Int32))]) (And.intro rfl (And.intro rfl True.intro)) ((T_315_7 hR h1 h2 mjN) _ _ _ _ h)
noncomputable def f_315 (R : mjR) (a0 : Nat) (a1 : Int32) (hp : mjH) : mjU := b_315_0 R a0 a1 hp
theorem c_315 {R : mjR} {d : Nat} (hR : mjC R d) {a0 : Nat} {a1 : Int32} {hp : mjH} {q : Option Value × mjH} (h : f_315 R a0 a1 hp = some q) : mjM (d + 1) 0 0 315 [.ref a0, .int a1] hp (mjEq q) :=
  mjM_of Ja_315 (Nat.le_of_ble_eq_true rfl) (mjG.fg (lo' := [some (.ref a0), some (.int a1), none]) (And.intro rfl (And.intro rfl True.intro)) ((t_315_0 hR (Nat.le_refl 0) (Nat.le_refl 0)) a0 a1 hp q h))
def J_316 : mjI := (⟨"OwnerHeapModel", "findMember", "(JIZ)I"⟩, 12, prog_14_method_62_code, 9, (some .int), 3, false)
theorem Ja_316 : mjMt 316 = some J_316 := by rfl
theorem D_316_0 : decode J_316.2.2.1 0 = .ok (.iload 4, 2) := dzq_21 (by decide +kernel)
theorem D_316_2 : decode J_316.2.2.1 2 = .ok (.ifCond .eq 21, 3) := dzq_153 (by decide +kernel)
theorem D_316_5 : decode J_316.2.2.1 5 = .ok (.aload_n 0, 1) := dzq_42 (by decide +kernel)
theorem D_316_6 : decode J_316.2.2.1 6 = .ok (.aload_n 0, 1) := dzq_42 (by decide +kernel)
theorem D_316_7 : decode J_316.2.2.1 7 = .ok (.getfield 544, 3) := dzq_180 (by decide +kernel)
theorem D_316_10 : decode J_316.2.2.1 10 = .ok (.invokevirtual 538, 3) := dzq_182 (by decide +kernel)
theorem D_316_13 : decode J_316.2.2.1 13 = .ok (.iconst (-1), 1) := dzq_2 (by decide +kernel)
theorem D_316_14 : decode J_316.2.2.1 14 = .ok (.if_icmp .ne 5, 3) := dzq_160 (by decide +kernel)
theorem D_316_17 : decode J_316.2.2.1 17 = .ok (.iconst (-1), 1) := dzq_2 (by decide +kernel)
theorem D_316_18 : decode J_316.2.2.1 18 = .ok (.ireturn, 1) := dzq_172 (by decide +kernel)
theorem D_316_19 : decode J_316.2.2.1 19 = .ok (.aload_n 0, 1) := dzq_42 (by decide +kernel)
theorem D_316_20 : decode J_316.2.2.1 20 = .ok (.invokevirtual 550, 3) := dzq_182 (by decide +kernel)
theorem D_316_23 : decode J_316.2.2.1 23 = .ok (.iconst (-1), 1) := dzq_2 (by decide +kernel)
theorem D_316_24 : decode J_316.2.2.1 24 = .ok (.istore 5, 2) := dzq_54 (by decide +kernel)
theorem D_316_26 : decode J_316.2.2.1 26 = .ok (.iconst 1, 1) := dzq_4 (by decide +kernel)
theorem D_316_27 : decode J_316.2.2.1 27 = .ok (.istore 6, 2) := dzq_54 (by decide +kernel)
theorem D_316_29 : decode J_316.2.2.1 29 = .ok (.iload 6, 2) := dzq_21 (by decide +kernel)
theorem D_316_31 : decode J_316.2.2.1 31 = .ok (.ifCond .eq 125, 3) := dzq_153 (by decide +kernel)
theorem D_316_34 : decode J_316.2.2.1 34 = .ok (.aload_n 0, 1) := dzq_42 (by decide +kernel)
theorem D_316_35 : decode J_316.2.2.1 35 = .ok (.getfield 39, 3) := dzq_180 (by decide +kernel)
theorem D_316_38 : decode J_316.2.2.1 38 = .ok (.aload_n 0, 1) := dzq_42 (by decide +kernel)
theorem D_316_39 : decode J_316.2.2.1 39 = .ok (.getfield 544, 3) := dzq_180 (by decide +kernel)
theorem D_316_42 : decode J_316.2.2.1 42 = .ok (.iaload, 1) := dzq_46 (by decide +kernel)
theorem D_316_43 : decode J_316.2.2.1 43 = .ok (.sipush 400, 3) := dzq_17 (by decide +kernel)
theorem D_316_46 : decode J_316.2.2.1 46 = .ok (.aload_n 0, 1) := dzq_42 (by decide +kernel)
theorem D_316_47 : decode J_316.2.2.1 47 = .ok (.getfield 356, 3) := dzq_180 (by decide +kernel)
theorem D_316_50 : decode J_316.2.2.1 50 = .ok (.imul, 1) := dzq_104 (by decide +kernel)
theorem D_316_51 : decode J_316.2.2.1 51 = .ok (.iadd, 1) := dzq_96 (by decide +kernel)
theorem D_316_52 : decode J_316.2.2.1 52 = .ok (.istore 7, 2) := dzq_54 (by decide +kernel)
theorem D_316_54 : decode J_316.2.2.1 54 = .ok (.iload 7, 2) := dzq_21 (by decide +kernel)
theorem D_316_56 : decode J_316.2.2.1 56 = .ok (.istore 8, 2) := dzq_54 (by decide +kernel)
theorem D_316_58 : decode J_316.2.2.1 58 = .ok (.iload 8, 2) := dzq_21 (by decide +kernel)
theorem D_316_60 : decode J_316.2.2.1 60 = .ok (.iload 7, 2) := dzq_21 (by decide +kernel)
theorem D_316_62 : decode J_316.2.2.1 62 = .ok (.aload_n 0, 1) := dzq_42 (by decide +kernel)
theorem D_316_63 : decode J_316.2.2.1 63 = .ok (.getfield 42, 3) := dzq_180 (by decide +kernel)
theorem D_316_66 : decode J_316.2.2.1 66 = .ok (.aload_n 0, 1) := dzq_42 (by decide +kernel)
theorem D_316_67 : decode J_316.2.2.1 67 = .ok (.getfield 544, 3) := dzq_180 (by decide +kernel)
theorem D_316_70 : decode J_316.2.2.1 70 = .ok (.iaload, 1) := dzq_46 (by decide +kernel)
theorem D_316_71 : decode J_316.2.2.1 71 = .ok (.iadd, 1) := dzq_96 (by decide +kernel)
theorem D_316_72 : decode J_316.2.2.1 72 = .ok (.if_icmp .ge 47, 3) := dzq_162 (by decide +kernel)
theorem D_316_75 : decode J_316.2.2.1 75 = .ok (.iload 5, 2) := dzq_21 (by decide +kernel)
theorem D_316_77 : decode J_316.2.2.1 77 = .ok (.iconst (-1), 1) := dzq_2 (by decide +kernel)
theorem D_316_78 : decode J_316.2.2.1 78 = .ok (.if_icmp .ne 41, 3) := dzq_160 (by decide +kernel)
theorem D_316_81 : decode J_316.2.2.1 81 = .ok (.aload_n 0, 1) := dzq_42 (by decide +kernel)
theorem D_316_82 : decode J_316.2.2.1 82 = .ok (.getfield 115, 3) := dzq_180 (by decide +kernel)
theorem D_316_85 : decode J_316.2.2.1 85 = .ok (.iload 8, 2) := dzq_21 (by decide +kernel)
theorem D_316_87 : decode J_316.2.2.1 87 = .ok (.laload, 1) := dzq_47 (by decide +kernel)
theorem D_316_88 : decode J_316.2.2.1 88 = .ok (.lload_n 1, 1) := dzq_31 (by decide +kernel)
theorem D_316_89 : decode J_316.2.2.1 89 = .ok (.lcmp, 1) := by decide +kernel
theorem D_316_90 : decode J_316.2.2.1 90 = .ok (.ifCond .ne 23, 3) := dzq_154 (by decide +kernel)
theorem D_316_93 : decode J_316.2.2.1 93 = .ok (.iload_n 3, 1) := dzq_29 (by decide +kernel)
theorem D_316_94 : decode J_316.2.2.1 94 = .ok (.iconst 2, 1) := dzq_5 (by decide +kernel)
theorem D_316_95 : decode J_316.2.2.1 95 = .ok (.if_icmp .eq 14, 3) := dzq_159 (by decide +kernel)
theorem D_316_98 : decode J_316.2.2.1 98 = .ok (.aload_n 0, 1) := dzq_42 (by decide +kernel)
theorem D_316_99 : decode J_316.2.2.1 99 = .ok (.getfield 94, 3) := dzq_180 (by decide +kernel)
theorem D_316_102 : decode J_316.2.2.1 102 = .ok (.iload 8, 2) := dzq_21 (by decide +kernel)
theorem D_316_104 : decode J_316.2.2.1 104 = .ok (.iaload, 1) := dzq_46 (by decide +kernel)
theorem D_316_105 : decode J_316.2.2.1 105 = .ok (.iload_n 3, 1) := dzq_29 (by decide +kernel)
theorem D_316_106 : decode J_316.2.2.1 106 = .ok (.if_icmp .ne 7, 3) := dzq_160 (by decide +kernel)
theorem D_316_109 : decode J_316.2.2.1 109 = .ok (.iload 8, 2) := dzq_21 (by decide +kernel)
theorem D_316_111 : decode J_316.2.2.1 111 = .ok (.istore 5, 2) := dzq_54 (by decide +kernel)
theorem D_316_113 : decode J_316.2.2.1 113 = .ok (.iinc 8 1, 3) := dzq_132 (by decide +kernel)
theorem D_316_116 : decode J_316.2.2.1 116 = .ok (.goto (-58), 3) := dzq_167 (by decide +kernel)
theorem D_316_119 : decode J_316.2.2.1 119 = .ok (.iload 5, 2) := dzq_21 (by decide +kernel)
theorem D_316_121 : decode J_316.2.2.1 121 = .ok (.iconst (-1), 1) := dzq_2 (by decide +kernel)
theorem D_316_122 : decode J_316.2.2.1 122 = .ok (.if_icmp .ne 19, 3) := dzq_160 (by decide +kernel)
theorem D_316_125 : decode J_316.2.2.1 125 = .ok (.aload_n 0, 1) := dzq_42 (by decide +kernel)
theorem D_316_126 : decode J_316.2.2.1 126 = .ok (.aload_n 0, 1) := dzq_42 (by decide +kernel)
theorem D_316_127 : decode J_316.2.2.1 127 = .ok (.getfield 544, 3) := dzq_180 (by decide +kernel)
theorem D_316_130 : decode J_316.2.2.1 130 = .ok (.invokevirtual 538, 3) := dzq_182 (by decide +kernel)
theorem D_316_133 : decode J_316.2.2.1 133 = .ok (.iconst (-1), 1) := dzq_2 (by decide +kernel)
theorem D_316_134 : decode J_316.2.2.1 134 = .ok (.if_icmp .eq 7, 3) := dzq_159 (by decide +kernel)
theorem D_316_137 : decode J_316.2.2.1 137 = .ok (.iconst 1, 1) := dzq_4 (by decide +kernel)
theorem D_316_138 : decode J_316.2.2.1 138 = .ok (.goto 4, 3) := dzq_167 (by decide +kernel)
theorem D_316_141 : decode J_316.2.2.1 141 = .ok (.iconst 0, 1) := dzq_3 (by decide +kernel)
theorem D_316_142 : decode J_316.2.2.1 142 = .ok (.istore 6, 2) := dzq_54 (by decide +kernel)
theorem D_316_144 : decode J_316.2.2.1 144 = .ok (.iload 6, 2) := dzq_21 (by decide +kernel)
theorem D_316_146 : decode J_316.2.2.1 146 = .ok (.ifCond .eq 7, 3) := dzq_153 (by decide +kernel)
theorem D_316_149 : decode J_316.2.2.1 149 = .ok (.aload_n 0, 1) := dzq_42 (by decide +kernel)
theorem D_316_150 : decode J_316.2.2.1 150 = .ok (.invokevirtual 550, 3) := dzq_182 (by decide +kernel)
theorem D_316_153 : decode J_316.2.2.1 153 = .ok (.goto (-124), 3) := dzq_167 (by decide +kernel)
theorem D_316_156 : decode J_316.2.2.1 156 = .ok (.iload 5, 2) := dzq_21 (by decide +kernel)
theorem D_316_158 : decode J_316.2.2.1 158 = .ok (.ireturn, 1) := dzq_172 (by decide +kernel)
def P_316_153 (X : mjX) (d C S kc ks : Nat) (k : Nat → Int64 → Int32 → Int32 → Int32 → mjH → mjU) : Prop := ∀ (l0 : Nat) (l1 : Int64) (l3 : Int32) (l5 : Int32) (l6 : Int32) (hp : mjH) (q : Option Value × mjH), k l0 l1 l3 l5 l6 hp = some q → mjG X d C S J_316 (mjEq q) 153 [some (.ref l0), some (.long l1), none, some (.int l3), none, some (.int l5), some (.int l6), none, none] [] hp kc ks
def P_316_142 (X : mjX) (d C S kc ks : Nat) (k : Nat → Int64 → Int32 → Int32 → Int32 → mjH → mjU) : Prop := ∀ (l0 : Nat) (l1 : Int64) (l3 : Int32) (l5 : Int32) (s0 : Int32) (hp : mjH) (q : Option Value × mjH), k l0 l1 l3 l5 s0 hp = some q → mjG X d C S J_316 (mjEq q) 142 [some (.ref l0), some (.long l1), none, some (.int l3), none, some (.int l5), none, none, none] [.int s0] hp kc ks
def P_316_141 (X : mjX) (d C S kc ks : Nat) (k : Nat → Int64 → Int32 → Int32 → mjH → mjU) : Prop := ∀ (l0 : Nat) (l1 : Int64) (l3 : Int32) (l5 : Int32) (hp : mjH) (q : Option Value × mjH), k l0 l1 l3 l5 hp = some q → mjG X d C S J_316 (mjEq q) 141 [some (.ref l0), some (.long l1), none, some (.int l3), none, some (.int l5), none, none, none] [] hp kc ks
def P_316_119 (X : mjX) (d C S kc ks : Nat) (k : Nat → Int64 → Int32 → Int32 → mjH → mjU) : Prop := ∀ (l0 : Nat) (l1 : Int64) (l3 : Int32) (l5 : Int32) (hp : mjH) (q : Option Value × mjH), k l0 l1 l3 l5 hp = some q → mjG X d C S J_316 (mjEq q) 119 [some (.ref l0), some (.long l1), none, some (.int l3), none, some (.int l5), none, none, none] [] hp kc ks
def P_316_113 (X : mjX) (d C S kc ks : Nat) (k : Nat → Int64 → Int32 → Int32 → Int32 → Int32 → mjH → mjU) : Prop := ∀ (l0 : Nat) (l1 : Int64) (l3 : Int32) (l5 : Int32) (l7 : Int32) (l8 : Int32) (hp : mjH) (q : Option Value × mjH), k l0 l1 l3 l5 l7 l8 hp = some q → mjG X d C S J_316 (mjEq q) 113 [some (.ref l0), some (.long l1), none, some (.int l3), none, some (.int l5), none, some (.int l7), some (.int l8)] [] hp kc ks
def P_316_109 (X : mjX) (d C S kc ks : Nat) (k : Nat → Int64 → Int32 → Int32 → Int32 → mjH → mjU) : Prop := ∀ (l0 : Nat) (l1 : Int64) (l3 : Int32) (l7 : Int32) (l8 : Int32) (hp : mjH) (q : Option Value × mjH), k l0 l1 l3 l7 l8 hp = some q → mjG X d C S J_316 (mjEq q) 109 [some (.ref l0), some (.long l1), none, some (.int l3), none, none, none, some (.int l7), some (.int l8)] [] hp kc ks
def P_316_58 (X : mjX) (d C S kc ks : Nat) (k : Nat → Int64 → Int32 → Int32 → Int32 → Int32 → mjH → mjU) : Prop := ∀ (l0 : Nat) (l1 : Int64) (l3 : Int32) (l5 : Int32) (l7 : Int32) (l8 : Int32) (hp : mjH) (q : Option Value × mjH), k l0 l1 l3 l5 l7 l8 hp = some q → mjG X d C S J_316 (mjEq q) 58 [some (.ref l0), some (.long l1), none, some (.int l3), none, some (.int l5), none, some (.int l7), some (.int l8)] [] hp kc ks
def P_316_29 (X : mjX) (d C S kc ks : Nat) (k : Nat → Int64 → Int32 → Int32 → Int32 → mjH → mjU) : Prop := ∀ (l0 : Nat) (l1 : Int64) (l3 : Int32) (l5 : Int32) (l6 : Int32) (hp : mjH) (q : Option Value × mjH), k l0 l1 l3 l5 l6 hp = some q → mjG X d C S J_316 (mjEq q) 29 [some (.ref l0), some (.long l1), none, some (.int l3), none, some (.int l5), some (.int l6), none, none] [] hp kc ks
def P_316_23 (X : mjX) (d C S kc ks : Nat) (k : Nat → Int64 → Int32 → mjH → mjU) : Prop := ∀ (l0 : Nat) (l1 : Int64) (l3 : Int32) (hp : mjH) (q : Option Value × mjH), k l0 l1 l3 hp = some q → mjG X d C S J_316 (mjEq q) 23 [some (.ref l0), some (.long l1), none, some (.int l3), none, none, none, none, none] [] hp kc ks
def P_316_0 (X : mjX) (d C S kc ks : Nat) (k : Nat → Int64 → Int32 → Int32 → mjH → mjU) : Prop := ∀ (l0 : Nat) (l1 : Int64) (l3 : Int32) (l4 : Int32) (hp : mjH) (q : Option Value × mjH), k l0 l1 l3 l4 hp = some q → mjG X d C S J_316 (mjEq q) 0 [some (.ref l0), some (.long l1), none, some (.int l3), some (.int l4), none, none, none, none] [] hp kc ks
noncomputable def b_316_153 (R : mjR) (k29 : Nat → Int64 → Int32 → Int32 → Int32 → mjH → mjU) (l0 : Nat) (l1 : Int64) (l3 : Int32) (l5 : Int32) (l6 : Int32) (hp : mjH) : mjU := k29 l0 l1 l3 l5 l6 hp
theorem t_316_153 {X : mjX} {d C S kc ks : Nat} {R : mjR} (hR : mjC R d) (h1 : kc ≤ C) (h2 : ks ≤ S) {k29 : Nat → Int64 → Int32 → Int32 → Int32 → mjH → mjU} (hk29 : P_316_29 X (d + 1) C S kc ks k29) : P_316_153 X (d + 1) C S kc ks (b_316_153 R k29) := by
  intro l0 l1 l3 l5 l6 hp q h
  unfold b_316_153 at h
  refine mjr_goto (tgt := 29) D_316_153 rfl ?_
  exact hk29 _ _ _ _ _ _ _ h
noncomputable def b_316_142 (R : mjR) (k29 : Nat → Int64 → Int32 → Int32 → Int32 → mjH → mjU) (l0 : Nat) (l1 : Int64) (l3 : Int32) (l5 : Int32) (s0 : Int32) (hp : mjH) : mjU := (if s0 = 0 then b_316_153 R k29 l0 l1 l3 l5 s0 hp else rV hp l0 12 (bN (R 317 [.ref l0] hp) (fun  hp1 => b_316_153 R k29 l0 l1 l3 l5 s0 hp1)))
theorem t_316_142 {X : mjX} {d C S kc ks : Nat} {R : mjR} (hR : mjC R d) (h1 : kc ≤ C) (h2 : ks ≤ S) {k29 : Nat → Int64 → Int32 → Int32 → Int32 → mjH → mjU} (hk29 : P_316_29 X (d + 1) C S kc ks k29) : P_316_142 X (d + 1) C S kc ks (b_316_142 R k29) := by
  intro l0 l1 l3 l5 s0 hp q h
  unfold b_316_142 at h
  refine mjq_istore (lo' := [some (.ref l0), some (.long l1), none, some (.int l3), none, some (.int l5), some (.int s0), none, none]) D_316_142 (Nat.le_of_ble_eq_true rfl) rfl ?_
  refine mjr_iload (x := s0) D_316_144 rfl ?_
  refine mjq_if_eq (tgt := 153) D_316_146 rfl h (fun h => ?_) (fun h => ?_)
  · exact (t_316_153 hR h1 h2 hk29) _ _ _ _ _ _ _ h
  · refine mjr_aload_n (x := l0) D_316_149 rfl ?_
    refine mjq_vN (As := []) (rest := []) D_316_150 mr_12_550 V_317 rfl rfl rfl hR (Nat.le_refl _) h1 h2 h (fun  hp1 h => ?_)
    exact (t_316_153 hR h1 h2 hk29) _ _ _ _ _ _ _ h
noncomputable def b_316_141 (R : mjR) (k29 : Nat → Int64 → Int32 → Int32 → Int32 → mjH → mjU) (l0 : Nat) (l1 : Int64) (l3 : Int32) (l5 : Int32) (hp : mjH) : mjU := b_316_142 R k29 l0 l1 l3 l5 (0 : Int32) hp
theorem t_316_141 {X : mjX} {d C S kc ks : Nat} {R : mjR} (hR : mjC R d) (h1 : kc ≤ C) (h2 : ks ≤ S) {k29 : Nat → Int64 → Int32 → Int32 → Int32 → mjH → mjU} (hk29 : P_316_29 X (d + 1) C S kc ks k29) : P_316_141 X (d + 1) C S kc ks (b_316_141 R k29) := by
  intro l0 l1 l3 l5 hp q h
  unfold b_316_141 at h
  refine mjq_ic (v := (0 : Int32)) D_316_141 rfl ?_
  exact (t_316_142 hR h1 h2 hk29) _ _ _ _ _ _ _ h
noncomputable def b_316_119 (R : mjR) (k29 : Nat → Int64 → Int32 → Int32 → Int32 → mjH → mjU) (l0 : Nat) (l1 : Int64) (l3 : Int32) (l5 : Int32) (hp : mjH) : mjU := (if l5 = (-1 : Int32) then gI hp l0 12 95 (fun v1 => rV hp l0 12 (bI (R 242 [.ref l0, .int v1] hp) (fun v2 hp3 => (if v2 = (-1 : Int32) then b_316_141 R k29 l0 l1 l3 l5 hp3 else b_316_142 R k29 l0 l1 l3 l5 (1 : Int32) hp3)))) else b_316_141 R k29 l0 l1 l3 l5 hp)
theorem t_316_119 {X : mjX} {d C S kc ks : Nat} {R : mjR} (hR : mjC R d) (h1 : kc ≤ C) (h2 : ks ≤ S) {k29 : Nat → Int64 → Int32 → Int32 → Int32 → mjH → mjU} (hk29 : P_316_29 X (d + 1) C S kc ks k29) : P_316_119 X (d + 1) C S kc ks (b_316_119 R k29) := by
  intro l0 l1 l3 l5 hp q h
  unfold b_316_119 at h
  refine mjr_iload (x := l5) D_316_119 rfl ?_
  refine mjq_ic (v := (-1 : Int32)) D_316_121 rfl ?_
  refine mjq_icmp_ne (tgt := 141) D_316_122 rfl h (fun h => ?_) (fun h => ?_)
  · exact (t_316_141 hR h1 h2 hk29) _ _ _ _ _ _ h
  · refine mjr_aload_n (x := l0) D_316_125 rfl ?_
    refine mjr_aload_n (x := l0) D_316_126 rfl ?_
    refine mjq_gI D_316_127 fr_12_544 h (fun v1 h => ?_)
    refine mjq_vI (As := [.int v1]) (rest := []) D_316_130 mr_12_538 V_242 rfl rfl rfl hR (Nat.le_refl _) h1 h2 h (fun v2 hp3 h => ?_)
    refine mjq_ic (v := (-1 : Int32)) D_316_133 rfl ?_
    refine mjq_icmp_eq (tgt := 141) D_316_134 rfl h (fun h => ?_) (fun h => ?_)
    · exact (t_316_141 hR h1 h2 hk29) _ _ _ _ _ _ h
    · refine mjq_ic (v := (1 : Int32)) D_316_137 rfl ?_
      refine mjr_goto (tgt := 142) D_316_138 rfl ?_
      exact (t_316_142 hR h1 h2 hk29) _ _ _ _ _ _ _ h
noncomputable def b_316_113 (R : mjR) (k29 : Nat → Int64 → Int32 → Int32 → Int32 → mjH → mjU) (k58 : Nat → Int64 → Int32 → Int32 → Int32 → Int32 → mjH → mjU) (l0 : Nat) (l1 : Int64) (l3 : Int32) (l5 : Int32) (l7 : Int32) (l8 : Int32) (hp : mjH) : mjU := k58 l0 l1 l3 l5 l7 (l8 + (1 : Int32)) hp
theorem t_316_113 {X : mjX} {d C S kc ks : Nat} {R : mjR} (hR : mjC R d) (h1 : kc ≤ C) (h2 : ks ≤ S) {k29 : Nat → Int64 → Int32 → Int32 → Int32 → mjH → mjU} (hk29 : P_316_29 X (d + 1) C S kc ks k29) {k58 : Nat → Int64 → Int32 → Int32 → Int32 → Int32 → mjH → mjU} (hk58 : P_316_58 X (d + 1) C S kc ks k58) : P_316_113 X (d + 1) C S kc ks (b_316_113 R k29 k58) := by
  intro l0 l1 l3 l5 l7 l8 hp q h
  unfold b_316_113 at h
  refine mjq_iinc (x := l8) (c := (1 : Int32)) (lo' := [some (.ref l0), some (.long l1), none, some (.int l3), none, some (.int l5), none, some (.int l7), some (.int (l8 + (1 : Int32)))]) D_316_113 rfl (Nat.le_of_ble_eq_true rfl) rfl rfl ?_
  refine mjr_goto (tgt := 58) D_316_116 rfl ?_
  exact hk58 _ _ _ _ _ _ _ _ h
noncomputable def b_316_109 (R : mjR) (k29 : Nat → Int64 → Int32 → Int32 → Int32 → mjH → mjU) (k58 : Nat → Int64 → Int32 → Int32 → Int32 → Int32 → mjH → mjU) (l0 : Nat) (l1 : Int64) (l3 : Int32) (l7 : Int32) (l8 : Int32) (hp : mjH) : mjU := b_316_113 R k29 k58 l0 l1 l3 l8 l7 l8 hp
theorem t_316_109 {X : mjX} {d C S kc ks : Nat} {R : mjR} (hR : mjC R d) (h1 : kc ≤ C) (h2 : ks ≤ S) {k29 : Nat → Int64 → Int32 → Int32 → Int32 → mjH → mjU} (hk29 : P_316_29 X (d + 1) C S kc ks k29) {k58 : Nat → Int64 → Int32 → Int32 → Int32 → Int32 → mjH → mjU} (hk58 : P_316_58 X (d + 1) C S kc ks k58) : P_316_109 X (d + 1) C S kc ks (b_316_109 R k29 k58) := by
  intro l0 l1 l3 l7 l8 hp q h
  unfold b_316_109 at h
  refine mjr_iload (x := l8) D_316_109 rfl ?_
  refine mjq_istore (lo' := [some (.ref l0), some (.long l1), none, some (.int l3), none, some (.int l8), none, some (.int l7), some (.int l8)]) D_316_111 (Nat.le_of_ble_eq_true rfl) rfl ?_
  exact (t_316_113 hR h1 h2 hk29 hk58) _ _ _ _ _ _ _ _ h
noncomputable def b_316_58 (R : mjR) (k29 : Nat → Int64 → Int32 → Int32 → Int32 → mjH → mjU) (k58 : Nat → Int64 → Int32 → Int32 → Int32 → Int32 → mjH → mjU) (l0 : Nat) (l1 : Int64) (l3 : Int32) (l5 : Int32) (l7 : Int32) (l8 : Int32) (hp : mjH) : mjU := gR hp l0 12 19 (fun v1 => gI hp l0 12 95 (fun v2 => aI hp v1 v2 (fun v3 => (if (l7 + v3) ≤ l8 then b_316_119 R k29 l0 l1 l3 l5 hp else (if l5 = (-1 : Int32) then gR hp l0 12 43 (fun v4 => aL hp v4 l8 (fun v5 => (if (lg_cmp v5 l1) = 0 then (if l3 = (2 : Int32) then b_316_109 R k29 k58 l0 l1 l3 l7 l8 hp else gR hp l0 12 36 (fun v6 => aI hp v6 l8 (fun v7 => (if v7 = l3 then b_316_109 R k29 k58 l0 l1 l3 l7 l8 hp else b_316_113 R k29 k58 l0 l1 l3 l5 l7 l8 hp)))) else b_316_113 R k29 k58 l0 l1 l3 l5 l7 l8 hp))) else b_316_119 R k29 l0 l1 l3 l5 hp)))))
theorem t_316_58 {X : mjX} {d C S kc ks : Nat} {R : mjR} (hR : mjC R d) (h1 : kc ≤ C) (h2 : ks ≤ S) {k29 : Nat → Int64 → Int32 → Int32 → Int32 → mjH → mjU} (hk29 : P_316_29 X (d + 1) C S kc ks k29) {k58 : Nat → Int64 → Int32 → Int32 → Int32 → Int32 → mjH → mjU} (hk58 : P_316_58 X (d + 1) C S kc ks k58) : P_316_58 X (d + 1) C S kc ks (b_316_58 R k29 k58) := by
  intro l0 l1 l3 l5 l7 l8 hp q h
  unfold b_316_58 at h
  refine mjr_iload (x := l8) D_316_58 rfl ?_
  refine mjr_iload (x := l7) D_316_60 rfl ?_
  refine mjr_aload_n (x := l0) D_316_62 rfl ?_
  refine mjq_gR D_316_63 fr_12_42 h (fun v1 h => ?_)
  refine mjr_aload_n (x := l0) D_316_66 rfl ?_
  refine mjq_gI D_316_67 fr_12_544 h (fun v2 h => ?_)
  refine mjq_aI D_316_70 h (fun v3 h => ?_)
  refine mjr_iadd D_316_71 ?_
  refine mjq_icmp_ge (tgt := 119) D_316_72 rfl h (fun h => ?_) (fun h => ?_)
  · exact mjG.fg (lo' := [some (.ref l0), some (.long l1), none, some (.int l3), none, some (.int l5), none, none, none]) (And.intro rfl (And.intro rfl (And.intro rfl (And.intro rfl True.intro)))) ((t_316_119 hR h1 h2 hk29) _ _ _ _ _ _ h)
  · refine mjr_iload (x := l5) D_316_75 rfl ?_
    refine mjq_ic (v := (-1 : Int32)) D_316_77 rfl ?_
    refine mjq_icmp_ne (tgt := 119) D_316_78 rfl h (fun h => ?_) (fun h => ?_)
    · exact mjG.fg (lo' := [some (.ref l0), some (.long l1), none, some (.int l3), none, some (.int l5), none, none, none]) (And.intro rfl (And.intro rfl (And.intro rfl (And.intro rfl True.intro)))) ((t_316_119 hR h1 h2 hk29) _ _ _ _ _ _ h)
    · refine mjr_aload_n (x := l0) D_316_81 rfl ?_
      refine mjq_gR D_316_82 fr_12_115 h (fun v4 h => ?_)
      refine mjr_iload (x := l8) D_316_85 rfl ?_
      refine mjq_aL D_316_87 h (fun v5 h => ?_)
      refine mjr_lload_n (x := l1) D_316_88 rfl ?_
      refine mjr_lcmp D_316_89 ?_
      refine mjq_if_ne (tgt := 113) D_316_90 rfl h (fun h => ?_) (fun h => ?_)
      · exact (t_316_113 hR h1 h2 hk29 hk58) _ _ _ _ _ _ _ _ h
      · refine mjr_iload_n (x := l3) D_316_93 rfl ?_
        refine mjq_ic (v := (2 : Int32)) D_316_94 rfl ?_
        refine mjq_icmp_eq (tgt := 109) D_316_95 rfl h (fun h => ?_) (fun h => ?_)
        · exact mjG.fg (lo' := [some (.ref l0), some (.long l1), none, some (.int l3), none, none, none, some (.int l7), some (.int l8)]) (And.intro rfl (And.intro rfl (And.intro rfl (And.intro rfl (And.intro rfl True.intro))))) ((t_316_109 hR h1 h2 hk29 hk58) _ _ _ _ _ _ _ h)
        · refine mjr_aload_n (x := l0) D_316_98 rfl ?_
          refine mjq_gR D_316_99 fr_12_94 h (fun v6 h => ?_)
          refine mjr_iload (x := l8) D_316_102 rfl ?_
          refine mjq_aI D_316_104 h (fun v7 h => ?_)
          refine mjr_iload_n (x := l3) D_316_105 rfl ?_
          refine mjq_icmp_ne (tgt := 113) D_316_106 rfl h (fun h => ?_) (fun h => ?_)
          · exact (t_316_113 hR h1 h2 hk29 hk58) _ _ _ _ _ _ _ _ h
          · exact mjG.fg (lo' := [some (.ref l0), some (.long l1), none, some (.int l3), none, none, none, some (.int l7), some (.int l8)]) (And.intro rfl (And.intro rfl (And.intro rfl (And.intro rfl (And.intro rfl True.intro))))) ((t_316_109 hR h1 h2 hk29 hk58) _ _ _ _ _ _ _ h)
noncomputable def L_316_58 (R : mjR) (k29 : Nat → Int64 → Int32 → Int32 → Int32 → mjH → mjU) (n : Nat) : Nat → Int64 → Int32 → Int32 → Int32 → Int32 → mjH → mjU := Nat.rec (motive := fun _ => Nat → Int64 → Int32 → Int32 → Int32 → Int32 → mjH → mjU) (fun _ _ _ _ _ _ _ => none) (fun _ self => b_316_58 R k29 self) n
theorem T_316_58 {X : mjX} {d C S kc ks : Nat} {R : mjR} (hR : mjC R d) (h1 : kc ≤ C) (h2 : ks ≤ S) {k29 : Nat → Int64 → Int32 → Int32 → Int32 → mjH → mjU} (hk29 : P_316_29 X (d + 1) C S kc ks k29) (n : Nat) : P_316_58 X (d + 1) C S kc ks (L_316_58 R k29 n) := by
  induction n with
  | zero => intro _ _ _ _ _ _ _ _ h; exact mj_no h
  | succ n ih => exact t_316_58 hR h1 h2 hk29 ih
noncomputable def b_316_29 (R : mjR) (k29 : Nat → Int64 → Int32 → Int32 → Int32 → mjH → mjU) (l0 : Nat) (l1 : Int64) (l3 : Int32) (l5 : Int32) (l6 : Int32) (hp : mjH) : mjU := (if l6 = 0 then some (some (.int l5), hp) else gR hp l0 12 18 (fun v1 => gI hp l0 12 95 (fun v2 => aI hp v1 v2 (fun v3 => gI hp l0 12 63 (fun v4 => L_316_58 R k29 mjN l0 l1 l3 l5 (v3 + ((400 : Int32) * v4)) (v3 + ((400 : Int32) * v4)) hp)))))
theorem t_316_29 {X : mjX} {d C S kc ks : Nat} {R : mjR} (hR : mjC R d) (h1 : kc ≤ C) (h2 : ks ≤ S) {k29 : Nat → Int64 → Int32 → Int32 → Int32 → mjH → mjU} (hk29 : P_316_29 X (d + 1) C S kc ks k29) : P_316_29 X (d + 1) C S kc ks (b_316_29 R k29) := by
  intro l0 l1 l3 l5 l6 hp q h
  unfold b_316_29 at h
  refine mjr_iload (x := l6) D_316_29 rfl ?_
  refine mjq_if_eq (tgt := 156) D_316_31 rfl h (fun h => ?_) (fun h => ?_)
  · refine mjr_iload (x := l5) D_316_156 rfl ?_
    exact mjq_ret D_316_158 rfl h1 h2 h
  · refine mjr_aload_n (x := l0) D_316_34 rfl ?_
    refine mjq_gR D_316_35 fr_12_39 h (fun v1 h => ?_)
    refine mjr_aload_n (x := l0) D_316_38 rfl ?_
    refine mjq_gI D_316_39 fr_12_544 h (fun v2 h => ?_)
    refine mjq_aI D_316_42 h (fun v3 h => ?_)
    refine mjq_si (v := (400 : Int32)) D_316_43 rfl ?_
    refine mjr_aload_n (x := l0) D_316_46 rfl ?_
    refine mjq_gI D_316_47 fr_12_356 h (fun v4 h => ?_)
    refine mjr_imul D_316_50 ?_
    refine mjr_iadd D_316_51 ?_
    refine mjq_istore (lo' := [some (.ref l0), some (.long l1), none, some (.int l3), none, some (.int l5), some (.int l6), some (.int (v3 + ((400 : Int32) * v4))), none]) D_316_52 (Nat.le_of_ble_eq_true rfl) rfl ?_
    refine mjr_iload (x := (v3 + ((400 : Int32) * v4))) D_316_54 rfl ?_
    refine mjq_istore (lo' := [some (.ref l0), some (.long l1), none, some (.int l3), none, some (.int l5), some (.int l6), some (.int (v3 + ((400 : Int32) * v4))), some (.int (v3 + ((400 : Int32) * v4)))]) D_316_56 (Nat.le_of_ble_eq_true rfl) rfl ?_
    exact mjG.fg (lo' := [some (.ref l0), some (.long l1), none, some (.int l3), none, some (.int l5), none, some (.int (v3 + ((400 : Int32) * v4))), some (.int (v3 + ((400 : Int32) * v4)))]) (And.intro rfl (And.intro rfl (And.intro rfl (And.intro rfl (And.intro rfl (And.intro rfl True.intro)))))) ((T_316_58 hR h1 h2 hk29 mjN) _ _ _ _ _ _ _ _ h)
noncomputable def L_316_29 (R : mjR) (n : Nat) : Nat → Int64 → Int32 → Int32 → Int32 → mjH → mjU := Nat.rec (motive := fun _ => Nat → Int64 → Int32 → Int32 → Int32 → mjH → mjU) (fun _ _ _ _ _ _ => none) (fun _ self => b_316_29 R self) n
theorem T_316_29 {X : mjX} {d C S kc ks : Nat} {R : mjR} (hR : mjC R d) (h1 : kc ≤ C) (h2 : ks ≤ S) (n : Nat) : P_316_29 X (d + 1) C S kc ks (L_316_29 R n) := by
  induction n with
  | zero => intro _ _ _ _ _ _ _ h; exact mj_no h
  | succ n ih => exact t_316_29 hR h1 h2 ih
noncomputable def b_316_23 (R : mjR) (l0 : Nat) (l1 : Int64) (l3 : Int32) (hp : mjH) : mjU := L_316_29 R mjN l0 l1 l3 (-1 : Int32) (1 : Int32) hp
theorem t_316_23 {X : mjX} {d C S kc ks : Nat} {R : mjR} (hR : mjC R d) (h1 : kc ≤ C) (h2 : ks ≤ S) : P_316_23 X (d + 1) C S kc ks (b_316_23 R) := by
  intro l0 l1 l3 hp q h
  unfold b_316_23 at h
  refine mjq_ic (v := (-1 : Int32)) D_316_23 rfl ?_
  refine mjq_istore (lo' := [some (.ref l0), some (.long l1), none, some (.int l3), none, some (.int (-1 : Int32)), none, none, none]) D_316_24 (Nat.le_of_ble_eq_true rfl) rfl ?_
  refine mjq_ic (v := (1 : Int32)) D_316_26 rfl ?_
  refine mjq_istore (lo' := [some (.ref l0), some (.long l1), none, some (.int l3), none, some (.int (-1 : Int32)), some (.int (1 : Int32)), none, none]) D_316_27 (Nat.le_of_ble_eq_true rfl) rfl ?_
  exact (T_316_29 hR h1 h2 mjN) _ _ _ _ _ _ _ h
noncomputable def b_316_0 (R : mjR) (l0 : Nat) (l1 : Int64) (l3 : Int32) (l4 : Int32) (hp : mjH) : mjU := (if l4 = 0 then b_316_23 R l0 l1 l3 hp else gI hp l0 12 95 (fun v1 => rV hp l0 12 (bI (R 242 [.ref l0, .int v1] hp) (fun v2 hp3 => (if v2 = (-1 : Int32) then some (some (.int (-1 : Int32)), hp3) else rV hp3 l0 12 (bN (R 317 [.ref l0] hp3) (fun  hp4 => b_316_23 R l0 l1 l3 hp4)))))))
theorem t_316_0 {X : mjX} {d C S kc ks : Nat} {R : mjR} (hR : mjC R d) (h1 : kc ≤ C) (h2 : ks ≤ S) : P_316_0 X (d + 1) C S kc ks (b_316_0 R) := by
  intro l0 l1 l3 l4 hp q h
  unfold b_316_0 at h
  refine mjr_iload (x := l4) D_316_0 rfl ?_
  refine mjq_if_eq (tgt := 23) D_316_2 rfl h (fun h => ?_) (fun h => ?_)
  · exact mjG.fg (lo' := [some (.ref l0), some (.long l1), none, some (.int l3), none, none, none, none, none]) (And.intro rfl (And.intro rfl (And.intro rfl True.intro))) ((t_316_23 hR h1 h2) _ _ _ _ _ h)
  · refine mjr_aload_n (x := l0) D_316_5 rfl ?_
    refine mjr_aload_n (x := l0) D_316_6 rfl ?_
    refine mjq_gI D_316_7 fr_12_544 h (fun v1 h => ?_)
    refine mjq_vI (As := [.int v1]) (rest := []) D_316_10 mr_12_538 V_242 rfl rfl rfl hR (Nat.le_refl _) h1 h2 h (fun v2 hp3 h => ?_)
    refine mjq_ic (v := (-1 : Int32)) D_316_13 rfl ?_
    refine mjq_icmp_ne (tgt := 19) D_316_14 rfl h (fun h => ?_) (fun h => ?_)
    · refine mjr_aload_n (x := l0) D_316_19 rfl ?_
      refine mjq_vN (As := []) (rest := []) D_316_20 mr_12_550 V_317 rfl rfl rfl hR (Nat.le_refl _) h1 h2 h (fun  hp4 h => ?_)
      exact mjG.fg (lo' := [some (.ref l0), some (.long l1), none, some (.int l3), none, none, none, none, none]) (And.intro rfl (And.intro rfl (And.intro rfl True.intro))) ((t_316_23 hR h1 h2) _ _ _ _ _ h)
    · refine mjq_ic (v := (-1 : Int32)) D_316_17 rfl ?_
      exact mjq_ret D_316_18 rfl h1 h2 h
noncomputable def f_316 (R : mjR) (a0 : Nat) (a1 : Int64) (a2 : Int32) (a3 : Int32) (hp : mjH) : mjU := b_316_0 R a0 a1 a2 a3 hp
theorem c_316 {R : mjR} {d : Nat} (hR : mjC R d) {a0 : Nat} {a1 : Int64} {a2 : Int32} {a3 : Int32} {hp : mjH} {q : Option Value × mjH} (h : f_316 R a0 a1 a2 a3 hp = some q) : mjM (d + 1) 0 0 316 [.ref a0, .long a1, .int a2, .int a3] hp (mjEq q) :=
  mjM_of Ja_316 (Nat.le_of_ble_eq_true rfl) (mjG.fg (lo' := [some (.ref a0), some (.long a1), none, some (.int a2), some (.int a3), none, none, none, none]) (And.intro rfl (And.intro rfl (And.intro rfl (And.intro rfl True.intro)))) ((t_316_0 hR (Nat.le_refl 0) (Nat.le_refl 0)) a0 a1 a2 a3 hp q h))
def J_317 : mjI := (⟨"OwnerHeapModel", "rise", "()V"⟩, 12, prog_14_method_60_code, 3, none, 0, false)
theorem Ja_317 : mjMt 317 = some J_317 := by rfl
theorem D_317_0 : decode J_317.2.2.1 0 = .ok (.aload_n 0, 1) := dzq_42 (by decide +kernel)
theorem D_317_1 : decode J_317.2.2.1 1 = .ok (.getfield 33, 3) := dzq_180 (by decide +kernel)
theorem D_317_4 : decode J_317.2.2.1 4 = .ok (.aload_n 0, 1) := dzq_42 (by decide +kernel)
theorem D_317_5 : decode J_317.2.2.1 5 = .ok (.getfield 544, 3) := dzq_180 (by decide +kernel)
theorem D_317_8 : decode J_317.2.2.1 8 = .ok (.iaload, 1) := dzq_46 (by decide +kernel)
theorem D_317_9 : decode J_317.2.2.1 9 = .ok (.istore_n 1, 1) := dzq_60 (by decide +kernel)
theorem D_317_10 : decode J_317.2.2.1 10 = .ok (.iconst 0, 1) := dzq_3 (by decide +kernel)
theorem D_317_11 : decode J_317.2.2.1 11 = .ok (.istore_n 2, 1) := dzq_61 (by decide +kernel)
theorem D_317_12 : decode J_317.2.2.1 12 = .ok (.iload_n 2, 1) := dzq_28 (by decide +kernel)
theorem D_317_13 : decode J_317.2.2.1 13 = .ok (.iconst 5, 1) := dzq_8 (by decide +kernel)
theorem D_317_14 : decode J_317.2.2.1 14 = .ok (.if_icmp .ge 43, 3) := dzq_162 (by decide +kernel)
theorem D_317_17 : decode J_317.2.2.1 17 = .ok (.aload_n 0, 1) := dzq_42 (by decide +kernel)
theorem D_317_18 : decode J_317.2.2.1 18 = .ok (.getfield 224, 3) := dzq_180 (by decide +kernel)
theorem D_317_21 : decode J_317.2.2.1 21 = .ok (.iload_n 2, 1) := dzq_28 (by decide +kernel)
theorem D_317_22 : decode J_317.2.2.1 22 = .ok (.iload_n 2, 1) := dzq_28 (by decide +kernel)
theorem D_317_23 : decode J_317.2.2.1 23 = .ok (.aload_n 0, 1) := dzq_42 (by decide +kernel)
theorem D_317_24 : decode J_317.2.2.1 24 = .ok (.getfield 133, 3) := dzq_180 (by decide +kernel)
theorem D_317_27 : decode J_317.2.2.1 27 = .ok (.iload_n 1, 1) := dzq_27 (by decide +kernel)
theorem D_317_28 : decode J_317.2.2.1 28 = .ok (.iaload, 1) := dzq_46 (by decide +kernel)
theorem D_317_29 : decode J_317.2.2.1 29 = .ok (.if_icmp .ge 20, 3) := dzq_162 (by decide +kernel)
theorem D_317_32 : decode J_317.2.2.1 32 = .ok (.aload_n 0, 1) := dzq_42 (by decide +kernel)
theorem D_317_33 : decode J_317.2.2.1 33 = .ok (.aload_n 0, 1) := dzq_42 (by decide +kernel)
theorem D_317_34 : decode J_317.2.2.1 34 = .ok (.getfield 145, 3) := dzq_180 (by decide +kernel)
theorem D_317_37 : decode J_317.2.2.1 37 = .ok (.iconst 5, 1) := dzq_8 (by decide +kernel)
theorem D_317_38 : decode J_317.2.2.1 38 = .ok (.iload_n 1, 1) := dzq_27 (by decide +kernel)
theorem D_317_39 : decode J_317.2.2.1 39 = .ok (.imul, 1) := dzq_104 (by decide +kernel)
theorem D_317_40 : decode J_317.2.2.1 40 = .ok (.iload_n 2, 1) := dzq_28 (by decide +kernel)
theorem D_317_41 : decode J_317.2.2.1 41 = .ok (.iadd, 1) := dzq_96 (by decide +kernel)
theorem D_317_42 : decode J_317.2.2.1 42 = .ok (.iaload, 1) := dzq_46 (by decide +kernel)
theorem D_317_43 : decode J_317.2.2.1 43 = .ok (.invokevirtual 547, 3) := dzq_182 (by decide +kernel)
theorem D_317_46 : decode J_317.2.2.1 46 = .ok (.goto 4, 3) := dzq_167 (by decide +kernel)
theorem D_317_49 : decode J_317.2.2.1 49 = .ok (.iconst 0, 1) := dzq_3 (by decide +kernel)
theorem D_317_50 : decode J_317.2.2.1 50 = .ok (.iastore, 1) := dzq_79 (by decide +kernel)
theorem D_317_51 : decode J_317.2.2.1 51 = .ok (.iinc 2 1, 3) := dzq_132 (by decide +kernel)
theorem D_317_54 : decode J_317.2.2.1 54 = .ok (.goto (-42), 3) := dzq_167 (by decide +kernel)
theorem D_317_57 : decode J_317.2.2.1 57 = .ok (.iconst 0, 1) := dzq_3 (by decide +kernel)
theorem D_317_58 : decode J_317.2.2.1 58 = .ok (.istore_n 2, 1) := dzq_61 (by decide +kernel)
theorem D_317_59 : decode J_317.2.2.1 59 = .ok (.iload_n 2, 1) := dzq_28 (by decide +kernel)
theorem D_317_60 : decode J_317.2.2.1 60 = .ok (.iconst 5, 1) := dzq_8 (by decide +kernel)
theorem D_317_61 : decode J_317.2.2.1 61 = .ok (.if_icmp .ge 21, 3) := dzq_162 (by decide +kernel)
theorem D_317_64 : decode J_317.2.2.1 64 = .ok (.aload_n 0, 1) := dzq_42 (by decide +kernel)
theorem D_317_65 : decode J_317.2.2.1 65 = .ok (.getfield 221, 3) := dzq_180 (by decide +kernel)
theorem D_317_68 : decode J_317.2.2.1 68 = .ok (.iload_n 2, 1) := dzq_28 (by decide +kernel)
theorem D_317_69 : decode J_317.2.2.1 69 = .ok (.aload_n 0, 1) := dzq_42 (by decide +kernel)
theorem D_317_70 : decode J_317.2.2.1 70 = .ok (.getfield 224, 3) := dzq_180 (by decide +kernel)
theorem D_317_73 : decode J_317.2.2.1 73 = .ok (.iload_n 2, 1) := dzq_28 (by decide +kernel)
theorem D_317_74 : decode J_317.2.2.1 74 = .ok (.iaload, 1) := dzq_46 (by decide +kernel)
theorem D_317_75 : decode J_317.2.2.1 75 = .ok (.iastore, 1) := dzq_79 (by decide +kernel)
theorem D_317_76 : decode J_317.2.2.1 76 = .ok (.iinc 2 1, 3) := dzq_132 (by decide +kernel)
theorem D_317_79 : decode J_317.2.2.1 79 = .ok (.goto (-20), 3) := dzq_167 (by decide +kernel)
theorem D_317_82 : decode J_317.2.2.1 82 = .ok (.aload_n 0, 1) := dzq_42 (by decide +kernel)
theorem D_317_83 : decode J_317.2.2.1 83 = .ok (.aload_n 0, 1) := dzq_42 (by decide +kernel)
theorem D_317_84 : decode J_317.2.2.1 84 = .ok (.getfield 136, 3) := dzq_180 (by decide +kernel)
theorem D_317_87 : decode J_317.2.2.1 87 = .ok (.iload_n 1, 1) := dzq_27 (by decide +kernel)
theorem D_317_88 : decode J_317.2.2.1 88 = .ok (.iaload, 1) := dzq_46 (by decide +kernel)
theorem D_317_89 : decode J_317.2.2.1 89 = .ok (.putfield 544, 3) := dzq_181 (by decide +kernel)
theorem D_317_92 : decode J_317.2.2.1 92 = .ok (.return_, 1) := dzq_177 (by decide +kernel)
def P_317_59 (X : mjX) (d C S kc ks : Nat) (k : Nat → Int32 → Int32 → mjH → mjU) : Prop := ∀ (l0 : Nat) (l1 : Int32) (l2 : Int32) (hp : mjH) (q : Option Value × mjH), k l0 l1 l2 hp = some q → mjG X d C S J_317 (mjEq q) 59 [some (.ref l0), some (.int l1), some (.int l2)] [] hp kc ks
def P_317_50 (X : mjX) (d C S kc ks : Nat) (k : Nat → Int32 → Int32 → Nat → Int32 → Int32 → mjH → mjU) : Prop := ∀ (l0 : Nat) (l1 : Int32) (l2 : Int32) (s0 : Nat) (s1 : Int32) (s2 : Int32) (hp : mjH) (q : Option Value × mjH), k l0 l1 l2 s0 s1 s2 hp = some q → mjG X d C S J_317 (mjEq q) 50 [some (.ref l0), some (.int l1), some (.int l2)] [.int s2, .int s1, .ref s0] hp kc ks
def P_317_12 (X : mjX) (d C S kc ks : Nat) (k : Nat → Int32 → Int32 → mjH → mjU) : Prop := ∀ (l0 : Nat) (l1 : Int32) (l2 : Int32) (hp : mjH) (q : Option Value × mjH), k l0 l1 l2 hp = some q → mjG X d C S J_317 (mjEq q) 12 [some (.ref l0), some (.int l1), some (.int l2)] [] hp kc ks
def P_317_0 (X : mjX) (d C S kc ks : Nat) (k : Nat → mjH → mjU) : Prop := ∀ (l0 : Nat) (hp : mjH) (q : Option Value × mjH), k l0 hp = some q → mjG X d C S J_317 (mjEq q) 0 [some (.ref l0), none, none] [] hp kc ks
noncomputable def b_317_59 (R : mjR) (k59 : Nat → Int32 → Int32 → mjH → mjU) (l0 : Nat) (l1 : Int32) (l2 : Int32) (hp : mjH) : mjU := (if (5 : Int32) ≤ l2 then gR hp l0 12 50 (fun v1 => aI hp v1 l1 (fun v2 => pI hp l0 12 95 v2 (fun hp3 => some (none, hp3)))) else gR hp l0 12 93 (fun v4 => gR hp l0 12 94 (fun v5 => aI hp v5 l2 (fun v6 => sI hp v4 l2 v6 (fun hp7 => k59 l0 l1 (l2 + (1 : Int32)) hp7)))))
theorem t_317_59 {X : mjX} {d C S kc ks : Nat} {R : mjR} (hR : mjC R d) (h1 : kc ≤ C) (h2 : ks ≤ S) {k59 : Nat → Int32 → Int32 → mjH → mjU} (hk59 : P_317_59 X (d + 1) C S kc ks k59) : P_317_59 X (d + 1) C S kc ks (b_317_59 R k59) := by
  intro l0 l1 l2 hp q h
  unfold b_317_59 at h
  refine mjr_iload_n (x := l2) D_317_59 rfl ?_
  refine mjq_ic (v := (5 : Int32)) D_317_60 rfl ?_
  refine mjq_icmp_ge (tgt := 82) D_317_61 rfl h (fun h => ?_) (fun h => ?_)
  · refine mjr_aload_n (x := l0) D_317_82 rfl ?_
    refine mjr_aload_n (x := l0) D_317_83 rfl ?_
    refine mjq_gR D_317_84 fr_12_136 h (fun v1 h => ?_)
    refine mjr_iload_n (x := l1) D_317_87 rfl ?_
    refine mjq_aI D_317_88 h (fun v2 h => ?_)
    refine mjq_pI D_317_89 fr_12_544 rfl rfl h (fun hp3 h => ?_)
    exact mjq_nret D_317_92 rfl h1 h2 h
  · refine mjr_aload_n (x := l0) D_317_64 rfl ?_
    refine mjq_gR D_317_65 fr_12_221 h (fun v4 h => ?_)
    refine mjr_iload_n (x := l2) D_317_68 rfl ?_
    refine mjr_aload_n (x := l0) D_317_69 rfl ?_
    refine mjq_gR D_317_70 fr_12_224 h (fun v5 h => ?_)
    refine mjr_iload_n (x := l2) D_317_73 rfl ?_
    refine mjq_aI D_317_74 h (fun v6 h => ?_)
    refine mjq_sI D_317_75 h (fun hp7 h => ?_)
    refine mjq_iinc (x := l2) (c := (1 : Int32)) (lo' := [some (.ref l0), some (.int l1), some (.int (l2 + (1 : Int32)))]) D_317_76 rfl (Nat.le_of_ble_eq_true rfl) rfl rfl ?_
    refine mjr_goto (tgt := 59) D_317_79 rfl ?_
    exact hk59 _ _ _ _ _ h
noncomputable def L_317_59 (R : mjR) (n : Nat) : Nat → Int32 → Int32 → mjH → mjU := Nat.rec (motive := fun _ => Nat → Int32 → Int32 → mjH → mjU) (fun _ _ _ _ => none) (fun _ self => b_317_59 R self) n
theorem T_317_59 {X : mjX} {d C S kc ks : Nat} {R : mjR} (hR : mjC R d) (h1 : kc ≤ C) (h2 : ks ≤ S) (n : Nat) : P_317_59 X (d + 1) C S kc ks (L_317_59 R n) := by
  induction n with
  | zero => intro _ _ _ _ _ h; exact mj_no h
  | succ n ih => exact t_317_59 hR h1 h2 ih
noncomputable def b_317_50 (R : mjR) (k12 : Nat → Int32 → Int32 → mjH → mjU) (l0 : Nat) (l1 : Int32) (l2 : Int32) (s0 : Nat) (s1 : Int32) (s2 : Int32) (hp : mjH) : mjU := sI hp s0 s1 s2 (fun hp1 => k12 l0 l1 (l2 + (1 : Int32)) hp1)
theorem t_317_50 {X : mjX} {d C S kc ks : Nat} {R : mjR} (hR : mjC R d) (h1 : kc ≤ C) (h2 : ks ≤ S) {k12 : Nat → Int32 → Int32 → mjH → mjU} (hk12 : P_317_12 X (d + 1) C S kc ks k12) : P_317_50 X (d + 1) C S kc ks (b_317_50 R k12) := by
  intro l0 l1 l2 s0 s1 s2 hp q h
  unfold b_317_50 at h
  refine mjq_sI D_317_50 h (fun hp1 h => ?_)
  refine mjq_iinc (x := l2) (c := (1 : Int32)) (lo' := [some (.ref l0), some (.int l1), some (.int (l2 + (1 : Int32)))]) D_317_51 rfl (Nat.le_of_ble_eq_true rfl) rfl rfl ?_
  refine mjr_goto (tgt := 12) D_317_54 rfl ?_
  exact hk12 _ _ _ _ _ h
noncomputable def b_317_12 (R : mjR) (k12 : Nat → Int32 → Int32 → mjH → mjU) (l0 : Nat) (l1 : Int32) (l2 : Int32) (hp : mjH) : mjU := (if (5 : Int32) ≤ l2 then L_317_59 R mjN l0 l1 (0 : Int32) hp else gR hp l0 12 94 (fun v1 => gR hp l0 12 49 (fun v2 => aI hp v2 l1 (fun v3 => (if v3 ≤ l2 then b_317_50 R k12 l0 l1 l2 v1 l2 (0 : Int32) hp else gR hp l0 12 53 (fun v4 => aI hp v4 (((5 : Int32) * l1) + l2) (fun v5 => rV hp l0 12 (bI (R 318 [.ref l0, .int v5] hp) (fun v6 hp7 => b_317_50 R k12 l0 l1 l2 v1 l2 v6 hp7)))))))))
theorem t_317_12 {X : mjX} {d C S kc ks : Nat} {R : mjR} (hR : mjC R d) (h1 : kc ≤ C) (h2 : ks ≤ S) {k12 : Nat → Int32 → Int32 → mjH → mjU} (hk12 : P_317_12 X (d + 1) C S kc ks k12) : P_317_12 X (d + 1) C S kc ks (b_317_12 R k12) := by
  intro l0 l1 l2 hp q h
  unfold b_317_12 at h
  refine mjr_iload_n (x := l2) D_317_12 rfl ?_
  refine mjq_ic (v := (5 : Int32)) D_317_13 rfl ?_
  refine mjq_icmp_ge (tgt := 57) D_317_14 rfl h (fun h => ?_) (fun h => ?_)
  · refine mjq_ic (v := (0 : Int32)) D_317_57 rfl ?_
    refine mjq_istore_n (lo' := [some (.ref l0), some (.int l1), some (.int (0 : Int32))]) D_317_58 (Nat.le_of_ble_eq_true rfl) rfl ?_
    exact (T_317_59 hR h1 h2 mjN) _ _ _ _ _ h
  · refine mjr_aload_n (x := l0) D_317_17 rfl ?_
    refine mjq_gR D_317_18 fr_12_224 h (fun v1 h => ?_)
    refine mjr_iload_n (x := l2) D_317_21 rfl ?_
    refine mjr_iload_n (x := l2) D_317_22 rfl ?_
    refine mjr_aload_n (x := l0) D_317_23 rfl ?_
    refine mjq_gR D_317_24 fr_12_133 h (fun v2 h => ?_)
    refine mjr_iload_n (x := l1) D_317_27 rfl ?_
    refine mjq_aI D_317_28 h (fun v3 h => ?_)
    refine mjq_icmp_ge (tgt := 49) D_317_29 rfl h (fun h => ?_) (fun h => ?_)
    · refine mjq_ic (v := (0 : Int32)) D_317_49 rfl ?_
      exact (t_317_50 hR h1 h2 hk12) _ _ _ _ _ _ _ _ h
    · refine mjr_aload_n (x := l0) D_317_32 rfl ?_
      refine mjr_aload_n (x := l0) D_317_33 rfl ?_
      refine mjq_gR D_317_34 fr_12_145 h (fun v4 h => ?_)
      refine mjq_ic (v := (5 : Int32)) D_317_37 rfl ?_
      refine mjr_iload_n (x := l1) D_317_38 rfl ?_
      refine mjr_imul D_317_39 ?_
      refine mjr_iload_n (x := l2) D_317_40 rfl ?_
      refine mjr_iadd D_317_41 ?_
      refine mjq_aI D_317_42 h (fun v5 h => ?_)
      refine mjq_vI (As := [.int v5]) (rest := [.int l2, .ref v1]) D_317_43 mr_12_547 V_318 rfl rfl rfl hR (Nat.le_refl _) h1 h2 h (fun v6 hp7 h => ?_)
      refine mjr_goto (tgt := 50) D_317_46 rfl ?_
      exact (t_317_50 hR h1 h2 hk12) _ _ _ _ _ _ _ _ h
noncomputable def L_317_12 (R : mjR) (n : Nat) : Nat → Int32 → Int32 → mjH → mjU := Nat.rec (motive := fun _ => Nat → Int32 → Int32 → mjH → mjU) (fun _ _ _ _ => none) (fun _ self => b_317_12 R self) n
theorem T_317_12 {X : mjX} {d C S kc ks : Nat} {R : mjR} (hR : mjC R d) (h1 : kc ≤ C) (h2 : ks ≤ S) (n : Nat) : P_317_12 X (d + 1) C S kc ks (L_317_12 R n) := by
  induction n with
  | zero => intro _ _ _ _ _ h; exact mj_no h
  | succ n ih => exact t_317_12 hR h1 h2 ih
noncomputable def b_317_0 (R : mjR) (l0 : Nat) (hp : mjH) : mjU := gR hp l0 12 16 (fun v1 => gI hp l0 12 95 (fun v2 => aI hp v1 v2 (fun v3 => L_317_12 R mjN l0 v3 (0 : Int32) hp)))
theorem t_317_0 {X : mjX} {d C S kc ks : Nat} {R : mjR} (hR : mjC R d) (h1 : kc ≤ C) (h2 : ks ≤ S) : P_317_0 X (d + 1) C S kc ks (b_317_0 R) := by
  intro l0 hp q h
  unfold b_317_0 at h
  refine mjr_aload_n (x := l0) D_317_0 rfl ?_
  refine mjq_gR D_317_1 fr_12_33 h (fun v1 h => ?_)
  refine mjr_aload_n (x := l0) D_317_4 rfl ?_
  refine mjq_gI D_317_5 fr_12_544 h (fun v2 h => ?_)
  refine mjq_aI D_317_8 h (fun v3 h => ?_)
  refine mjq_istore_n (lo' := [some (.ref l0), some (.int v3), none]) D_317_9 (Nat.le_of_ble_eq_true rfl) rfl ?_
  refine mjq_ic (v := (0 : Int32)) D_317_10 rfl ?_
  refine mjq_istore_n (lo' := [some (.ref l0), some (.int v3), some (.int (0 : Int32))]) D_317_11 (Nat.le_of_ble_eq_true rfl) rfl ?_
  exact (T_317_12 hR h1 h2 mjN) _ _ _ _ _ h
noncomputable def f_317 (R : mjR) (a0 : Nat) (hp : mjH) : mjU := b_317_0 R a0 hp
theorem c_317 {R : mjR} {d : Nat} (hR : mjC R d) {a0 : Nat} {hp : mjH} {q : Option Value × mjH} (h : f_317 R a0 hp = some q) : mjM (d + 1) 0 0 317 [.ref a0] hp (mjEq q) :=
  mjM_of Ja_317 (Nat.le_of_ble_eq_true rfl) (mjG.fg (lo' := [some (.ref a0), none, none]) (And.intro rfl True.intro) ((t_317_0 hR (Nat.le_refl 0) (Nat.le_refl 0)) a0 hp q h))
def J_318 : mjI := (⟨"OwnerHeapModel", "under", "(I)I"⟩, 12, prog_14_method_61_code, 2, (some .int), 1, false)
theorem Ja_318 : mjMt 318 = some J_318 := by rfl
theorem D_318_0 : decode J_318.2.2.1 0 = .ok (.iload_n 1, 1) := dzq_27 (by decide +kernel)
theorem D_318_1 : decode J_318.2.2.1 1 = .ok (.ifCond .lt 12, 3) := dzq_155 (by decide +kernel)
theorem D_318_4 : decode J_318.2.2.1 4 = .ok (.aload_n 0, 1) := dzq_42 (by decide +kernel)
theorem D_318_5 : decode J_318.2.2.1 5 = .ok (.getfield 221, 3) := dzq_180 (by decide +kernel)
theorem D_318_8 : decode J_318.2.2.1 8 = .ok (.iload_n 1, 1) := dzq_27 (by decide +kernel)
theorem D_318_9 : decode J_318.2.2.1 9 = .ok (.iaload, 1) := dzq_46 (by decide +kernel)
theorem D_318_10 : decode J_318.2.2.1 10 = .ok (.goto 4, 3) := dzq_167 (by decide +kernel)
theorem D_318_13 : decode J_318.2.2.1 13 = .ok (.iload_n 1, 1) := dzq_27 (by decide +kernel)
theorem D_318_14 : decode J_318.2.2.1 14 = .ok (.ireturn, 1) := dzq_172 (by decide +kernel)
def P_318_0 (X : mjX) (d C S kc ks : Nat) (k : Nat → Int32 → mjH → mjU) : Prop := ∀ (l0 : Nat) (l1 : Int32) (hp : mjH) (q : Option Value × mjH), k l0 l1 hp = some q → mjG X d C S J_318 (mjEq q) 0 [some (.ref l0), some (.int l1)] [] hp kc ks
noncomputable def b_318_0 (R : mjR) (l0 : Nat) (l1 : Int32) (hp : mjH) : mjU := (if l1 < 0 then some (some (.int l1), hp) else gR hp l0 12 93 (fun v1 => aI hp v1 l1 (fun v2 => some (some (.int v2), hp))))
theorem t_318_0 {X : mjX} {d C S kc ks : Nat} {R : mjR} (hR : mjC R d) (h1 : kc ≤ C) (h2 : ks ≤ S) : P_318_0 X (d + 1) C S kc ks (b_318_0 R) := by
  intro l0 l1 hp q h
  unfold b_318_0 at h
  refine mjr_iload_n (x := l1) D_318_0 rfl ?_
  refine mjq_if_lt (tgt := 13) D_318_1 rfl h (fun h => ?_) (fun h => ?_)
  · refine mjr_iload_n (x := l1) D_318_13 rfl ?_
    exact mjq_ret D_318_14 rfl h1 h2 h
  · refine mjr_aload_n (x := l0) D_318_4 rfl ?_
    refine mjq_gR D_318_5 fr_12_221 h (fun v1 h => ?_)
    refine mjr_iload_n (x := l1) D_318_8 rfl ?_
    refine mjq_aI D_318_9 h (fun v2 h => ?_)
    refine mjr_goto (tgt := 14) D_318_10 rfl ?_
    exact mjq_ret D_318_14 rfl h1 h2 h
noncomputable def f_318 (R : mjR) (a0 : Nat) (a1 : Int32) (hp : mjH) : mjU := b_318_0 R a0 a1 hp
theorem c_318 {R : mjR} {d : Nat} (hR : mjC R d) {a0 : Nat} {a1 : Int32} {hp : mjH} {q : Option Value × mjH} (h : f_318 R a0 a1 hp = some q) : mjM (d + 1) 0 0 318 [.ref a0, .int a1] hp (mjEq q) :=
  mjM_of Ja_318 (Nat.le_of_ble_eq_true rfl) (mjG.fg (lo' := [some (.ref a0), some (.int a1)]) (And.intro rfl (And.intro rfl True.intro)) ((t_318_0 hR (Nat.le_refl 0) (Nat.le_refl 0)) a0 a1 hp q h))
def J_319 : mjI := (⟨"OwnerHeapModel", "isLike", "(II)Z"⟩, 12, prog_14_method_64_code, 5, (some .boolean), 2, false)
theorem Ja_319 : mjMt 319 = some J_319 := by rfl
theorem D_319_0 : decode J_319.2.2.1 0 = .ok (.aload_n 0, 1) := dzq_42 (by decide +kernel)
theorem D_319_1 : decode J_319.2.2.1 1 = .ok (.getfield 103, 3) := dzq_180 (by decide +kernel)
theorem D_319_4 : decode J_319.2.2.1 4 = .ok (.iload_n 1, 1) := dzq_27 (by decide +kernel)
theorem D_319_5 : decode J_319.2.2.1 5 = .ok (.iaload, 1) := dzq_46 (by decide +kernel)
theorem D_319_6 : decode J_319.2.2.1 6 = .ok (.aload_n 0, 1) := dzq_42 (by decide +kernel)
theorem D_319_7 : decode J_319.2.2.1 7 = .ok (.getfield 103, 3) := dzq_180 (by decide +kernel)
theorem D_319_10 : decode J_319.2.2.1 10 = .ok (.iload_n 2, 1) := dzq_28 (by decide +kernel)
theorem D_319_11 : decode J_319.2.2.1 11 = .ok (.iaload, 1) := dzq_46 (by decide +kernel)
theorem D_319_12 : decode J_319.2.2.1 12 = .ok (.if_icmp .ne 26, 3) := dzq_160 (by decide +kernel)
theorem D_319_15 : decode J_319.2.2.1 15 = .ok (.aload_n 0, 1) := dzq_42 (by decide +kernel)
theorem D_319_16 : decode J_319.2.2.1 16 = .ok (.aload_n 0, 1) := dzq_42 (by decide +kernel)
theorem D_319_17 : decode J_319.2.2.1 17 = .ok (.getfield 97, 3) := dzq_180 (by decide +kernel)
theorem D_319_20 : decode J_319.2.2.1 20 = .ok (.iload_n 1, 1) := dzq_27 (by decide +kernel)
theorem D_319_21 : decode J_319.2.2.1 21 = .ok (.iaload, 1) := dzq_46 (by decide +kernel)
theorem D_319_22 : decode J_319.2.2.1 22 = .ok (.aload_n 0, 1) := dzq_42 (by decide +kernel)
theorem D_319_23 : decode J_319.2.2.1 23 = .ok (.getfield 97, 3) := dzq_180 (by decide +kernel)
theorem D_319_26 : decode J_319.2.2.1 26 = .ok (.iload_n 2, 1) := dzq_28 (by decide +kernel)
theorem D_319_27 : decode J_319.2.2.1 27 = .ok (.iaload, 1) := dzq_46 (by decide +kernel)
theorem D_319_28 : decode J_319.2.2.1 28 = .ok (.invokevirtual 564, 3) := dzq_182 (by decide +kernel)
theorem D_319_31 : decode J_319.2.2.1 31 = .ok (.ifCond .eq 7, 3) := dzq_153 (by decide +kernel)
theorem D_319_34 : decode J_319.2.2.1 34 = .ok (.iconst 1, 1) := dzq_4 (by decide +kernel)
theorem D_319_35 : decode J_319.2.2.1 35 = .ok (.goto 4, 3) := dzq_167 (by decide +kernel)
theorem D_319_38 : decode J_319.2.2.1 38 = .ok (.iconst 0, 1) := dzq_3 (by decide +kernel)
theorem D_319_39 : decode J_319.2.2.1 39 = .ok (.istore_n 3, 1) := dzq_62 (by decide +kernel)
theorem D_319_40 : decode J_319.2.2.1 40 = .ok (.iconst 0, 1) := dzq_3 (by decide +kernel)
theorem D_319_41 : decode J_319.2.2.1 41 = .ok (.istore 4, 2) := dzq_54 (by decide +kernel)
theorem D_319_43 : decode J_319.2.2.1 43 = .ok (.iload 4, 2) := dzq_21 (by decide +kernel)
theorem D_319_45 : decode J_319.2.2.1 45 = .ok (.aload_n 0, 1) := dzq_42 (by decide +kernel)
theorem D_319_46 : decode J_319.2.2.1 46 = .ok (.getfield 103, 3) := dzq_180 (by decide +kernel)
theorem D_319_49 : decode J_319.2.2.1 49 = .ok (.iload_n 1, 1) := dzq_27 (by decide +kernel)
theorem D_319_50 : decode J_319.2.2.1 50 = .ok (.iaload, 1) := dzq_46 (by decide +kernel)
theorem D_319_51 : decode J_319.2.2.1 51 = .ok (.if_icmp .ge 42, 3) := dzq_162 (by decide +kernel)
theorem D_319_54 : decode J_319.2.2.1 54 = .ok (.iload_n 3, 1) := dzq_29 (by decide +kernel)
theorem D_319_55 : decode J_319.2.2.1 55 = .ok (.ifCond .eq 38, 3) := dzq_153 (by decide +kernel)
theorem D_319_58 : decode J_319.2.2.1 58 = .ok (.aload_n 0, 1) := dzq_42 (by decide +kernel)
theorem D_319_59 : decode J_319.2.2.1 59 = .ok (.aload_n 0, 1) := dzq_42 (by decide +kernel)
theorem D_319_60 : decode J_319.2.2.1 60 = .ok (.getfield 118, 3) := dzq_180 (by decide +kernel)
theorem D_319_63 : decode J_319.2.2.1 63 = .ok (.bipush 6, 2) := dzq_16 (by decide +kernel)
theorem D_319_65 : decode J_319.2.2.1 65 = .ok (.iload_n 1, 1) := dzq_27 (by decide +kernel)
theorem D_319_66 : decode J_319.2.2.1 66 = .ok (.imul, 1) := dzq_104 (by decide +kernel)
theorem D_319_67 : decode J_319.2.2.1 67 = .ok (.iload 4, 2) := dzq_21 (by decide +kernel)
theorem D_319_69 : decode J_319.2.2.1 69 = .ok (.iadd, 1) := dzq_96 (by decide +kernel)
theorem D_319_70 : decode J_319.2.2.1 70 = .ok (.iaload, 1) := dzq_46 (by decide +kernel)
theorem D_319_71 : decode J_319.2.2.1 71 = .ok (.aload_n 0, 1) := dzq_42 (by decide +kernel)
theorem D_319_72 : decode J_319.2.2.1 72 = .ok (.getfield 118, 3) := dzq_180 (by decide +kernel)
theorem D_319_75 : decode J_319.2.2.1 75 = .ok (.bipush 6, 2) := dzq_16 (by decide +kernel)
theorem D_319_77 : decode J_319.2.2.1 77 = .ok (.iload_n 2, 1) := dzq_28 (by decide +kernel)
theorem D_319_78 : decode J_319.2.2.1 78 = .ok (.imul, 1) := dzq_104 (by decide +kernel)
theorem D_319_79 : decode J_319.2.2.1 79 = .ok (.iload 4, 2) := dzq_21 (by decide +kernel)
theorem D_319_81 : decode J_319.2.2.1 81 = .ok (.iadd, 1) := dzq_96 (by decide +kernel)
theorem D_319_82 : decode J_319.2.2.1 82 = .ok (.iaload, 1) := dzq_46 (by decide +kernel)
theorem D_319_83 : decode J_319.2.2.1 83 = .ok (.invokevirtual 564, 3) := dzq_182 (by decide +kernel)
theorem D_319_86 : decode J_319.2.2.1 86 = .ok (.istore_n 3, 1) := dzq_62 (by decide +kernel)
theorem D_319_87 : decode J_319.2.2.1 87 = .ok (.iinc 4 1, 3) := dzq_132 (by decide +kernel)
theorem D_319_90 : decode J_319.2.2.1 90 = .ok (.goto (-47), 3) := dzq_167 (by decide +kernel)
theorem D_319_93 : decode J_319.2.2.1 93 = .ok (.iload_n 3, 1) := dzq_29 (by decide +kernel)
theorem D_319_94 : decode J_319.2.2.1 94 = .ok (.ireturn, 1) := dzq_172 (by decide +kernel)
def P_319_93 (X : mjX) (d C S kc ks : Nat) (k : Int32 → mjH → mjU) : Prop := ∀ (l3 : Int32) (hp : mjH) (q : Option Value × mjH), k l3 hp = some q → mjG X d C S J_319 (mjEq q) 93 [none, none, none, some (.int l3), none] [] hp kc ks
def P_319_43 (X : mjX) (d C S kc ks : Nat) (k : Nat → Int32 → Int32 → Int32 → Int32 → mjH → mjU) : Prop := ∀ (l0 : Nat) (l1 : Int32) (l2 : Int32) (l3 : Int32) (l4 : Int32) (hp : mjH) (q : Option Value × mjH), k l0 l1 l2 l3 l4 hp = some q → mjG X d C S J_319 (mjEq q) 43 [some (.ref l0), some (.int l1), some (.int l2), some (.int l3), some (.int l4)] [] hp kc ks
def P_319_39 (X : mjX) (d C S kc ks : Nat) (k : Nat → Int32 → Int32 → Int32 → mjH → mjU) : Prop := ∀ (l0 : Nat) (l1 : Int32) (l2 : Int32) (s0 : Int32) (hp : mjH) (q : Option Value × mjH), k l0 l1 l2 s0 hp = some q → mjG X d C S J_319 (mjEq q) 39 [some (.ref l0), some (.int l1), some (.int l2), none, none] [.int s0] hp kc ks
def P_319_38 (X : mjX) (d C S kc ks : Nat) (k : Nat → Int32 → Int32 → mjH → mjU) : Prop := ∀ (l0 : Nat) (l1 : Int32) (l2 : Int32) (hp : mjH) (q : Option Value × mjH), k l0 l1 l2 hp = some q → mjG X d C S J_319 (mjEq q) 38 [some (.ref l0), some (.int l1), some (.int l2), none, none] [] hp kc ks
def P_319_0 (X : mjX) (d C S kc ks : Nat) (k : Nat → Int32 → Int32 → mjH → mjU) : Prop := ∀ (l0 : Nat) (l1 : Int32) (l2 : Int32) (hp : mjH) (q : Option Value × mjH), k l0 l1 l2 hp = some q → mjG X d C S J_319 (mjEq q) 0 [some (.ref l0), some (.int l1), some (.int l2), none, none] [] hp kc ks
noncomputable def b_319_93 (R : mjR) (l3 : Int32) (hp : mjH) : mjU := (if narrow .boolean (.int l3) = .int l3 then some (some (.int l3), hp) else none)
theorem t_319_93 {X : mjX} {d C S kc ks : Nat} {R : mjR} (hR : mjC R d) (h1 : kc ≤ C) (h2 : ks ≤ S) : P_319_93 X (d + 1) C S kc ks (b_319_93 R) := by
  intro l3 hp q h
  unfold b_319_93 at h
  refine mjr_iload_n (x := l3) D_319_93 rfl ?_
  exact mjq_retZ (ty := .boolean) D_319_94 rfl h1 h2 h
noncomputable def b_319_43 (R : mjR) (k43 : Nat → Int32 → Int32 → Int32 → Int32 → mjH → mjU) (l0 : Nat) (l1 : Int32) (l2 : Int32) (l3 : Int32) (l4 : Int32) (hp : mjH) : mjU := gR hp l0 12 39 (fun v1 => aI hp v1 l1 (fun v2 => (if v2 ≤ l4 then b_319_93 R l3 hp else (if l3 = 0 then b_319_93 R l3 hp else gR hp l0 12 44 (fun v3 => aI hp v3 (((6 : Int32) * l1) + l4) (fun v4 => gR hp l0 12 44 (fun v5 => aI hp v5 (((6 : Int32) * l2) + l4) (fun v6 => rV hp l0 12 (bI (R 320 [.ref l0, .int v4, .int v6] hp) (fun v7 hp8 => k43 l0 l1 l2 v7 (l4 + (1 : Int32)) hp8))))))))))
theorem t_319_43 {X : mjX} {d C S kc ks : Nat} {R : mjR} (hR : mjC R d) (h1 : kc ≤ C) (h2 : ks ≤ S) {k43 : Nat → Int32 → Int32 → Int32 → Int32 → mjH → mjU} (hk43 : P_319_43 X (d + 1) C S kc ks k43) : P_319_43 X (d + 1) C S kc ks (b_319_43 R k43) := by
  intro l0 l1 l2 l3 l4 hp q h
  unfold b_319_43 at h
  refine mjr_iload (x := l4) D_319_43 rfl ?_
  refine mjr_aload_n (x := l0) D_319_45 rfl ?_
  refine mjq_gR D_319_46 fr_12_103 h (fun v1 h => ?_)
  refine mjr_iload_n (x := l1) D_319_49 rfl ?_
  refine mjq_aI D_319_50 h (fun v2 h => ?_)
  refine mjq_icmp_ge (tgt := 93) D_319_51 rfl h (fun h => ?_) (fun h => ?_)
  · exact mjG.fg (lo' := [none, none, none, some (.int l3), none]) (And.intro rfl True.intro) ((t_319_93 hR h1 h2) _ _ _ h)
  · refine mjr_iload_n (x := l3) D_319_54 rfl ?_
    refine mjq_if_eq (tgt := 93) D_319_55 rfl h (fun h => ?_) (fun h => ?_)
    · exact mjG.fg (lo' := [none, none, none, some (.int l3), none]) (And.intro rfl True.intro) ((t_319_93 hR h1 h2) _ _ _ h)
    · refine mjr_aload_n (x := l0) D_319_58 rfl ?_
      refine mjr_aload_n (x := l0) D_319_59 rfl ?_
      refine mjq_gR D_319_60 fr_12_118 h (fun v3 h => ?_)
      refine mjq_bi (v := (6 : Int32)) D_319_63 rfl ?_
      refine mjr_iload_n (x := l1) D_319_65 rfl ?_
      refine mjr_imul D_319_66 ?_
      refine mjr_iload (x := l4) D_319_67 rfl ?_
      refine mjr_iadd D_319_69 ?_
      refine mjq_aI D_319_70 h (fun v4 h => ?_)
      refine mjr_aload_n (x := l0) D_319_71 rfl ?_
      refine mjq_gR D_319_72 fr_12_118 h (fun v5 h => ?_)
      refine mjq_bi (v := (6 : Int32)) D_319_75 rfl ?_
      refine mjr_iload_n (x := l2) D_319_77 rfl ?_
      refine mjr_imul D_319_78 ?_
      refine mjr_iload (x := l4) D_319_79 rfl ?_
      refine mjr_iadd D_319_81 ?_
      refine mjq_aI D_319_82 h (fun v6 h => ?_)
      refine mjq_vI (As := [.int v4, .int v6]) (rest := []) D_319_83 mr_12_564 V_320 rfl rfl rfl hR (Nat.le_refl _) h1 h2 h (fun v7 hp8 h => ?_)
      refine mjq_istore_n (lo' := [some (.ref l0), some (.int l1), some (.int l2), some (.int v7), some (.int l4)]) D_319_86 (Nat.le_of_ble_eq_true rfl) rfl ?_
      refine mjq_iinc (x := l4) (c := (1 : Int32)) (lo' := [some (.ref l0), some (.int l1), some (.int l2), some (.int v7), some (.int (l4 + (1 : Int32)))]) D_319_87 rfl (Nat.le_of_ble_eq_true rfl) rfl rfl ?_
      refine mjr_goto (tgt := 43) D_319_90 rfl ?_
      exact hk43 _ _ _ _ _ _ _ h
noncomputable def L_319_43 (R : mjR) (n : Nat) : Nat → Int32 → Int32 → Int32 → Int32 → mjH → mjU := Nat.rec (motive := fun _ => Nat → Int32 → Int32 → Int32 → Int32 → mjH → mjU) (fun _ _ _ _ _ _ => none) (fun _ self => b_319_43 R self) n
theorem T_319_43 {X : mjX} {d C S kc ks : Nat} {R : mjR} (hR : mjC R d) (h1 : kc ≤ C) (h2 : ks ≤ S) (n : Nat) : P_319_43 X (d + 1) C S kc ks (L_319_43 R n) := by
  induction n with
  | zero => intro _ _ _ _ _ _ _ h; exact mj_no h
  | succ n ih => exact t_319_43 hR h1 h2 ih
noncomputable def b_319_39 (R : mjR) (l0 : Nat) (l1 : Int32) (l2 : Int32) (s0 : Int32) (hp : mjH) : mjU := L_319_43 R mjN l0 l1 l2 s0 (0 : Int32) hp
theorem t_319_39 {X : mjX} {d C S kc ks : Nat} {R : mjR} (hR : mjC R d) (h1 : kc ≤ C) (h2 : ks ≤ S) : P_319_39 X (d + 1) C S kc ks (b_319_39 R) := by
  intro l0 l1 l2 s0 hp q h
  unfold b_319_39 at h
  refine mjq_istore_n (lo' := [some (.ref l0), some (.int l1), some (.int l2), some (.int s0), none]) D_319_39 (Nat.le_of_ble_eq_true rfl) rfl ?_
  refine mjq_ic (v := (0 : Int32)) D_319_40 rfl ?_
  refine mjq_istore (lo' := [some (.ref l0), some (.int l1), some (.int l2), some (.int s0), some (.int (0 : Int32))]) D_319_41 (Nat.le_of_ble_eq_true rfl) rfl ?_
  exact (T_319_43 hR h1 h2 mjN) _ _ _ _ _ _ _ h
noncomputable def b_319_38 (R : mjR) (l0 : Nat) (l1 : Int32) (l2 : Int32) (hp : mjH) : mjU := b_319_39 R l0 l1 l2 (0 : Int32) hp
theorem t_319_38 {X : mjX} {d C S kc ks : Nat} {R : mjR} (hR : mjC R d) (h1 : kc ≤ C) (h2 : ks ≤ S) : P_319_38 X (d + 1) C S kc ks (b_319_38 R) := by
  intro l0 l1 l2 hp q h
  unfold b_319_38 at h
  refine mjq_ic (v := (0 : Int32)) D_319_38 rfl ?_
  exact (t_319_39 hR h1 h2) _ _ _ _ _ _ h
noncomputable def b_319_0 (R : mjR) (l0 : Nat) (l1 : Int32) (l2 : Int32) (hp : mjH) : mjU := gR hp l0 12 39 (fun v1 => aI hp v1 l1 (fun v2 => gR hp l0 12 39 (fun v3 => aI hp v3 l2 (fun v4 => (if v2 = v4 then gR hp l0 12 37 (fun v5 => aI hp v5 l1 (fun v6 => gR hp l0 12 37 (fun v7 => aI hp v7 l2 (fun v8 => rV hp l0 12 (bI (R 320 [.ref l0, .int v6, .int v8] hp) (fun v9 hp10 => (if v9 = 0 then b_319_38 R l0 l1 l2 hp10 else b_319_39 R l0 l1 l2 (1 : Int32) hp10))))))) else b_319_38 R l0 l1 l2 hp)))))
theorem t_319_0 {X : mjX} {d C S kc ks : Nat} {R : mjR} (hR : mjC R d) (h1 : kc ≤ C) (h2 : ks ≤ S) : P_319_0 X (d + 1) C S kc ks (b_319_0 R) := by
  intro l0 l1 l2 hp q h
  unfold b_319_0 at h
  refine mjr_aload_n (x := l0) D_319_0 rfl ?_
  refine mjq_gR D_319_1 fr_12_103 h (fun v1 h => ?_)
  refine mjr_iload_n (x := l1) D_319_4 rfl ?_
  refine mjq_aI D_319_5 h (fun v2 h => ?_)
  refine mjr_aload_n (x := l0) D_319_6 rfl ?_
  refine mjq_gR D_319_7 fr_12_103 h (fun v3 h => ?_)
  refine mjr_iload_n (x := l2) D_319_10 rfl ?_
  refine mjq_aI D_319_11 h (fun v4 h => ?_)
  refine mjq_icmp_ne (tgt := 38) D_319_12 rfl h (fun h => ?_) (fun h => ?_)
  · exact (t_319_38 hR h1 h2) _ _ _ _ _ h
  · refine mjr_aload_n (x := l0) D_319_15 rfl ?_
    refine mjr_aload_n (x := l0) D_319_16 rfl ?_
    refine mjq_gR D_319_17 fr_12_97 h (fun v5 h => ?_)
    refine mjr_iload_n (x := l1) D_319_20 rfl ?_
    refine mjq_aI D_319_21 h (fun v6 h => ?_)
    refine mjr_aload_n (x := l0) D_319_22 rfl ?_
    refine mjq_gR D_319_23 fr_12_97 h (fun v7 h => ?_)
    refine mjr_iload_n (x := l2) D_319_26 rfl ?_
    refine mjq_aI D_319_27 h (fun v8 h => ?_)
    refine mjq_vI (As := [.int v6, .int v8]) (rest := []) D_319_28 mr_12_564 V_320 rfl rfl rfl hR (Nat.le_refl _) h1 h2 h (fun v9 hp10 h => ?_)
    refine mjq_if_eq (tgt := 38) D_319_31 rfl h (fun h => ?_) (fun h => ?_)
    · exact (t_319_38 hR h1 h2) _ _ _ _ _ h
    · refine mjq_ic (v := (1 : Int32)) D_319_34 rfl ?_
      refine mjr_goto (tgt := 39) D_319_35 rfl ?_
      exact (t_319_39 hR h1 h2) _ _ _ _ _ _ h
noncomputable def f_319 (R : mjR) (a0 : Nat) (a1 : Int32) (a2 : Int32) (hp : mjH) : mjU := b_319_0 R a0 a1 a2 hp
theorem c_319 {R : mjR} {d : Nat} (hR : mjC R d) {a0 : Nat} {a1 : Int32} {a2 : Int32} {hp : mjH} {q : Option Value × mjH} (h : f_319 R a0 a1 a2 hp = some q) : mjM (d + 1) 0 0 319 [.ref a0, .int a1, .int a2] hp (mjEq q) :=
  mjM_of Ja_319 (Nat.le_of_ble_eq_true rfl) (mjG.fg (lo' := [some (.ref a0), some (.int a1), some (.int a2), none, none]) (And.intro rfl (And.intro rfl (And.intro rfl True.intro))) ((t_319_0 hR (Nat.le_refl 0) (Nat.le_refl 0)) a0 a1 a2 hp q h))
def J_320 : mjI := (⟨"OwnerHeapModel", "isLikeType", "(II)Z"⟩, 12, prog_14_method_65_code, 5, (some .boolean), 2, false)
theorem Ja_320 : mjMt 320 = some J_320 := by rfl
theorem D_320_0 : decode J_320.2.2.1 0 = .ok (.iload_n 1, 1) := dzq_27 (by decide +kernel)
theorem D_320_1 : decode J_320.2.2.1 1 = .ok (.ifCond .lt 7, 3) := dzq_155 (by decide +kernel)
theorem D_320_4 : decode J_320.2.2.1 4 = .ok (.iload_n 2, 1) := dzq_28 (by decide +kernel)
theorem D_320_5 : decode J_320.2.2.1 5 = .ok (.ifCond .ge 17, 3) := dzq_156 (by decide +kernel)
theorem D_320_8 : decode J_320.2.2.1 8 = .ok (.iload_n 1, 1) := dzq_27 (by decide +kernel)
theorem D_320_9 : decode J_320.2.2.1 9 = .ok (.ifCond .ge 11, 3) := dzq_156 (by decide +kernel)
theorem D_320_12 : decode J_320.2.2.1 12 = .ok (.iload_n 2, 1) := dzq_28 (by decide +kernel)
theorem D_320_13 : decode J_320.2.2.1 13 = .ok (.ifCond .ge 7, 3) := dzq_156 (by decide +kernel)
theorem D_320_16 : decode J_320.2.2.1 16 = .ok (.iconst 1, 1) := dzq_4 (by decide +kernel)
theorem D_320_17 : decode J_320.2.2.1 17 = .ok (.goto 4, 3) := dzq_167 (by decide +kernel)
theorem D_320_20 : decode J_320.2.2.1 20 = .ok (.iconst 0, 1) := dzq_3 (by decide +kernel)
theorem D_320_21 : decode J_320.2.2.1 21 = .ok (.ireturn, 1) := dzq_172 (by decide +kernel)
theorem D_320_22 : decode J_320.2.2.1 22 = .ok (.aload_n 0, 1) := dzq_42 (by decide +kernel)
theorem D_320_23 : decode J_320.2.2.1 23 = .ok (.getfield 136, 3) := dzq_180 (by decide +kernel)
theorem D_320_26 : decode J_320.2.2.1 26 = .ok (.iload_n 1, 1) := dzq_27 (by decide +kernel)
theorem D_320_27 : decode J_320.2.2.1 27 = .ok (.iaload, 1) := dzq_46 (by decide +kernel)
theorem D_320_28 : decode J_320.2.2.1 28 = .ok (.aload_n 0, 1) := dzq_42 (by decide +kernel)
theorem D_320_29 : decode J_320.2.2.1 29 = .ok (.getfield 136, 3) := dzq_180 (by decide +kernel)
theorem D_320_32 : decode J_320.2.2.1 32 = .ok (.iload_n 2, 1) := dzq_28 (by decide +kernel)
theorem D_320_33 : decode J_320.2.2.1 33 = .ok (.iaload, 1) := dzq_46 (by decide +kernel)
theorem D_320_34 : decode J_320.2.2.1 34 = .ok (.if_icmp .ne 7, 3) := dzq_160 (by decide +kernel)
theorem D_320_37 : decode J_320.2.2.1 37 = .ok (.iconst 1, 1) := dzq_4 (by decide +kernel)
theorem D_320_38 : decode J_320.2.2.1 38 = .ok (.goto 4, 3) := dzq_167 (by decide +kernel)
theorem D_320_41 : decode J_320.2.2.1 41 = .ok (.iconst 0, 1) := dzq_3 (by decide +kernel)
theorem D_320_42 : decode J_320.2.2.1 42 = .ok (.istore_n 3, 1) := dzq_62 (by decide +kernel)
theorem D_320_43 : decode J_320.2.2.1 43 = .ok (.iconst 0, 1) := dzq_3 (by decide +kernel)
theorem D_320_44 : decode J_320.2.2.1 44 = .ok (.istore 4, 2) := dzq_54 (by decide +kernel)
theorem D_320_46 : decode J_320.2.2.1 46 = .ok (.iload 4, 2) := dzq_21 (by decide +kernel)
theorem D_320_48 : decode J_320.2.2.1 48 = .ok (.aload_n 0, 1) := dzq_42 (by decide +kernel)
theorem D_320_49 : decode J_320.2.2.1 49 = .ok (.getfield 133, 3) := dzq_180 (by decide +kernel)
theorem D_320_52 : decode J_320.2.2.1 52 = .ok (.iload_n 1, 1) := dzq_27 (by decide +kernel)
theorem D_320_53 : decode J_320.2.2.1 53 = .ok (.iaload, 1) := dzq_46 (by decide +kernel)
theorem D_320_54 : decode J_320.2.2.1 54 = .ok (.if_icmp .ge 48, 3) := dzq_162 (by decide +kernel)
theorem D_320_57 : decode J_320.2.2.1 57 = .ok (.iload_n 3, 1) := dzq_29 (by decide +kernel)
theorem D_320_58 : decode J_320.2.2.1 58 = .ok (.ifCond .eq 44, 3) := dzq_153 (by decide +kernel)
theorem D_320_61 : decode J_320.2.2.1 61 = .ok (.aload_n 0, 1) := dzq_42 (by decide +kernel)
theorem D_320_62 : decode J_320.2.2.1 62 = .ok (.getfield 145, 3) := dzq_180 (by decide +kernel)
theorem D_320_65 : decode J_320.2.2.1 65 = .ok (.iconst 5, 1) := dzq_8 (by decide +kernel)
theorem D_320_66 : decode J_320.2.2.1 66 = .ok (.iload_n 1, 1) := dzq_27 (by decide +kernel)
theorem D_320_67 : decode J_320.2.2.1 67 = .ok (.imul, 1) := dzq_104 (by decide +kernel)
theorem D_320_68 : decode J_320.2.2.1 68 = .ok (.iload 4, 2) := dzq_21 (by decide +kernel)
theorem D_320_70 : decode J_320.2.2.1 70 = .ok (.iadd, 1) := dzq_96 (by decide +kernel)
theorem D_320_71 : decode J_320.2.2.1 71 = .ok (.iaload, 1) := dzq_46 (by decide +kernel)
theorem D_320_72 : decode J_320.2.2.1 72 = .ok (.aload_n 0, 1) := dzq_42 (by decide +kernel)
theorem D_320_73 : decode J_320.2.2.1 73 = .ok (.aload_n 0, 1) := dzq_42 (by decide +kernel)
theorem D_320_74 : decode J_320.2.2.1 74 = .ok (.getfield 145, 3) := dzq_180 (by decide +kernel)
theorem D_320_77 : decode J_320.2.2.1 77 = .ok (.iconst 5, 1) := dzq_8 (by decide +kernel)
theorem D_320_78 : decode J_320.2.2.1 78 = .ok (.iload_n 2, 1) := dzq_28 (by decide +kernel)
theorem D_320_79 : decode J_320.2.2.1 79 = .ok (.imul, 1) := dzq_104 (by decide +kernel)
theorem D_320_80 : decode J_320.2.2.1 80 = .ok (.iload 4, 2) := dzq_21 (by decide +kernel)
theorem D_320_82 : decode J_320.2.2.1 82 = .ok (.iadd, 1) := dzq_96 (by decide +kernel)
theorem D_320_83 : decode J_320.2.2.1 83 = .ok (.iaload, 1) := dzq_46 (by decide +kernel)
theorem D_320_84 : decode J_320.2.2.1 84 = .ok (.invokevirtual 547, 3) := dzq_182 (by decide +kernel)
theorem D_320_87 : decode J_320.2.2.1 87 = .ok (.if_icmp .ne 7, 3) := dzq_160 (by decide +kernel)
theorem D_320_90 : decode J_320.2.2.1 90 = .ok (.iconst 1, 1) := dzq_4 (by decide +kernel)
theorem D_320_91 : decode J_320.2.2.1 91 = .ok (.goto 4, 3) := dzq_167 (by decide +kernel)
theorem D_320_94 : decode J_320.2.2.1 94 = .ok (.iconst 0, 1) := dzq_3 (by decide +kernel)
theorem D_320_95 : decode J_320.2.2.1 95 = .ok (.istore_n 3, 1) := dzq_62 (by decide +kernel)
theorem D_320_96 : decode J_320.2.2.1 96 = .ok (.iinc 4 1, 3) := dzq_132 (by decide +kernel)
theorem D_320_99 : decode J_320.2.2.1 99 = .ok (.goto (-53), 3) := dzq_167 (by decide +kernel)
theorem D_320_102 : decode J_320.2.2.1 102 = .ok (.iload_n 3, 1) := dzq_29 (by decide +kernel)
theorem D_320_103 : decode J_320.2.2.1 103 = .ok (.ireturn, 1) := dzq_172 (by decide +kernel)
def P_320_20 (X : mjX) (d C S kc ks : Nat) (k : mjH → mjU) : Prop := ∀  (hp : mjH) (q : Option Value × mjH), k  hp = some q → mjG X d C S J_320 (mjEq q) 20 [none, none, none, none, none] [] hp kc ks
def P_320_8 (X : mjX) (d C S kc ks : Nat) (k : Int32 → Int32 → mjH → mjU) : Prop := ∀ (l1 : Int32) (l2 : Int32) (hp : mjH) (q : Option Value × mjH), k l1 l2 hp = some q → mjG X d C S J_320 (mjEq q) 8 [none, some (.int l1), some (.int l2), none, none] [] hp kc ks
def P_320_102 (X : mjX) (d C S kc ks : Nat) (k : Int32 → mjH → mjU) : Prop := ∀ (l3 : Int32) (hp : mjH) (q : Option Value × mjH), k l3 hp = some q → mjG X d C S J_320 (mjEq q) 102 [none, none, none, some (.int l3), none] [] hp kc ks
def P_320_95 (X : mjX) (d C S kc ks : Nat) (k : Nat → Int32 → Int32 → Int32 → Int32 → mjH → mjU) : Prop := ∀ (l0 : Nat) (l1 : Int32) (l2 : Int32) (l4 : Int32) (s0 : Int32) (hp : mjH) (q : Option Value × mjH), k l0 l1 l2 l4 s0 hp = some q → mjG X d C S J_320 (mjEq q) 95 [some (.ref l0), some (.int l1), some (.int l2), none, some (.int l4)] [.int s0] hp kc ks
def P_320_46 (X : mjX) (d C S kc ks : Nat) (k : Nat → Int32 → Int32 → Int32 → Int32 → mjH → mjU) : Prop := ∀ (l0 : Nat) (l1 : Int32) (l2 : Int32) (l3 : Int32) (l4 : Int32) (hp : mjH) (q : Option Value × mjH), k l0 l1 l2 l3 l4 hp = some q → mjG X d C S J_320 (mjEq q) 46 [some (.ref l0), some (.int l1), some (.int l2), some (.int l3), some (.int l4)] [] hp kc ks
def P_320_42 (X : mjX) (d C S kc ks : Nat) (k : Nat → Int32 → Int32 → Int32 → mjH → mjU) : Prop := ∀ (l0 : Nat) (l1 : Int32) (l2 : Int32) (s0 : Int32) (hp : mjH) (q : Option Value × mjH), k l0 l1 l2 s0 hp = some q → mjG X d C S J_320 (mjEq q) 42 [some (.ref l0), some (.int l1), some (.int l2), none, none] [.int s0] hp kc ks
def P_320_0 (X : mjX) (d C S kc ks : Nat) (k : Nat → Int32 → Int32 → mjH → mjU) : Prop := ∀ (l0 : Nat) (l1 : Int32) (l2 : Int32) (hp : mjH) (q : Option Value × mjH), k l0 l1 l2 hp = some q → mjG X d C S J_320 (mjEq q) 0 [some (.ref l0), some (.int l1), some (.int l2), none, none] [] hp kc ks
noncomputable def b_320_20 (R : mjR)  (hp : mjH) : mjU := some (some (.int (0 : Int32)), hp)
theorem t_320_20 {X : mjX} {d C S kc ks : Nat} {R : mjR} (hR : mjC R d) (h1 : kc ≤ C) (h2 : ks ≤ S) : P_320_20 X (d + 1) C S kc ks (b_320_20 R) := by
  intro  hp q h
  unfold b_320_20 at h
  refine mjq_ic (v := (0 : Int32)) D_320_20 rfl ?_
  exact mjr_ireturn D_320_21 rfl rfl h1 h2 (Option.some.inj h)
noncomputable def b_320_8 (R : mjR) (l1 : Int32) (l2 : Int32) (hp : mjH) : mjU := (if 0 ≤ l1 then b_320_20 R hp else (if 0 ≤ l2 then b_320_20 R hp else some (some (.int (1 : Int32)), hp)))
theorem t_320_8 {X : mjX} {d C S kc ks : Nat} {R : mjR} (hR : mjC R d) (h1 : kc ≤ C) (h2 : ks ≤ S) : P_320_8 X (d + 1) C S kc ks (b_320_8 R) := by
  intro l1 l2 hp q h
  unfold b_320_8 at h
  refine mjr_iload_n (x := l1) D_320_8 rfl ?_
  refine mjq_if_ge (tgt := 20) D_320_9 rfl h (fun h => ?_) (fun h => ?_)
  · exact mjG.fg (lo' := [none, none, none, none, none]) True.intro ((t_320_20 hR h1 h2) _ _ h)
  · refine mjr_iload_n (x := l2) D_320_12 rfl ?_
    refine mjq_if_ge (tgt := 20) D_320_13 rfl h (fun h => ?_) (fun h => ?_)
    · exact mjG.fg (lo' := [none, none, none, none, none]) True.intro ((t_320_20 hR h1 h2) _ _ h)
    · refine mjq_ic (v := (1 : Int32)) D_320_16 rfl ?_
      refine mjr_goto (tgt := 21) D_320_17 rfl ?_
      exact mjr_ireturn D_320_21 rfl rfl h1 h2 (Option.some.inj h)
noncomputable def b_320_102 (R : mjR) (l3 : Int32) (hp : mjH) : mjU := (if narrow .boolean (.int l3) = .int l3 then some (some (.int l3), hp) else none)
theorem t_320_102 {X : mjX} {d C S kc ks : Nat} {R : mjR} (hR : mjC R d) (h1 : kc ≤ C) (h2 : ks ≤ S) : P_320_102 X (d + 1) C S kc ks (b_320_102 R) := by
  intro l3 hp q h
  unfold b_320_102 at h
  refine mjr_iload_n (x := l3) D_320_102 rfl ?_
  exact mjq_retZ (ty := .boolean) D_320_103 rfl h1 h2 h
noncomputable def b_320_95 (R : mjR) (k46 : Nat → Int32 → Int32 → Int32 → Int32 → mjH → mjU) (l0 : Nat) (l1 : Int32) (l2 : Int32) (l4 : Int32) (s0 : Int32) (hp : mjH) : mjU := k46 l0 l1 l2 s0 (l4 + (1 : Int32)) hp
theorem t_320_95 {X : mjX} {d C S kc ks : Nat} {R : mjR} (hR : mjC R d) (h1 : kc ≤ C) (h2 : ks ≤ S) {k46 : Nat → Int32 → Int32 → Int32 → Int32 → mjH → mjU} (hk46 : P_320_46 X (d + 1) C S kc ks k46) : P_320_95 X (d + 1) C S kc ks (b_320_95 R k46) := by
  intro l0 l1 l2 l4 s0 hp q h
  unfold b_320_95 at h
  refine mjq_istore_n (lo' := [some (.ref l0), some (.int l1), some (.int l2), some (.int s0), some (.int l4)]) D_320_95 (Nat.le_of_ble_eq_true rfl) rfl ?_
  refine mjq_iinc (x := l4) (c := (1 : Int32)) (lo' := [some (.ref l0), some (.int l1), some (.int l2), some (.int s0), some (.int (l4 + (1 : Int32)))]) D_320_96 rfl (Nat.le_of_ble_eq_true rfl) rfl rfl ?_
  refine mjr_goto (tgt := 46) D_320_99 rfl ?_
  exact hk46 _ _ _ _ _ _ _ h
noncomputable def b_320_46 (R : mjR) (k46 : Nat → Int32 → Int32 → Int32 → Int32 → mjH → mjU) (l0 : Nat) (l1 : Int32) (l2 : Int32) (l3 : Int32) (l4 : Int32) (hp : mjH) : mjU := gR hp l0 12 49 (fun v1 => aI hp v1 l1 (fun v2 => (if v2 ≤ l4 then b_320_102 R l3 hp else (if l3 = 0 then b_320_102 R l3 hp else gR hp l0 12 53 (fun v3 => aI hp v3 (((5 : Int32) * l1) + l4) (fun v4 => gR hp l0 12 53 (fun v5 => aI hp v5 (((5 : Int32) * l2) + l4) (fun v6 => rV hp l0 12 (bI (R 318 [.ref l0, .int v6] hp) (fun v7 hp8 => (if v4 = v7 then b_320_95 R k46 l0 l1 l2 l4 (1 : Int32) hp8 else b_320_95 R k46 l0 l1 l2 l4 (0 : Int32) hp8)))))))))))
theorem t_320_46 {X : mjX} {d C S kc ks : Nat} {R : mjR} (hR : mjC R d) (h1 : kc ≤ C) (h2 : ks ≤ S) {k46 : Nat → Int32 → Int32 → Int32 → Int32 → mjH → mjU} (hk46 : P_320_46 X (d + 1) C S kc ks k46) : P_320_46 X (d + 1) C S kc ks (b_320_46 R k46) := by
  intro l0 l1 l2 l3 l4 hp q h
  unfold b_320_46 at h
  refine mjr_iload (x := l4) D_320_46 rfl ?_
  refine mjr_aload_n (x := l0) D_320_48 rfl ?_
  refine mjq_gR D_320_49 fr_12_133 h (fun v1 h => ?_)
  refine mjr_iload_n (x := l1) D_320_52 rfl ?_
  refine mjq_aI D_320_53 h (fun v2 h => ?_)
  refine mjq_icmp_ge (tgt := 102) D_320_54 rfl h (fun h => ?_) (fun h => ?_)
  · exact mjG.fg (lo' := [none, none, none, some (.int l3), none]) (And.intro rfl True.intro) ((t_320_102 hR h1 h2) _ _ _ h)
  · refine mjr_iload_n (x := l3) D_320_57 rfl ?_
    refine mjq_if_eq (tgt := 102) D_320_58 rfl h (fun h => ?_) (fun h => ?_)
    · exact mjG.fg (lo' := [none, none, none, some (.int l3), none]) (And.intro rfl True.intro) ((t_320_102 hR h1 h2) _ _ _ h)
    · refine mjr_aload_n (x := l0) D_320_61 rfl ?_
      refine mjq_gR D_320_62 fr_12_145 h (fun v3 h => ?_)
      refine mjq_ic (v := (5 : Int32)) D_320_65 rfl ?_
      refine mjr_iload_n (x := l1) D_320_66 rfl ?_
      refine mjr_imul D_320_67 ?_
      refine mjr_iload (x := l4) D_320_68 rfl ?_
      refine mjr_iadd D_320_70 ?_
      refine mjq_aI D_320_71 h (fun v4 h => ?_)
      refine mjr_aload_n (x := l0) D_320_72 rfl ?_
      refine mjr_aload_n (x := l0) D_320_73 rfl ?_
      refine mjq_gR D_320_74 fr_12_145 h (fun v5 h => ?_)
      refine mjq_ic (v := (5 : Int32)) D_320_77 rfl ?_
      refine mjr_iload_n (x := l2) D_320_78 rfl ?_
      refine mjr_imul D_320_79 ?_
      refine mjr_iload (x := l4) D_320_80 rfl ?_
      refine mjr_iadd D_320_82 ?_
      refine mjq_aI D_320_83 h (fun v6 h => ?_)
      refine mjq_vI (As := [.int v6]) (rest := [.int v4]) D_320_84 mr_12_547 V_318 rfl rfl rfl hR (Nat.le_refl _) h1 h2 h (fun v7 hp8 h => ?_)
      refine mjq_icmp_ne (tgt := 94) D_320_87 rfl h (fun h => ?_) (fun h => ?_)
      · refine mjq_ic (v := (0 : Int32)) D_320_94 rfl ?_
        exact mjG.fg (lo' := [some (.ref l0), some (.int l1), some (.int l2), none, some (.int l4)]) (And.intro rfl (And.intro rfl (And.intro rfl (And.intro rfl True.intro)))) ((t_320_95 hR h1 h2 hk46) _ _ _ _ _ _ _ h)
      · refine mjq_ic (v := (1 : Int32)) D_320_90 rfl ?_
        refine mjr_goto (tgt := 95) D_320_91 rfl ?_
        exact mjG.fg (lo' := [some (.ref l0), some (.int l1), some (.int l2), none, some (.int l4)]) (And.intro rfl (And.intro rfl (And.intro rfl (And.intro rfl True.intro)))) ((t_320_95 hR h1 h2 hk46) _ _ _ _ _ _ _ h)
noncomputable def L_320_46 (R : mjR) (n : Nat) : Nat → Int32 → Int32 → Int32 → Int32 → mjH → mjU := Nat.rec (motive := fun _ => Nat → Int32 → Int32 → Int32 → Int32 → mjH → mjU) (fun _ _ _ _ _ _ => none) (fun _ self => b_320_46 R self) n
theorem T_320_46 {X : mjX} {d C S kc ks : Nat} {R : mjR} (hR : mjC R d) (h1 : kc ≤ C) (h2 : ks ≤ S) (n : Nat) : P_320_46 X (d + 1) C S kc ks (L_320_46 R n) := by
  induction n with
  | zero => intro _ _ _ _ _ _ _ h; exact mj_no h
  | succ n ih => exact t_320_46 hR h1 h2 ih
noncomputable def b_320_42 (R : mjR) (l0 : Nat) (l1 : Int32) (l2 : Int32) (s0 : Int32) (hp : mjH) : mjU := L_320_46 R mjN l0 l1 l2 s0 (0 : Int32) hp
theorem t_320_42 {X : mjX} {d C S kc ks : Nat} {R : mjR} (hR : mjC R d) (h1 : kc ≤ C) (h2 : ks ≤ S) : P_320_42 X (d + 1) C S kc ks (b_320_42 R) := by
  intro l0 l1 l2 s0 hp q h
  unfold b_320_42 at h
  refine mjq_istore_n (lo' := [some (.ref l0), some (.int l1), some (.int l2), some (.int s0), none]) D_320_42 (Nat.le_of_ble_eq_true rfl) rfl ?_
  refine mjq_ic (v := (0 : Int32)) D_320_43 rfl ?_
  refine mjq_istore (lo' := [some (.ref l0), some (.int l1), some (.int l2), some (.int s0), some (.int (0 : Int32))]) D_320_44 (Nat.le_of_ble_eq_true rfl) rfl ?_
  exact (T_320_46 hR h1 h2 mjN) _ _ _ _ _ _ _ h
noncomputable def b_320_0 (R : mjR) (l0 : Nat) (l1 : Int32) (l2 : Int32) (hp : mjH) : mjU := (if l1 < 0 then b_320_8 R l1 l2 hp else (if 0 ≤ l2 then gR hp l0 12 50 (fun v1 => aI hp v1 l1 (fun v2 => gR hp l0 12 50 (fun v3 => aI hp v3 l2 (fun v4 => (if v2 = v4 then b_320_42 R l0 l1 l2 (1 : Int32) hp else b_320_42 R l0 l1 l2 (0 : Int32) hp))))) else b_320_8 R l1 l2 hp))
theorem t_320_0 {X : mjX} {d C S kc ks : Nat} {R : mjR} (hR : mjC R d) (h1 : kc ≤ C) (h2 : ks ≤ S) : P_320_0 X (d + 1) C S kc ks (b_320_0 R) := by
  intro l0 l1 l2 hp q h
  unfold b_320_0 at h
  refine mjr_iload_n (x := l1) D_320_0 rfl ?_
  refine mjq_if_lt (tgt := 8) D_320_1 rfl h (fun h => ?_) (fun h => ?_)
  · exact mjG.fg (lo' := [none, some (.int l1), some (.int l2), none, none]) (And.intro rfl (And.intro rfl True.intro)) ((t_320_8 hR h1 h2) _ _ _ _ h)
  · refine mjr_iload_n (x := l2) D_320_4 rfl ?_
    refine mjq_if_ge (tgt := 22) D_320_5 rfl h (fun h => ?_) (fun h => ?_)
    · refine mjr_aload_n (x := l0) D_320_22 rfl ?_
      refine mjq_gR D_320_23 fr_12_136 h (fun v1 h => ?_)
      refine mjr_iload_n (x := l1) D_320_26 rfl ?_
      refine mjq_aI D_320_27 h (fun v2 h => ?_)
      refine mjr_aload_n (x := l0) D_320_28 rfl ?_
      refine mjq_gR D_320_29 fr_12_136 h (fun v3 h => ?_)
      refine mjr_iload_n (x := l2) D_320_32 rfl ?_
      refine mjq_aI D_320_33 h (fun v4 h => ?_)
      refine mjq_icmp_ne (tgt := 41) D_320_34 rfl h (fun h => ?_) (fun h => ?_)
      · refine mjq_ic (v := (0 : Int32)) D_320_41 rfl ?_
        exact (t_320_42 hR h1 h2) _ _ _ _ _ _ h
      · refine mjq_ic (v := (1 : Int32)) D_320_37 rfl ?_
        refine mjr_goto (tgt := 42) D_320_38 rfl ?_
        exact (t_320_42 hR h1 h2) _ _ _ _ _ _ h
    · exact mjG.fg (lo' := [none, some (.int l1), some (.int l2), none, none]) (And.intro rfl (And.intro rfl True.intro)) ((t_320_8 hR h1 h2) _ _ _ _ h)
noncomputable def f_320 (R : mjR) (a0 : Nat) (a1 : Int32) (a2 : Int32) (hp : mjH) : mjU := b_320_0 R a0 a1 a2 hp
theorem c_320 {R : mjR} {d : Nat} (hR : mjC R d) {a0 : Nat} {a1 : Int32} {a2 : Int32} {hp : mjH} {q : Option Value × mjH} (h : f_320 R a0 a1 a2 hp = some q) : mjM (d + 1) 0 0 320 [.ref a0, .int a1, .int a2] hp (mjEq q) :=
  mjM_of Ja_320 (Nat.le_of_ble_eq_true rfl) (mjG.fg (lo' := [some (.ref a0), some (.int a1), some (.int a2), none, none]) (And.intro rfl (And.intro rfl (And.intro rfl True.intro))) ((t_320_0 hR (Nat.le_refl 0) (Nat.le_refl 0)) a0 a1 a2 hp q h))
def J_321 : mjI := (⟨"OwnerHeapModel", "places", "(I)V"⟩, 12, prog_14_method_66_code, 8, none, 1, false)
theorem Ja_321 : mjMt 321 = some J_321 := by rfl
theorem D_321_0 : decode J_321.2.2.1 0 = .ok (.iconst 0, 1) := dzq_3 (by decide +kernel)
theorem D_321_1 : decode J_321.2.2.1 1 = .ok (.istore_n 2, 1) := dzq_61 (by decide +kernel)
theorem D_321_2 : decode J_321.2.2.1 2 = .ok (.iload_n 1, 1) := dzq_27 (by decide +kernel)
theorem D_321_3 : decode J_321.2.2.1 3 = .ok (.istore_n 3, 1) := dzq_62 (by decide +kernel)
theorem D_321_4 : decode J_321.2.2.1 4 = .ok (.iload_n 3, 1) := dzq_29 (by decide +kernel)
theorem D_321_5 : decode J_321.2.2.1 5 = .ok (.iconst (-1), 1) := dzq_2 (by decide +kernel)
theorem D_321_6 : decode J_321.2.2.1 6 = .ok (.if_icmp .eq 22, 3) := dzq_159 (by decide +kernel)
theorem D_321_9 : decode J_321.2.2.1 9 = .ok (.aload_n 0, 1) := dzq_42 (by decide +kernel)
theorem D_321_10 : decode J_321.2.2.1 10 = .ok (.getfield 275, 3) := dzq_180 (by decide +kernel)
theorem D_321_13 : decode J_321.2.2.1 13 = .ok (.iload_n 2, 1) := dzq_28 (by decide +kernel)
theorem D_321_14 : decode J_321.2.2.1 14 = .ok (.iload_n 3, 1) := dzq_29 (by decide +kernel)
theorem D_321_15 : decode J_321.2.2.1 15 = .ok (.iastore, 1) := dzq_79 (by decide +kernel)
theorem D_321_16 : decode J_321.2.2.1 16 = .ok (.iinc 2 1, 3) := dzq_132 (by decide +kernel)
theorem D_321_19 : decode J_321.2.2.1 19 = .ok (.aload_n 0, 1) := dzq_42 (by decide +kernel)
theorem D_321_20 : decode J_321.2.2.1 20 = .ok (.iload_n 3, 1) := dzq_29 (by decide +kernel)
theorem D_321_21 : decode J_321.2.2.1 21 = .ok (.invokevirtual 538, 3) := dzq_182 (by decide +kernel)
theorem D_321_24 : decode J_321.2.2.1 24 = .ok (.istore_n 3, 1) := dzq_62 (by decide +kernel)
theorem D_321_25 : decode J_321.2.2.1 25 = .ok (.goto (-21), 3) := dzq_167 (by decide +kernel)
theorem D_321_28 : decode J_321.2.2.1 28 = .ok (.iconst 0, 1) := dzq_3 (by decide +kernel)
theorem D_321_29 : decode J_321.2.2.1 29 = .ok (.istore_n 3, 1) := dzq_62 (by decide +kernel)
theorem D_321_30 : decode J_321.2.2.1 30 = .ok (.iload_n 2, 1) := dzq_28 (by decide +kernel)
theorem D_321_31 : decode J_321.2.2.1 31 = .ok (.iconst 1, 1) := dzq_4 (by decide +kernel)
theorem D_321_32 : decode J_321.2.2.1 32 = .ok (.isub, 1) := dzq_100 (by decide +kernel)
theorem D_321_33 : decode J_321.2.2.1 33 = .ok (.istore 4, 2) := dzq_54 (by decide +kernel)
theorem D_321_35 : decode J_321.2.2.1 35 = .ok (.iload 4, 2) := dzq_21 (by decide +kernel)
theorem D_321_37 : decode J_321.2.2.1 37 = .ok (.ifCond .lt 143, 3) := dzq_155 (by decide +kernel)
theorem D_321_40 : decode J_321.2.2.1 40 = .ok (.iconst 0, 1) := dzq_3 (by decide +kernel)
theorem D_321_41 : decode J_321.2.2.1 41 = .ok (.istore 5, 2) := dzq_54 (by decide +kernel)
theorem D_321_43 : decode J_321.2.2.1 43 = .ok (.aload_n 0, 1) := dzq_42 (by decide +kernel)
theorem D_321_44 : decode J_321.2.2.1 44 = .ok (.getfield 39, 3) := dzq_180 (by decide +kernel)
theorem D_321_47 : decode J_321.2.2.1 47 = .ok (.aload_n 0, 1) := dzq_42 (by decide +kernel)
theorem D_321_48 : decode J_321.2.2.1 48 = .ok (.getfield 275, 3) := dzq_180 (by decide +kernel)
theorem D_321_51 : decode J_321.2.2.1 51 = .ok (.iload 4, 2) := dzq_21 (by decide +kernel)
theorem D_321_53 : decode J_321.2.2.1 53 = .ok (.iaload, 1) := dzq_46 (by decide +kernel)
theorem D_321_54 : decode J_321.2.2.1 54 = .ok (.iaload, 1) := dzq_46 (by decide +kernel)
theorem D_321_55 : decode J_321.2.2.1 55 = .ok (.sipush 400, 3) := dzq_17 (by decide +kernel)
theorem D_321_58 : decode J_321.2.2.1 58 = .ok (.aload_n 0, 1) := dzq_42 (by decide +kernel)
theorem D_321_59 : decode J_321.2.2.1 59 = .ok (.getfield 356, 3) := dzq_180 (by decide +kernel)
theorem D_321_62 : decode J_321.2.2.1 62 = .ok (.imul, 1) := dzq_104 (by decide +kernel)
theorem D_321_63 : decode J_321.2.2.1 63 = .ok (.iadd, 1) := dzq_96 (by decide +kernel)
theorem D_321_64 : decode J_321.2.2.1 64 = .ok (.istore 6, 2) := dzq_54 (by decide +kernel)
theorem D_321_66 : decode J_321.2.2.1 66 = .ok (.iload 6, 2) := dzq_21 (by decide +kernel)
theorem D_321_68 : decode J_321.2.2.1 68 = .ok (.istore 7, 2) := dzq_54 (by decide +kernel)
theorem D_321_70 : decode J_321.2.2.1 70 = .ok (.iload 7, 2) := dzq_21 (by decide +kernel)
theorem D_321_72 : decode J_321.2.2.1 72 = .ok (.iload 6, 2) := dzq_21 (by decide +kernel)
theorem D_321_74 : decode J_321.2.2.1 74 = .ok (.aload_n 0, 1) := dzq_42 (by decide +kernel)
theorem D_321_75 : decode J_321.2.2.1 75 = .ok (.getfield 42, 3) := dzq_180 (by decide +kernel)
theorem D_321_78 : decode J_321.2.2.1 78 = .ok (.aload_n 0, 1) := dzq_42 (by decide +kernel)
theorem D_321_79 : decode J_321.2.2.1 79 = .ok (.getfield 275, 3) := dzq_180 (by decide +kernel)
theorem D_321_82 : decode J_321.2.2.1 82 = .ok (.iload 4, 2) := dzq_21 (by decide +kernel)
theorem D_321_84 : decode J_321.2.2.1 84 = .ok (.iaload, 1) := dzq_46 (by decide +kernel)
theorem D_321_85 : decode J_321.2.2.1 85 = .ok (.iaload, 1) := dzq_46 (by decide +kernel)
theorem D_321_86 : decode J_321.2.2.1 86 = .ok (.iadd, 1) := dzq_96 (by decide +kernel)
theorem D_321_87 : decode J_321.2.2.1 87 = .ok (.if_icmp .ge 73, 3) := dzq_162 (by decide +kernel)
theorem D_321_90 : decode J_321.2.2.1 90 = .ok (.aload_n 0, 1) := dzq_42 (by decide +kernel)
theorem D_321_91 : decode J_321.2.2.1 91 = .ok (.getfield 94, 3) := dzq_180 (by decide +kernel)
theorem D_321_94 : decode J_321.2.2.1 94 = .ok (.iload 7, 2) := dzq_21 (by decide +kernel)
theorem D_321_96 : decode J_321.2.2.1 96 = .ok (.iaload, 1) := dzq_46 (by decide +kernel)
theorem D_321_97 : decode J_321.2.2.1 97 = .ok (.iconst 1, 1) := dzq_4 (by decide +kernel)
theorem D_321_98 : decode J_321.2.2.1 98 = .ok (.if_icmp .ne 18, 3) := dzq_160 (by decide +kernel)
theorem D_321_101 : decode J_321.2.2.1 101 = .ok (.aload_n 0, 1) := dzq_42 (by decide +kernel)
theorem D_321_102 : decode J_321.2.2.1 102 = .ok (.getfield 109, 3) := dzq_180 (by decide +kernel)
theorem D_321_105 : decode J_321.2.2.1 105 = .ok (.iload 7, 2) := dzq_21 (by decide +kernel)
theorem D_321_107 : decode J_321.2.2.1 107 = .ok (.iload 5, 2) := dzq_21 (by decide +kernel)
theorem D_321_109 : decode J_321.2.2.1 109 = .ok (.iastore, 1) := dzq_79 (by decide +kernel)
theorem D_321_110 : decode J_321.2.2.1 110 = .ok (.iinc 5 1, 3) := dzq_132 (by decide +kernel)
theorem D_321_113 : decode J_321.2.2.1 113 = .ok (.goto 41, 3) := dzq_167 (by decide +kernel)
theorem D_321_116 : decode J_321.2.2.1 116 = .ok (.aload_n 0, 1) := dzq_42 (by decide +kernel)
theorem D_321_117 : decode J_321.2.2.1 117 = .ok (.getfield 109, 3) := dzq_180 (by decide +kernel)
theorem D_321_120 : decode J_321.2.2.1 120 = .ok (.iload 7, 2) := dzq_21 (by decide +kernel)
theorem D_321_122 : decode J_321.2.2.1 122 = .ok (.iload_n 3, 1) := dzq_29 (by decide +kernel)
theorem D_321_123 : decode J_321.2.2.1 123 = .ok (.iastore, 1) := dzq_79 (by decide +kernel)
theorem D_321_124 : decode J_321.2.2.1 124 = .ok (.aload_n 0, 1) := dzq_42 (by decide +kernel)
theorem D_321_125 : decode J_321.2.2.1 125 = .ok (.getfield 278, 3) := dzq_180 (by decide +kernel)
theorem D_321_128 : decode J_321.2.2.1 128 = .ok (.sipush 400, 3) := dzq_17 (by decide +kernel)
theorem D_321_131 : decode J_321.2.2.1 131 = .ok (.iload_n 1, 1) := dzq_27 (by decide +kernel)
theorem D_321_132 : decode J_321.2.2.1 132 = .ok (.imul, 1) := dzq_104 (by decide +kernel)
theorem D_321_133 : decode J_321.2.2.1 133 = .ok (.iload_n 3, 1) := dzq_29 (by decide +kernel)
theorem D_321_134 : decode J_321.2.2.1 134 = .ok (.iadd, 1) := dzq_96 (by decide +kernel)
theorem D_321_135 : decode J_321.2.2.1 135 = .ok (.aload_n 0, 1) := dzq_42 (by decide +kernel)
theorem D_321_136 : decode J_321.2.2.1 136 = .ok (.getfield 97, 3) := dzq_180 (by decide +kernel)
theorem D_321_139 : decode J_321.2.2.1 139 = .ok (.iload 7, 2) := dzq_21 (by decide +kernel)
theorem D_321_141 : decode J_321.2.2.1 141 = .ok (.iaload, 1) := dzq_46 (by decide +kernel)
theorem D_321_142 : decode J_321.2.2.1 142 = .ok (.ifCond .lt 7, 3) := dzq_155 (by decide +kernel)
theorem D_321_145 : decode J_321.2.2.1 145 = .ok (.iconst 1, 1) := dzq_4 (by decide +kernel)
theorem D_321_146 : decode J_321.2.2.1 146 = .ok (.goto 4, 3) := dzq_167 (by decide +kernel)
theorem D_321_149 : decode J_321.2.2.1 149 = .ok (.iconst 0, 1) := dzq_3 (by decide +kernel)
theorem D_321_150 : decode J_321.2.2.1 150 = .ok (.bastore, 1) := by decide +kernel
theorem D_321_151 : decode J_321.2.2.1 151 = .ok (.iinc 3 1, 3) := dzq_132 (by decide +kernel)
theorem D_321_154 : decode J_321.2.2.1 154 = .ok (.iinc 7 1, 3) := dzq_132 (by decide +kernel)
theorem D_321_157 : decode J_321.2.2.1 157 = .ok (.goto (-87), 3) := dzq_167 (by decide +kernel)
theorem D_321_160 : decode J_321.2.2.1 160 = .ok (.aload_n 0, 1) := dzq_42 (by decide +kernel)
theorem D_321_161 : decode J_321.2.2.1 161 = .ok (.getfield 48, 3) := dzq_180 (by decide +kernel)
theorem D_321_164 : decode J_321.2.2.1 164 = .ok (.aload_n 0, 1) := dzq_42 (by decide +kernel)
theorem D_321_165 : decode J_321.2.2.1 165 = .ok (.getfield 275, 3) := dzq_180 (by decide +kernel)
theorem D_321_168 : decode J_321.2.2.1 168 = .ok (.iload 4, 2) := dzq_21 (by decide +kernel)
theorem D_321_170 : decode J_321.2.2.1 170 = .ok (.iaload, 1) := dzq_46 (by decide +kernel)
theorem D_321_171 : decode J_321.2.2.1 171 = .ok (.iload 5, 2) := dzq_21 (by decide +kernel)
theorem D_321_173 : decode J_321.2.2.1 173 = .ok (.iastore, 1) := dzq_79 (by decide +kernel)
theorem D_321_174 : decode J_321.2.2.1 174 = .ok (.iinc 4 (-1), 3) := dzq_132 (by decide +kernel)
theorem D_321_177 : decode J_321.2.2.1 177 = .ok (.goto (-142), 3) := dzq_167 (by decide +kernel)
theorem D_321_180 : decode J_321.2.2.1 180 = .ok (.aload_n 0, 1) := dzq_42 (by decide +kernel)
theorem D_321_181 : decode J_321.2.2.1 181 = .ok (.getfield 45, 3) := dzq_180 (by decide +kernel)
theorem D_321_184 : decode J_321.2.2.1 184 = .ok (.iload_n 1, 1) := dzq_27 (by decide +kernel)
theorem D_321_185 : decode J_321.2.2.1 185 = .ok (.iload_n 3, 1) := dzq_29 (by decide +kernel)
theorem D_321_186 : decode J_321.2.2.1 186 = .ok (.iastore, 1) := dzq_79 (by decide +kernel)
theorem D_321_187 : decode J_321.2.2.1 187 = .ok (.return_, 1) := dzq_177 (by decide +kernel)
def P_321_154 (X : mjX) (d C S kc ks : Nat) (k : Nat → Int32 → Int32 → Int32 → Int32 → Int32 → Int32 → mjH → mjU) : Prop := ∀ (l0 : Nat) (l1 : Int32) (l3 : Int32) (l4 : Int32) (l5 : Int32) (l6 : Int32) (l7 : Int32) (hp : mjH) (q : Option Value × mjH), k l0 l1 l3 l4 l5 l6 l7 hp = some q → mjG X d C S J_321 (mjEq q) 154 [some (.ref l0), some (.int l1), none, some (.int l3), some (.int l4), some (.int l5), some (.int l6), some (.int l7)] [] hp kc ks
def P_321_150 (X : mjX) (d C S kc ks : Nat) (k : Nat → Int32 → Int32 → Int32 → Int32 → Int32 → Int32 → Nat → Int32 → Int32 → mjH → mjU) : Prop := ∀ (l0 : Nat) (l1 : Int32) (l3 : Int32) (l4 : Int32) (l5 : Int32) (l6 : Int32) (l7 : Int32) (s0 : Nat) (s1 : Int32) (s2 : Int32) (hp : mjH) (q : Option Value × mjH), k l0 l1 l3 l4 l5 l6 l7 s0 s1 s2 hp = some q → mjG X d C S J_321 (mjEq q) 150 [some (.ref l0), some (.int l1), none, some (.int l3), some (.int l4), some (.int l5), some (.int l6), some (.int l7)] [.int s2, .int s1, .ref s0] hp kc ks
def P_321_70 (X : mjX) (d C S kc ks : Nat) (k : Nat → Int32 → Int32 → Int32 → Int32 → Int32 → Int32 → mjH → mjU) : Prop := ∀ (l0 : Nat) (l1 : Int32) (l3 : Int32) (l4 : Int32) (l5 : Int32) (l6 : Int32) (l7 : Int32) (hp : mjH) (q : Option Value × mjH), k l0 l1 l3 l4 l5 l6 l7 hp = some q → mjG X d C S J_321 (mjEq q) 70 [some (.ref l0), some (.int l1), none, some (.int l3), some (.int l4), some (.int l5), some (.int l6), some (.int l7)] [] hp kc ks
def P_321_35 (X : mjX) (d C S kc ks : Nat) (k : Nat → Int32 → Int32 → Int32 → mjH → mjU) : Prop := ∀ (l0 : Nat) (l1 : Int32) (l3 : Int32) (l4 : Int32) (hp : mjH) (q : Option Value × mjH), k l0 l1 l3 l4 hp = some q → mjG X d C S J_321 (mjEq q) 35 [some (.ref l0), some (.int l1), none, some (.int l3), some (.int l4), none, none, none] [] hp kc ks
def P_321_4 (X : mjX) (d C S kc ks : Nat) (k : Nat → Int32 → Int32 → Int32 → mjH → mjU) : Prop := ∀ (l0 : Nat) (l1 : Int32) (l2 : Int32) (l3 : Int32) (hp : mjH) (q : Option Value × mjH), k l0 l1 l2 l3 hp = some q → mjG X d C S J_321 (mjEq q) 4 [some (.ref l0), some (.int l1), some (.int l2), some (.int l3), none, none, none, none] [] hp kc ks
def P_321_0 (X : mjX) (d C S kc ks : Nat) (k : Nat → Int32 → mjH → mjU) : Prop := ∀ (l0 : Nat) (l1 : Int32) (hp : mjH) (q : Option Value × mjH), k l0 l1 hp = some q → mjG X d C S J_321 (mjEq q) 0 [some (.ref l0), some (.int l1), none, none, none, none, none, none] [] hp kc ks
noncomputable def b_321_154 (R : mjR) (k35 : Nat → Int32 → Int32 → Int32 → mjH → mjU) (k70 : Nat → Int32 → Int32 → Int32 → Int32 → Int32 → Int32 → mjH → mjU) (l0 : Nat) (l1 : Int32) (l3 : Int32) (l4 : Int32) (l5 : Int32) (l6 : Int32) (l7 : Int32) (hp : mjH) : mjU := k70 l0 l1 l3 l4 l5 l6 (l7 + (1 : Int32)) hp
theorem t_321_154 {X : mjX} {d C S kc ks : Nat} {R : mjR} (hR : mjC R d) (h1 : kc ≤ C) (h2 : ks ≤ S) {k35 : Nat → Int32 → Int32 → Int32 → mjH → mjU} (hk35 : P_321_35 X (d + 1) C S kc ks k35) {k70 : Nat → Int32 → Int32 → Int32 → Int32 → Int32 → Int32 → mjH → mjU} (hk70 : P_321_70 X (d + 1) C S kc ks k70) : P_321_154 X (d + 1) C S kc ks (b_321_154 R k35 k70) := by
  intro l0 l1 l3 l4 l5 l6 l7 hp q h
  unfold b_321_154 at h
  refine mjq_iinc (x := l7) (c := (1 : Int32)) (lo' := [some (.ref l0), some (.int l1), none, some (.int l3), some (.int l4), some (.int l5), some (.int l6), some (.int (l7 + (1 : Int32)))]) D_321_154 rfl (Nat.le_of_ble_eq_true rfl) rfl rfl ?_
  refine mjr_goto (tgt := 70) D_321_157 rfl ?_
  exact hk70 _ _ _ _ _ _ _ _ _ h
noncomputable def b_321_150 (R : mjR) (k35 : Nat → Int32 → Int32 → Int32 → mjH → mjU) (k70 : Nat → Int32 → Int32 → Int32 → Int32 → Int32 → Int32 → mjH → mjU) (l0 : Nat) (l1 : Int32) (l3 : Int32) (l4 : Int32) (l5 : Int32) (l6 : Int32) (l7 : Int32) (s0 : Nat) (s1 : Int32) (s2 : Int32) (hp : mjH) : mjU := sB hp s0 s1 s2 (fun hp1 => b_321_154 R k35 k70 l0 l1 (l3 + (1 : Int32)) l4 l5 l6 l7 hp1)
theorem t_321_150 {X : mjX} {d C S kc ks : Nat} {R : mjR} (hR : mjC R d) (h1 : kc ≤ C) (h2 : ks ≤ S) {k35 : Nat → Int32 → Int32 → Int32 → mjH → mjU} (hk35 : P_321_35 X (d + 1) C S kc ks k35) {k70 : Nat → Int32 → Int32 → Int32 → Int32 → Int32 → Int32 → mjH → mjU} (hk70 : P_321_70 X (d + 1) C S kc ks k70) : P_321_150 X (d + 1) C S kc ks (b_321_150 R k35 k70) := by
  intro l0 l1 l3 l4 l5 l6 l7 s0 s1 s2 hp q h
  unfold b_321_150 at h
  refine mjq_sB D_321_150 h (fun hp1 h => ?_)
  refine mjq_iinc (x := l3) (c := (1 : Int32)) (lo' := [some (.ref l0), some (.int l1), none, some (.int (l3 + (1 : Int32))), some (.int l4), some (.int l5), some (.int l6), some (.int l7)]) D_321_151 rfl (Nat.le_of_ble_eq_true rfl) rfl rfl ?_
  exact (t_321_154 hR h1 h2 hk35 hk70) _ _ _ _ _ _ _ _ _ h
noncomputable def b_321_70 (R : mjR) (k35 : Nat → Int32 → Int32 → Int32 → mjH → mjU) (k70 : Nat → Int32 → Int32 → Int32 → Int32 → Int32 → Int32 → mjH → mjU) (l0 : Nat) (l1 : Int32) (l3 : Int32) (l4 : Int32) (l5 : Int32) (l6 : Int32) (l7 : Int32) (hp : mjH) : mjU := gR hp l0 12 19 (fun v1 => gR hp l0 12 130 (fun v2 => aI hp v2 l4 (fun v3 => aI hp v1 v3 (fun v4 => (if (l6 + v4) ≤ l7 then gR hp l0 12 21 (fun v5 => gR hp l0 12 130 (fun v6 => aI hp v6 l4 (fun v7 => sI hp v5 v7 l5 (fun hp8 => k35 l0 l1 l3 (l4 + (-1 : Int32)) hp8)))) else gR hp l0 12 36 (fun v9 => aI hp v9 l7 (fun v10 => (if v10 = (1 : Int32) then gR hp l0 12 41 (fun v16 => sI hp v16 l7 l5 (fun hp17 => b_321_154 R k35 k70 l0 l1 l3 l4 (l5 + (1 : Int32)) l6 l7 hp17)) else gR hp l0 12 41 (fun v11 => sI hp v11 l7 l3 (fun hp12 => gR hp12 l0 12 131 (fun v13 => gR hp12 l0 12 37 (fun v14 => aI hp12 v14 l7 (fun v15 => (if v15 < 0 then b_321_150 R k35 k70 l0 l1 l3 l4 l5 l6 l7 v13 (((400 : Int32) * l1) + l3) (0 : Int32) hp12 else b_321_150 R k35 k70 l0 l1 l3 l4 l5 l6 l7 v13 (((400 : Int32) * l1) + l3) (1 : Int32) hp12))))))))))))))
theorem t_321_70 {X : mjX} {d C S kc ks : Nat} {R : mjR} (hR : mjC R d) (h1 : kc ≤ C) (h2 : ks ≤ S) {k35 : Nat → Int32 → Int32 → Int32 → mjH → mjU} (hk35 : P_321_35 X (d + 1) C S kc ks k35) {k70 : Nat → Int32 → Int32 → Int32 → Int32 → Int32 → Int32 → mjH → mjU} (hk70 : P_321_70 X (d + 1) C S kc ks k70) : P_321_70 X (d + 1) C S kc ks (b_321_70 R k35 k70) := by
  intro l0 l1 l3 l4 l5 l6 l7 hp q h
  unfold b_321_70 at h
  refine mjr_iload (x := l7) D_321_70 rfl ?_
  refine mjr_iload (x := l6) D_321_72 rfl ?_
  refine mjr_aload_n (x := l0) D_321_74 rfl ?_
  refine mjq_gR D_321_75 fr_12_42 h (fun v1 h => ?_)
  refine mjr_aload_n (x := l0) D_321_78 rfl ?_
  refine mjq_gR D_321_79 fr_12_275 h (fun v2 h => ?_)
  refine mjr_iload (x := l4) D_321_82 rfl ?_
  refine mjq_aI D_321_84 h (fun v3 h => ?_)
  refine mjq_aI D_321_85 h (fun v4 h => ?_)
  refine mjr_iadd D_321_86 ?_
  refine mjq_icmp_ge (tgt := 160) D_321_87 rfl h (fun h => ?_) (fun h => ?_)
  · refine mjr_aload_n (x := l0) D_321_160 rfl ?_
    refine mjq_gR D_321_161 fr_12_48 h (fun v5 h => ?_)
    refine mjr_aload_n (x := l0) D_321_164 rfl ?_
    refine mjq_gR D_321_165 fr_12_275 h (fun v6 h => ?_)
    refine mjr_iload (x := l4) D_321_168 rfl ?_
    refine mjq_aI D_321_170 h (fun v7 h => ?_)
    refine mjr_iload (x := l5) D_321_171 rfl ?_
    refine mjq_sI D_321_173 h (fun hp8 h => ?_)
    refine mjq_iinc (x := l4) (c := (-1 : Int32)) (lo' := [some (.ref l0), some (.int l1), none, some (.int l3), some (.int (l4 + (-1 : Int32))), some (.int l5), some (.int l6), some (.int l7)]) D_321_174 rfl (Nat.le_of_ble_eq_true rfl) rfl rfl ?_
    refine mjr_goto (tgt := 35) D_321_177 rfl ?_
    exact mjG.fg (lo' := [some (.ref l0), some (.int l1), none, some (.int l3), some (.int (l4 + (-1 : Int32))), none, none, none]) (And.intro rfl (And.intro rfl (And.intro rfl (And.intro rfl True.intro)))) (hk35 _ _ _ _ _ _ h)
  · refine mjr_aload_n (x := l0) D_321_90 rfl ?_
    refine mjq_gR D_321_91 fr_12_94 h (fun v9 h => ?_)
    refine mjr_iload (x := l7) D_321_94 rfl ?_
    refine mjq_aI D_321_96 h (fun v10 h => ?_)
    refine mjq_ic (v := (1 : Int32)) D_321_97 rfl ?_
    refine mjq_icmp_ne (tgt := 116) D_321_98 rfl h (fun h => ?_) (fun h => ?_)
    · refine mjr_aload_n (x := l0) D_321_116 rfl ?_
      refine mjq_gR D_321_117 fr_12_109 h (fun v11 h => ?_)
      refine mjr_iload (x := l7) D_321_120 rfl ?_
      refine mjr_iload_n (x := l3) D_321_122 rfl ?_
      refine mjq_sI D_321_123 h (fun hp12 h => ?_)
      refine mjr_aload_n (x := l0) D_321_124 rfl ?_
      refine mjq_gR D_321_125 fr_12_278 h (fun v13 h => ?_)
      refine mjq_si (v := (400 : Int32)) D_321_128 rfl ?_
      refine mjr_iload_n (x := l1) D_321_131 rfl ?_
      refine mjr_imul D_321_132 ?_
      refine mjr_iload_n (x := l3) D_321_133 rfl ?_
      refine mjr_iadd D_321_134 ?_
      refine mjr_aload_n (x := l0) D_321_135 rfl ?_
      refine mjq_gR D_321_136 fr_12_97 h (fun v14 h => ?_)
      refine mjr_iload (x := l7) D_321_139 rfl ?_
      refine mjq_aI D_321_141 h (fun v15 h => ?_)
      refine mjq_if_lt (tgt := 149) D_321_142 rfl h (fun h => ?_) (fun h => ?_)
      · refine mjq_ic (v := (0 : Int32)) D_321_149 rfl ?_
        exact (t_321_150 hR h1 h2 hk35 hk70) _ _ _ _ _ _ _ _ _ _ _ _ h
      · refine mjq_ic (v := (1 : Int32)) D_321_145 rfl ?_
        refine mjr_goto (tgt := 150) D_321_146 rfl ?_
        exact (t_321_150 hR h1 h2 hk35 hk70) _ _ _ _ _ _ _ _ _ _ _ _ h
    · refine mjr_aload_n (x := l0) D_321_101 rfl ?_
      refine mjq_gR D_321_102 fr_12_109 h (fun v16 h => ?_)
      refine mjr_iload (x := l7) D_321_105 rfl ?_
      refine mjr_iload (x := l5) D_321_107 rfl ?_
      refine mjq_sI D_321_109 h (fun hp17 h => ?_)
      refine mjq_iinc (x := l5) (c := (1 : Int32)) (lo' := [some (.ref l0), some (.int l1), none, some (.int l3), some (.int l4), some (.int (l5 + (1 : Int32))), some (.int l6), some (.int l7)]) D_321_110 rfl (Nat.le_of_ble_eq_true rfl) rfl rfl ?_
      refine mjr_goto (tgt := 154) D_321_113 rfl ?_
      exact (t_321_154 hR h1 h2 hk35 hk70) _ _ _ _ _ _ _ _ _ h
noncomputable def L_321_70 (R : mjR) (k35 : Nat → Int32 → Int32 → Int32 → mjH → mjU) (n : Nat) : Nat → Int32 → Int32 → Int32 → Int32 → Int32 → Int32 → mjH → mjU := Nat.rec (motive := fun _ => Nat → Int32 → Int32 → Int32 → Int32 → Int32 → Int32 → mjH → mjU) (fun _ _ _ _ _ _ _ _ => none) (fun _ self => b_321_70 R k35 self) n
theorem T_321_70 {X : mjX} {d C S kc ks : Nat} {R : mjR} (hR : mjC R d) (h1 : kc ≤ C) (h2 : ks ≤ S) {k35 : Nat → Int32 → Int32 → Int32 → mjH → mjU} (hk35 : P_321_35 X (d + 1) C S kc ks k35) (n : Nat) : P_321_70 X (d + 1) C S kc ks (L_321_70 R k35 n) := by
  induction n with
  | zero => intro _ _ _ _ _ _ _ _ _ h; exact mj_no h
  | succ n ih => exact t_321_70 hR h1 h2 hk35 ih
noncomputable def b_321_35 (R : mjR) (k35 : Nat → Int32 → Int32 → Int32 → mjH → mjU) (l0 : Nat) (l1 : Int32) (l3 : Int32) (l4 : Int32) (hp : mjH) : mjU := (if l4 < 0 then gR hp l0 12 20 (fun v1 => sI hp v1 l1 l3 (fun hp2 => some (none, hp2))) else gR hp l0 12 18 (fun v3 => gR hp l0 12 130 (fun v4 => aI hp v4 l4 (fun v5 => aI hp v3 v5 (fun v6 => gI hp l0 12 63 (fun v7 => L_321_70 R k35 mjN l0 l1 l3 l4 (0 : Int32) (v6 + ((400 : Int32) * v7)) (v6 + ((400 : Int32) * v7)) hp))))))
theorem t_321_35 {X : mjX} {d C S kc ks : Nat} {R : mjR} (hR : mjC R d) (h1 : kc ≤ C) (h2 : ks ≤ S) {k35 : Nat → Int32 → Int32 → Int32 → mjH → mjU} (hk35 : P_321_35 X (d + 1) C S kc ks k35) : P_321_35 X (d + 1) C S kc ks (b_321_35 R k35) := by
  intro l0 l1 l3 l4 hp q h
  unfold b_321_35 at h
  refine mjr_iload (x := l4) D_321_35 rfl ?_
  refine mjq_if_lt (tgt := 180) D_321_37 rfl h (fun h => ?_) (fun h => ?_)
  · refine mjr_aload_n (x := l0) D_321_180 rfl ?_
    refine mjq_gR D_321_181 fr_12_45 h (fun v1 h => ?_)
    refine mjr_iload_n (x := l1) D_321_184 rfl ?_
    refine mjr_iload_n (x := l3) D_321_185 rfl ?_
    refine mjq_sI D_321_186 h (fun hp2 h => ?_)
    exact mjq_nret D_321_187 rfl h1 h2 h
  · refine mjq_ic (v := (0 : Int32)) D_321_40 rfl ?_
    refine mjq_istore (lo' := [some (.ref l0), some (.int l1), none, some (.int l3), some (.int l4), some (.int (0 : Int32)), none, none]) D_321_41 (Nat.le_of_ble_eq_true rfl) rfl ?_
    refine mjr_aload_n (x := l0) D_321_43 rfl ?_
    refine mjq_gR D_321_44 fr_12_39 h (fun v3 h => ?_)
    refine mjr_aload_n (x := l0) D_321_47 rfl ?_
    refine mjq_gR D_321_48 fr_12_275 h (fun v4 h => ?_)
    refine mjr_iload (x := l4) D_321_51 rfl ?_
    refine mjq_aI D_321_53 h (fun v5 h => ?_)
    refine mjq_aI D_321_54 h (fun v6 h => ?_)
    refine mjq_si (v := (400 : Int32)) D_321_55 rfl ?_
    refine mjr_aload_n (x := l0) D_321_58 rfl ?_
    refine mjq_gI D_321_59 fr_12_356 h (fun v7 h => ?_)
    refine mjr_imul D_321_62 ?_
    refine mjr_iadd D_321_63 ?_
    refine mjq_istore (lo' := [some (.ref l0), some (.int l1), none, some (.int l3), some (.int l4), some (.int (0 : Int32)), some (.int (v6 + ((400 : Int32) * v7))), none]) D_321_64 (Nat.le_of_ble_eq_true rfl) rfl ?_
    refine mjr_iload (x := (v6 + ((400 : Int32) * v7))) D_321_66 rfl ?_
    refine mjq_istore (lo' := [some (.ref l0), some (.int l1), none, some (.int l3), some (.int l4), some (.int (0 : Int32)), some (.int (v6 + ((400 : Int32) * v7))), some (.int (v6 + ((400 : Int32) * v7)))]) D_321_68 (Nat.le_of_ble_eq_true rfl) rfl ?_
    exact (T_321_70 hR h1 h2 hk35 mjN) _ _ _ _ _ _ _ _ _ h
noncomputable def L_321_35 (R : mjR) (n : Nat) : Nat → Int32 → Int32 → Int32 → mjH → mjU := Nat.rec (motive := fun _ => Nat → Int32 → Int32 → Int32 → mjH → mjU) (fun _ _ _ _ _ => none) (fun _ self => b_321_35 R self) n
theorem T_321_35 {X : mjX} {d C S kc ks : Nat} {R : mjR} (hR : mjC R d) (h1 : kc ≤ C) (h2 : ks ≤ S) (n : Nat) : P_321_35 X (d + 1) C S kc ks (L_321_35 R n) := by
  induction n with
  | zero => intro _ _ _ _ _ _ h; exact mj_no h
  | succ n ih => exact t_321_35 hR h1 h2 ih
noncomputable def b_321_4 (R : mjR) (k4 : Nat → Int32 → Int32 → Int32 → mjH → mjU) (l0 : Nat) (l1 : Int32) (l2 : Int32) (l3 : Int32) (hp : mjH) : mjU := (if l3 = (-1 : Int32) then L_321_35 R mjN l0 l1 (0 : Int32) (l2 - (1 : Int32)) hp else gR hp l0 12 130 (fun v1 => sI hp v1 l2 l3 (fun hp2 => rV hp2 l0 12 (bI (R 242 [.ref l0, .int l3] hp2) (fun v3 hp4 => k4 l0 l1 (l2 + (1 : Int32)) v3 hp4)))))
theorem t_321_4 {X : mjX} {d C S kc ks : Nat} {R : mjR} (hR : mjC R d) (h1 : kc ≤ C) (h2 : ks ≤ S) {k4 : Nat → Int32 → Int32 → Int32 → mjH → mjU} (hk4 : P_321_4 X (d + 1) C S kc ks k4) : P_321_4 X (d + 1) C S kc ks (b_321_4 R k4) := by
  intro l0 l1 l2 l3 hp q h
  unfold b_321_4 at h
  refine mjr_iload_n (x := l3) D_321_4 rfl ?_
  refine mjq_ic (v := (-1 : Int32)) D_321_5 rfl ?_
  refine mjq_icmp_eq (tgt := 28) D_321_6 rfl h (fun h => ?_) (fun h => ?_)
  · refine mjq_ic (v := (0 : Int32)) D_321_28 rfl ?_
    refine mjq_istore_n (lo' := [some (.ref l0), some (.int l1), some (.int l2), some (.int (0 : Int32)), none, none, none, none]) D_321_29 (Nat.le_of_ble_eq_true rfl) rfl ?_
    refine mjr_iload_n (x := l2) D_321_30 rfl ?_
    refine mjq_ic (v := (1 : Int32)) D_321_31 rfl ?_
    refine mjr_isub D_321_32 ?_
    refine mjq_istore (lo' := [some (.ref l0), some (.int l1), some (.int l2), some (.int (0 : Int32)), some (.int (l2 - (1 : Int32))), none, none, none]) D_321_33 (Nat.le_of_ble_eq_true rfl) rfl ?_
    exact mjG.fg (lo' := [some (.ref l0), some (.int l1), none, some (.int (0 : Int32)), some (.int (l2 - (1 : Int32))), none, none, none]) (And.intro rfl (And.intro rfl (And.intro rfl (And.intro rfl True.intro)))) ((T_321_35 hR h1 h2 mjN) _ _ _ _ _ _ h)
  · refine mjr_aload_n (x := l0) D_321_9 rfl ?_
    refine mjq_gR D_321_10 fr_12_275 h (fun v1 h => ?_)
    refine mjr_iload_n (x := l2) D_321_13 rfl ?_
    refine mjr_iload_n (x := l3) D_321_14 rfl ?_
    refine mjq_sI D_321_15 h (fun hp2 h => ?_)
    refine mjq_iinc (x := l2) (c := (1 : Int32)) (lo' := [some (.ref l0), some (.int l1), some (.int (l2 + (1 : Int32))), some (.int l3), none, none, none, none]) D_321_16 rfl (Nat.le_of_ble_eq_true rfl) rfl rfl ?_
    refine mjr_aload_n (x := l0) D_321_19 rfl ?_
    refine mjr_iload_n (x := l3) D_321_20 rfl ?_
    refine mjq_vI (As := [.int l3]) (rest := []) D_321_21 mr_12_538 V_242 rfl rfl rfl hR (Nat.le_refl _) h1 h2 h (fun v3 hp4 h => ?_)
    refine mjq_istore_n (lo' := [some (.ref l0), some (.int l1), some (.int (l2 + (1 : Int32))), some (.int v3), none, none, none, none]) D_321_24 (Nat.le_of_ble_eq_true rfl) rfl ?_
    refine mjr_goto (tgt := 4) D_321_25 rfl ?_
    exact hk4 _ _ _ _ _ _ h
noncomputable def L_321_4 (R : mjR) (n : Nat) : Nat → Int32 → Int32 → Int32 → mjH → mjU := Nat.rec (motive := fun _ => Nat → Int32 → Int32 → Int32 → mjH → mjU) (fun _ _ _ _ _ => none) (fun _ self => b_321_4 R self) n
theorem T_321_4 {X : mjX} {d C S kc ks : Nat} {R : mjR} (hR : mjC R d) (h1 : kc ≤ C) (h2 : ks ≤ S) (n : Nat) : P_321_4 X (d + 1) C S kc ks (L_321_4 R n) := by
  induction n with
  | zero => intro _ _ _ _ _ _ h; exact mj_no h
  | succ n ih => exact t_321_4 hR h1 h2 ih
noncomputable def b_321_0 (R : mjR) (l0 : Nat) (l1 : Int32) (hp : mjH) : mjU := L_321_4 R mjN l0 l1 (0 : Int32) l1 hp
theorem t_321_0 {X : mjX} {d C S kc ks : Nat} {R : mjR} (hR : mjC R d) (h1 : kc ≤ C) (h2 : ks ≤ S) : P_321_0 X (d + 1) C S kc ks (b_321_0 R) := by
  intro l0 l1 hp q h
  unfold b_321_0 at h
  refine mjq_ic (v := (0 : Int32)) D_321_0 rfl ?_
  refine mjq_istore_n (lo' := [some (.ref l0), some (.int l1), some (.int (0 : Int32)), none, none, none, none, none]) D_321_1 (Nat.le_of_ble_eq_true rfl) rfl ?_
  refine mjr_iload_n (x := l1) D_321_2 rfl ?_
  refine mjq_istore_n (lo' := [some (.ref l0), some (.int l1), some (.int (0 : Int32)), some (.int l1), none, none, none, none]) D_321_3 (Nat.le_of_ble_eq_true rfl) rfl ?_
  exact (T_321_4 hR h1 h2 mjN) _ _ _ _ _ _ h
noncomputable def f_321 (R : mjR) (a0 : Nat) (a1 : Int32) (hp : mjH) : mjU := b_321_0 R a0 a1 hp
theorem c_321 {R : mjR} {d : Nat} (hR : mjC R d) {a0 : Nat} {a1 : Int32} {hp : mjH} {q : Option Value × mjH} (h : f_321 R a0 a1 hp = some q) : mjM (d + 1) 0 0 321 [.ref a0, .int a1] hp (mjEq q) :=
  mjM_of Ja_321 (Nat.le_of_ble_eq_true rfl) (mjG.fg (lo' := [some (.ref a0), some (.int a1), none, none, none, none, none, none]) (And.intro rfl (And.intro rfl True.intro)) ((t_321_0 hR (Nat.le_refl 0) (Nat.le_refl 0)) a0 a1 hp q h))
