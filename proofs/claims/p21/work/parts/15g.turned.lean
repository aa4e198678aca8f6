def J_236 : mjI := (⟨"OwnerHeapModel", "ownersOf", "(II)V"⟩, 12, prog_14_method_81_code, 4, none, 2, false)
theorem Ja_236 : mjMt 236 = some J_236 := by rfl
theorem D_236_0 : decode J_236.2.2.1 0 = .ok (.aload_n 0, 1) := dzq_42 (by decide +kernel)
theorem D_236_1 : decode J_236.2.2.1 1 = .ok (.aload_n 0, 1) := dzq_42 (by decide +kernel)
theorem D_236_2 : decode J_236.2.2.1 2 = .ok (.getfield 233, 3) := dzq_180 (by decide +kernel)
theorem D_236_5 : decode J_236.2.2.1 5 = .ok (.iload_n 1, 1) := dzq_27 (by decide +kernel)
theorem D_236_6 : decode J_236.2.2.1 6 = .ok (.iaload, 1) := dzq_46 (by decide +kernel)
theorem D_236_7 : decode J_236.2.2.1 7 = .ok (.putfield 544, 3) := dzq_181 (by decide +kernel)
theorem D_236_10 : decode J_236.2.2.1 10 = .ok (.iconst 0, 1) := dzq_3 (by decide +kernel)
theorem D_236_11 : decode J_236.2.2.1 11 = .ok (.istore_n 3, 1) := dzq_62 (by decide +kernel)
theorem D_236_12 : decode J_236.2.2.1 12 = .ok (.iload_n 3, 1) := dzq_29 (by decide +kernel)
theorem D_236_13 : decode J_236.2.2.1 13 = .ok (.iconst 5, 1) := dzq_8 (by decide +kernel)
theorem D_236_14 : decode J_236.2.2.1 14 = .ok (.if_icmp .ge 45, 3) := dzq_162 (by decide +kernel)
theorem D_236_17 : decode J_236.2.2.1 17 = .ok (.aload_n 0, 1) := dzq_42 (by decide +kernel)
theorem D_236_18 : decode J_236.2.2.1 18 = .ok (.getfield 221, 3) := dzq_180 (by decide +kernel)
theorem D_236_21 : decode J_236.2.2.1 21 = .ok (.iload_n 3, 1) := dzq_29 (by decide +kernel)
theorem D_236_22 : decode J_236.2.2.1 22 = .ok (.iload_n 3, 1) := dzq_29 (by decide +kernel)
theorem D_236_23 : decode J_236.2.2.1 23 = .ok (.aload_n 0, 1) := dzq_42 (by decide +kernel)
theorem D_236_24 : decode J_236.2.2.1 24 = .ok (.getfield 30, 3) := dzq_180 (by decide +kernel)
theorem D_236_27 : decode J_236.2.2.1 27 = .ok (.aload_n 0, 1) := dzq_42 (by decide +kernel)
theorem D_236_28 : decode J_236.2.2.1 28 = .ok (.getfield 544, 3) := dzq_180 (by decide +kernel)
theorem D_236_31 : decode J_236.2.2.1 31 = .ok (.iaload, 1) := dzq_46 (by decide +kernel)
theorem D_236_32 : decode J_236.2.2.1 32 = .ok (.if_icmp .ge 19, 3) := dzq_162 (by decide +kernel)
theorem D_236_35 : decode J_236.2.2.1 35 = .ok (.aload_n 0, 1) := dzq_42 (by decide +kernel)
theorem D_236_36 : decode J_236.2.2.1 36 = .ok (.getfield 230, 3) := dzq_180 (by decide +kernel)
theorem D_236_39 : decode J_236.2.2.1 39 = .ok (.aload_n 0, 1) := dzq_42 (by decide +kernel)
theorem D_236_40 : decode J_236.2.2.1 40 = .ok (.getfield 236, 3) := dzq_180 (by decide +kernel)
theorem D_236_43 : decode J_236.2.2.1 43 = .ok (.iload_n 1, 1) := dzq_27 (by decide +kernel)
theorem D_236_44 : decode J_236.2.2.1 44 = .ok (.iaload, 1) := dzq_46 (by decide +kernel)
theorem D_236_45 : decode J_236.2.2.1 45 = .ok (.iload_n 3, 1) := dzq_29 (by decide +kernel)
theorem D_236_46 : decode J_236.2.2.1 46 = .ok (.iadd, 1) := dzq_96 (by decide +kernel)
theorem D_236_47 : decode J_236.2.2.1 47 = .ok (.iaload, 1) := dzq_46 (by decide +kernel)
theorem D_236_48 : decode J_236.2.2.1 48 = .ok (.goto 4, 3) := dzq_167 (by decide +kernel)
theorem D_236_51 : decode J_236.2.2.1 51 = .ok (.iconst 0, 1) := dzq_3 (by decide +kernel)
theorem D_236_52 : decode J_236.2.2.1 52 = .ok (.iastore, 1) := dzq_79 (by decide +kernel)
theorem D_236_53 : decode J_236.2.2.1 53 = .ok (.iinc 3 1, 3) := dzq_132 (by decide +kernel)
theorem D_236_56 : decode J_236.2.2.1 56 = .ok (.goto (-44), 3) := dzq_167 (by decide +kernel)
theorem D_236_59 : decode J_236.2.2.1 59 = .ok (.aload_n 0, 1) := dzq_42 (by decide +kernel)
theorem D_236_60 : decode J_236.2.2.1 60 = .ok (.getfield 544, 3) := dzq_180 (by decide +kernel)
theorem D_236_63 : decode J_236.2.2.1 63 = .ok (.iload_n 2, 1) := dzq_28 (by decide +kernel)
theorem D_236_64 : decode J_236.2.2.1 64 = .ok (.if_icmp .eq 10, 3) := dzq_159 (by decide +kernel)
theorem D_236_67 : decode J_236.2.2.1 67 = .ok (.aload_n 0, 1) := dzq_42 (by decide +kernel)
theorem D_236_68 : decode J_236.2.2.1 68 = .ok (.invokevirtual 624, 3) := dzq_182 (by decide +kernel)
theorem D_236_71 : decode J_236.2.2.1 71 = .ok (.goto (-12), 3) := dzq_167 (by decide +kernel)
theorem D_236_74 : decode J_236.2.2.1 74 = .ok (.return_, 1) := dzq_177 (by decide +kernel)
def P_236_59 (X : mjX) (d C S kc ks : Nat) (k : Nat → Int32 → mjH → mjU) : Prop := ∀ (l0 : Nat) (l2 : Int32) (hp : mjH) (q : Option Value × mjH), k l0 l2 hp = some q → mjG X d C S J_236 (mjEq q) 59 [some (.ref l0), none, some (.int l2), none] [] hp kc ks
def P_236_52 (X : mjX) (d C S kc ks : Nat) (k : Nat → Int32 → Int32 → Int32 → Nat → Int32 → Int32 → mjH → mjU) : Prop := ∀ (l0 : Nat) (l1 : Int32) (l2 : Int32) (l3 : Int32) (s0 : Nat) (s1 : Int32) (s2 : Int32) (hp : mjH) (q : Option Value × mjH), k l0 l1 l2 l3 s0 s1 s2 hp = some q → mjG X d C S J_236 (mjEq q) 52 [some (.ref l0), some (.int l1), some (.int l2), some (.int l3)] [.int s2, .int s1, .ref s0] hp kc ks
def P_236_12 (X : mjX) (d C S kc ks : Nat) (k : Nat → Int32 → Int32 → Int32 → mjH → mjU) : Prop := ∀ (l0 : Nat) (l1 : Int32) (l2 : Int32) (l3 : Int32) (hp : mjH) (q : Option Value × mjH), k l0 l1 l2 l3 hp = some q → mjG X d C S J_236 (mjEq q) 12 [some (.ref l0), some (.int l1), some (.int l2), some (.int l3)] [] hp kc ks
def P_236_0 (X : mjX) (d C S kc ks : Nat) (k : Nat → Int32 → Int32 → mjH → mjU) : Prop := ∀ (l0 : Nat) (l1 : Int32) (l2 : Int32) (hp : mjH) (q : Option Value × mjH), k l0 l1 l2 hp = some q → mjG X d C S J_236 (mjEq q) 0 [some (.ref l0), some (.int l1), some (.int l2), none] [] hp kc ks
noncomputable def b_236_59 (R : mjR) (k59 : Nat → Int32 → mjH → mjU) (l0 : Nat) (l2 : Int32) (hp : mjH) : mjU := gI hp l0 12 95 (fun v1 => (if v1 = l2 then some (none, hp) else rV hp l0 12 (bN (R 237 [.ref l0] hp) (fun  hp2 => k59 l0 l2 hp2))))
theorem t_236_59 {X : mjX} {d C S kc ks : Nat} {R : mjR} (hR : mjC R d) (h1 : kc ≤ C) (h2 : ks ≤ S) {k59 : Nat → Int32 → mjH → mjU} (hk59 : P_236_59 X (d + 1) C S kc ks k59) : P_236_59 X (d + 1) C S kc ks (b_236_59 R k59) := by
  intro l0 l2 hp q h
  unfold b_236_59 at h
  refine mjr_aload_n (x := l0) D_236_59 rfl ?_
  refine mjq_gI D_236_60 fr_12_544 h (fun v1 h => ?_)
  refine mjr_iload_n (x := l2) D_236_63 rfl ?_
  refine mjq_icmp_eq (tgt := 74) D_236_64 rfl h (fun h => ?_) (fun h => ?_)
  · exact mjq_nret D_236_74 rfl h1 h2 h
  · refine mjr_aload_n (x := l0) D_236_67 rfl ?_
    refine mjq_vN (As := []) (rest := []) D_236_68 mr_12_624 V_237 rfl rfl rfl hR (Nat.le_refl _) h1 h2 h (fun  hp2 h => ?_)
    refine mjr_goto (tgt := 59) D_236_71 rfl ?_
    exact hk59 _ _ _ _ h
noncomputable def L_236_59 (R : mjR) (n : Nat) : Nat → Int32 → mjH → mjU := Nat.rec (motive := fun _ => Nat → Int32 → mjH → mjU) (fun _ _ _ => none) (fun _ self => b_236_59 R self) n
theorem T_236_59 {X : mjX} {d C S kc ks : Nat} {R : mjR} (hR : mjC R d) (h1 : kc ≤ C) (h2 : ks ≤ S) (n : Nat) : P_236_59 X (d + 1) C S kc ks (L_236_59 R n) := by
  induction n with
  | zero => intro _ _ _ _ h; exact mj_no h
  | succ n ih => exact t_236_59 hR h1 h2 ih
noncomputable def b_236_52 (R : mjR) (k12 : Nat → Int32 → Int32 → Int32 → mjH → mjU) (l0 : Nat) (l1 : Int32) (l2 : Int32) (l3 : Int32) (s0 : Nat) (s1 : Int32) (s2 : Int32) (hp : mjH) : mjU := sI hp s0 s1 s2 (fun hp1 => k12 l0 l1 l2 (l3 + (1 : Int32)) hp1)
theorem t_236_52 {X : mjX} {d C S kc ks : Nat} {R : mjR} (hR : mjC R d) (h1 : kc ≤ C) (h2 : ks ≤ S) {k12 : Nat → Int32 → Int32 → Int32 → mjH → mjU} (hk12 : P_236_12 X (d + 1) C S kc ks k12) : P_236_52 X (d + 1) C S kc ks (b_236_52 R k12) := by
  intro l0 l1 l2 l3 s0 s1 s2 hp q h
  unfold b_236_52 at h
  refine mjq_sI D_236_52 h (fun hp1 h => ?_)
  refine mjq_iinc (x := l3) (c := (1 : Int32)) (lo' := [some (.ref l0), some (.int l1), some (.int l2), some (.int (l3 + (1 : Int32)))]) D_236_53 rfl (Nat.le_of_ble_eq_true rfl) rfl rfl ?_
  refine mjr_goto (tgt := 12) D_236_56 rfl ?_
  exact hk12 _ _ _ _ _ _ h
noncomputable def b_236_12 (R : mjR) (k12 : Nat → Int32 → Int32 → Int32 → mjH → mjU) (l0 : Nat) (l1 : Int32) (l2 : Int32) (l3 : Int32) (hp : mjH) : mjU := (if (5 : Int32) ≤ l3 then L_236_59 R mjN l0 l2 hp else gR hp l0 12 93 (fun v1 => gR hp l0 12 15 (fun v2 => gI hp l0 12 95 (fun v3 => aI hp v2 v3 (fun v4 => (if v4 ≤ l3 then b_236_52 R k12 l0 l1 l2 l3 v1 l3 (0 : Int32) hp else gR hp l0 12 108 (fun v5 => gR hp l0 12 110 (fun v6 => aI hp v6 l1 (fun v7 => aI hp v5 (v7 + l3) (fun v8 => b_236_52 R k12 l0 l1 l2 l3 v1 l3 v8 hp))))))))))
theorem t_236_12 {X : mjX} {d C S kc ks : Nat} {R : mjR} (hR : mjC R d) (h1 : kc ≤ C) (h2 : ks ≤ S) {k12 : Nat → Int32 → Int32 → Int32 → mjH → mjU} (hk12 : P_236_12 X (d + 1) C S kc ks k12) : P_236_12 X (d + 1) C S kc ks (b_236_12 R k12) := by
  intro l0 l1 l2 l3 hp q h
  unfold b_236_12 at h
  refine mjr_iload_n (x := l3) D_236_12 rfl ?_
  refine mjq_ic (v := (5 : Int32)) D_236_13 rfl ?_
  refine mjq_icmp_ge (tgt := 59) D_236_14 rfl h (fun h => ?_) (fun h => ?_)
  · exact mjG.fg (lo' := [some (.ref l0), none, some (.int l2), none]) (And.intro rfl (And.intro rfl True.intro)) ((T_236_59 hR h1 h2 mjN) _ _ _ _ h)
  · refine mjr_aload_n (x := l0) D_236_17 rfl ?_
    refine mjq_gR D_236_18 fr_12_221 h (fun v1 h => ?_)
    refine mjr_iload_n (x := l3) D_236_21 rfl ?_
    refine mjr_iload_n (x := l3) D_236_22 rfl ?_
    refine mjr_aload_n (x := l0) D_236_23 rfl ?_
    refine mjq_gR D_236_24 fr_12_30 h (fun v2 h => ?_)
    refine mjr_aload_n (x := l0) D_236_27 rfl ?_
    refine mjq_gI D_236_28 fr_12_544 h (fun v3 h => ?_)
    refine mjq_aI D_236_31 h (fun v4 h => ?_)
    refine mjq_icmp_ge (tgt := 51) D_236_32 rfl h (fun h => ?_) (fun h => ?_)
    · refine mjq_ic (v := (0 : Int32)) D_236_51 rfl ?_
      exact (t_236_52 hR h1 h2 hk12) _ _ _ _ _ _ _ _ _ h
    · refine mjr_aload_n (x := l0) D_236_35 rfl ?_
      refine mjq_gR D_236_36 fr_12_230 h (fun v5 h => ?_)
      refine mjr_aload_n (x := l0) D_236_39 rfl ?_
      refine mjq_gR D_236_40 fr_12_236 h (fun v6 h => ?_)
      refine mjr_iload_n (x := l1) D_236_43 rfl ?_
      refine mjq_aI D_236_44 h (fun v7 h => ?_)
      refine mjr_iload_n (x := l3) D_236_45 rfl ?_
      refine mjr_iadd D_236_46 ?_
      refine mjq_aI D_236_47 h (fun v8 h => ?_)
      refine mjr_goto (tgt := 52) D_236_48 rfl ?_
      exact (t_236_52 hR h1 h2 hk12) _ _ _ _ _ _ _ _ _ h
noncomputable def L_236_12 (R : mjR) (n : Nat) : Nat → Int32 → Int32 → Int32 → mjH → mjU := Nat.rec (motive := fun _ => Nat → Int32 → Int32 → Int32 → mjH → mjU) (fun _ _ _ _ _ => none) (fun _ self => b_236_12 R self) n
theorem T_236_12 {X : mjX} {d C S kc ks : Nat} {R : mjR} (hR : mjC R d) (h1 : kc ≤ C) (h2 : ks ≤ S) (n : Nat) : P_236_12 X (d + 1) C S kc ks (L_236_12 R n) := by
  induction n with
  | zero => intro _ _ _ _ _ _ h; exact mj_no h
  | succ n ih => exact t_236_12 hR h1 h2 ih
noncomputable def b_236_0 (R : mjR) (l0 : Nat) (l1 : Int32) (l2 : Int32) (hp : mjH) : mjU := gR hp l0 12 109 (fun v1 => aI hp v1 l1 (fun v2 => pI hp l0 12 95 v2 (fun hp3 => L_236_12 R mjN l0 l1 l2 (0 : Int32) hp3)))
theorem t_236_0 {X : mjX} {d C S kc ks : Nat} {R : mjR} (hR : mjC R d) (h1 : kc ≤ C) (h2 : ks ≤ S) : P_236_0 X (d + 1) C S kc ks (b_236_0 R) := by
  intro l0 l1 l2 hp q h
  unfold b_236_0 at h
  refine mjr_aload_n (x := l0) D_236_0 rfl ?_
  refine mjr_aload_n (x := l0) D_236_1 rfl ?_
  refine mjq_gR D_236_2 fr_12_233 h (fun v1 h => ?_)
  refine mjr_iload_n (x := l1) D_236_5 rfl ?_
  refine mjq_aI D_236_6 h (fun v2 h => ?_)
  refine mjq_pI D_236_7 fr_12_544 rfl rfl h (fun hp3 h => ?_)
  refine mjq_ic (v := (0 : Int32)) D_236_10 rfl ?_
  refine mjq_istore_n (lo' := [some (.ref l0), some (.int l1), some (.int l2), some (.int (0 : Int32))]) D_236_11 (Nat.le_of_ble_eq_true rfl) rfl ?_
  exact (T_236_12 hR h1 h2 mjN) _ _ _ _ _ _ h
noncomputable def f_236 (R : mjR) (a0 : Nat) (a1 : Int32) (a2 : Int32) (hp : mjH) : mjU := b_236_0 R a0 a1 a2 hp
theorem c_236 {R : mjR} {d : Nat} (hR : mjC R d) {a0 : Nat} {a1 : Int32} {a2 : Int32} {hp : mjH} {q : Option Value × mjH} (h : f_236 R a0 a1 a2 hp = some q) : mjM (d + 1) 0 0 236 [.ref a0, .int a1, .int a2] hp (mjEq q) :=
  mjM_of Ja_236 (Nat.le_of_ble_eq_true rfl) (mjG.fg (lo' := [some (.ref a0), some (.int a1), some (.int a2), none]) (And.intro rfl (And.intro rfl (And.intro rfl True.intro))) ((t_236_0 hR (Nat.le_refl 0) (Nat.le_refl 0)) a0 a1 a2 hp q h))
def J_237 : mjI := (⟨"OwnerHeapModel", "riseNow", "()V"⟩, 12, prog_14_method_82_code, 3, none, 0, false)
theorem Ja_237 : mjMt 237 = some J_237 := by rfl
theorem D_237_0 : decode J_237.2.2.1 0 = .ok (.aload_n 0, 1) := dzq_42 (by decide +kernel)
theorem D_237_1 : decode J_237.2.2.1 1 = .ok (.getfield 33, 3) := dzq_180 (by decide +kernel)
theorem D_237_4 : decode J_237.2.2.1 4 = .ok (.aload_n 0, 1) := dzq_42 (by decide +kernel)
theorem D_237_5 : decode J_237.2.2.1 5 = .ok (.getfield 544, 3) := dzq_180 (by decide +kernel)
theorem D_237_8 : decode J_237.2.2.1 8 = .ok (.iaload, 1) := dzq_46 (by decide +kernel)
theorem D_237_9 : decode J_237.2.2.1 9 = .ok (.istore_n 1, 1) := dzq_60 (by decide +kernel)
theorem D_237_10 : decode J_237.2.2.1 10 = .ok (.iconst 0, 1) := dzq_3 (by decide +kernel)
theorem D_237_11 : decode J_237.2.2.1 11 = .ok (.istore_n 2, 1) := dzq_61 (by decide +kernel)
theorem D_237_12 : decode J_237.2.2.1 12 = .ok (.iload_n 2, 1) := dzq_28 (by decide +kernel)
theorem D_237_13 : decode J_237.2.2.1 13 = .ok (.iconst 5, 1) := dzq_8 (by decide +kernel)
theorem D_237_14 : decode J_237.2.2.1 14 = .ok (.if_icmp .ge 61, 3) := dzq_162 (by decide +kernel)
theorem D_237_17 : decode J_237.2.2.1 17 = .ok (.aload_n 0, 1) := dzq_42 (by decide +kernel)
theorem D_237_18 : decode J_237.2.2.1 18 = .ok (.getfield 224, 3) := dzq_180 (by decide +kernel)
theorem D_237_21 : decode J_237.2.2.1 21 = .ok (.iload_n 2, 1) := dzq_28 (by decide +kernel)
theorem D_237_22 : decode J_237.2.2.1 22 = .ok (.iload_n 2, 1) := dzq_28 (by decide +kernel)
theorem D_237_23 : decode J_237.2.2.1 23 = .ok (.aload_n 0, 1) := dzq_42 (by decide +kernel)
theorem D_237_24 : decode J_237.2.2.1 24 = .ok (.getfield 133, 3) := dzq_180 (by decide +kernel)
theorem D_237_27 : decode J_237.2.2.1 27 = .ok (.iload_n 1, 1) := dzq_27 (by decide +kernel)
theorem D_237_28 : decode J_237.2.2.1 28 = .ok (.iaload, 1) := dzq_46 (by decide +kernel)
theorem D_237_29 : decode J_237.2.2.1 29 = .ok (.if_icmp .lt 7, 3) := dzq_161 (by decide +kernel)
theorem D_237_32 : decode J_237.2.2.1 32 = .ok (.iconst 0, 1) := dzq_3 (by decide +kernel)
theorem D_237_33 : decode J_237.2.2.1 33 = .ok (.goto 35, 3) := dzq_167 (by decide +kernel)
theorem D_237_36 : decode J_237.2.2.1 36 = .ok (.aload_n 0, 1) := dzq_42 (by decide +kernel)
theorem D_237_37 : decode J_237.2.2.1 37 = .ok (.getfield 145, 3) := dzq_180 (by decide +kernel)
theorem D_237_40 : decode J_237.2.2.1 40 = .ok (.iconst 5, 1) := dzq_8 (by decide +kernel)
theorem D_237_41 : decode J_237.2.2.1 41 = .ok (.iload_n 1, 1) := dzq_27 (by decide +kernel)
theorem D_237_42 : decode J_237.2.2.1 42 = .ok (.imul, 1) := dzq_104 (by decide +kernel)
theorem D_237_43 : decode J_237.2.2.1 43 = .ok (.iload_n 2, 1) := dzq_28 (by decide +kernel)
theorem D_237_44 : decode J_237.2.2.1 44 = .ok (.iadd, 1) := dzq_96 (by decide +kernel)
theorem D_237_45 : decode J_237.2.2.1 45 = .ok (.iaload, 1) := dzq_46 (by decide +kernel)
theorem D_237_46 : decode J_237.2.2.1 46 = .ok (.ifCond .lt 21, 3) := dzq_155 (by decide +kernel)
theorem D_237_49 : decode J_237.2.2.1 49 = .ok (.aload_n 0, 1) := dzq_42 (by decide +kernel)
theorem D_237_50 : decode J_237.2.2.1 50 = .ok (.getfield 221, 3) := dzq_180 (by decide +kernel)
theorem D_237_53 : decode J_237.2.2.1 53 = .ok (.aload_n 0, 1) := dzq_42 (by decide +kernel)
theorem D_237_54 : decode J_237.2.2.1 54 = .ok (.getfield 145, 3) := dzq_180 (by decide +kernel)
theorem D_237_57 : decode J_237.2.2.1 57 = .ok (.iconst 5, 1) := dzq_8 (by decide +kernel)
theorem D_237_58 : decode J_237.2.2.1 58 = .ok (.iload_n 1, 1) := dzq_27 (by decide +kernel)
theorem D_237_59 : decode J_237.2.2.1 59 = .ok (.imul, 1) := dzq_104 (by decide +kernel)
theorem D_237_60 : decode J_237.2.2.1 60 = .ok (.iload_n 2, 1) := dzq_28 (by decide +kernel)
theorem D_237_61 : decode J_237.2.2.1 61 = .ok (.iadd, 1) := dzq_96 (by decide +kernel)
theorem D_237_62 : decode J_237.2.2.1 62 = .ok (.iaload, 1) := dzq_46 (by decide +kernel)
theorem D_237_63 : decode J_237.2.2.1 63 = .ok (.iaload, 1) := dzq_46 (by decide +kernel)
theorem D_237_64 : decode J_237.2.2.1 64 = .ok (.goto 4, 3) := dzq_167 (by decide +kernel)
theorem D_237_67 : decode J_237.2.2.1 67 = .ok (.iconst 0, 1) := dzq_3 (by decide +kernel)
theorem D_237_68 : decode J_237.2.2.1 68 = .ok (.iastore, 1) := dzq_79 (by decide +kernel)
theorem D_237_69 : decode J_237.2.2.1 69 = .ok (.iinc 2 1, 3) := dzq_132 (by decide +kernel)
theorem D_237_72 : decode J_237.2.2.1 72 = .ok (.goto (-60), 3) := dzq_167 (by decide +kernel)
theorem D_237_75 : decode J_237.2.2.1 75 = .ok (.iconst 0, 1) := dzq_3 (by decide +kernel)
theorem D_237_76 : decode J_237.2.2.1 76 = .ok (.istore_n 2, 1) := dzq_61 (by decide +kernel)
theorem D_237_77 : decode J_237.2.2.1 77 = .ok (.iload_n 2, 1) := dzq_28 (by decide +kernel)
theorem D_237_78 : decode J_237.2.2.1 78 = .ok (.iconst 5, 1) := dzq_8 (by decide +kernel)
theorem D_237_79 : decode J_237.2.2.1 79 = .ok (.if_icmp .ge 21, 3) := dzq_162 (by decide +kernel)
theorem D_237_82 : decode J_237.2.2.1 82 = .ok (.aload_n 0, 1) := dzq_42 (by decide +kernel)
theorem D_237_83 : decode J_237.2.2.1 83 = .ok (.getfield 221, 3) := dzq_180 (by decide +kernel)
theorem D_237_86 : decode J_237.2.2.1 86 = .ok (.iload_n 2, 1) := dzq_28 (by decide +kernel)
theorem D_237_87 : decode J_237.2.2.1 87 = .ok (.aload_n 0, 1) := dzq_42 (by decide +kernel)
theorem D_237_88 : decode J_237.2.2.1 88 = .ok (.getfield 224, 3) := dzq_180 (by decide +kernel)
theorem D_237_91 : decode J_237.2.2.1 91 = .ok (.iload_n 2, 1) := dzq_28 (by decide +kernel)
theorem D_237_92 : decode J_237.2.2.1 92 = .ok (.iaload, 1) := dzq_46 (by decide +kernel)
theorem D_237_93 : decode J_237.2.2.1 93 = .ok (.iastore, 1) := dzq_79 (by decide +kernel)
theorem D_237_94 : decode J_237.2.2.1 94 = .ok (.iinc 2 1, 3) := dzq_132 (by decide +kernel)
theorem D_237_97 : decode J_237.2.2.1 97 = .ok (.goto (-20), 3) := dzq_167 (by decide +kernel)
theorem D_237_100 : decode J_237.2.2.1 100 = .ok (.aload_n 0, 1) := dzq_42 (by decide +kernel)
theorem D_237_101 : decode J_237.2.2.1 101 = .ok (.aload_n 0, 1) := dzq_42 (by decide +kernel)
theorem D_237_102 : decode J_237.2.2.1 102 = .ok (.getfield 136, 3) := dzq_180 (by decide +kernel)
theorem D_237_105 : decode J_237.2.2.1 105 = .ok (.iload_n 1, 1) := dzq_27 (by decide +kernel)
theorem D_237_106 : decode J_237.2.2.1 106 = .ok (.iaload, 1) := dzq_46 (by decide +kernel)
theorem D_237_107 : decode J_237.2.2.1 107 = .ok (.putfield 544, 3) := dzq_181 (by decide +kernel)
theorem D_237_110 : decode J_237.2.2.1 110 = .ok (.return_, 1) := dzq_177 (by decide +kernel)
def P_237_77 (X : mjX) (d C S kc ks : Nat) (k : Nat → Int32 → Int32 → mjH → mjU) : Prop := ∀ (l0 : Nat) (l1 : Int32) (l2 : Int32) (hp : mjH) (q : Option Value × mjH), k l0 l1 l2 hp = some q → mjG X d C S J_237 (mjEq q) 77 [some (.ref l0), some (.int l1), some (.int l2)] [] hp kc ks
def P_237_68 (X : mjX) (d C S kc ks : Nat) (k : Nat → Int32 → Int32 → Nat → Int32 → Int32 → mjH → mjU) : Prop := ∀ (l0 : Nat) (l1 : Int32) (l2 : Int32) (s0 : Nat) (s1 : Int32) (s2 : Int32) (hp : mjH) (q : Option Value × mjH), k l0 l1 l2 s0 s1 s2 hp = some q → mjG X d C S J_237 (mjEq q) 68 [some (.ref l0), some (.int l1), some (.int l2)] [.int s2, .int s1, .ref s0] hp kc ks
def P_237_12 (X : mjX) (d C S kc ks : Nat) (k : Nat → Int32 → Int32 → mjH → mjU) : Prop := ∀ (l0 : Nat) (l1 : Int32) (l2 : Int32) (hp : mjH) (q : Option Value × mjH), k l0 l1 l2 hp = some q → mjG X d C S J_237 (mjEq q) 12 [some (.ref l0), some (.int l1), some (.int l2)] [] hp kc ks
def P_237_0 (X : mjX) (d C S kc ks : Nat) (k : Nat → mjH → mjU) : Prop := ∀ (l0 : Nat) (hp : mjH) (q : Option Value × mjH), k l0 hp = some q → mjG X d C S J_237 (mjEq q) 0 [some (.ref l0), none, none] [] hp kc ks
noncomputable def b_237_77 (R : mjR) (k77 : Nat → Int32 → Int32 → mjH → mjU) (l0 : Nat) (l1 : Int32) (l2 : Int32) (hp : mjH) : mjU := (if (5 : Int32) ≤ l2 then gR hp l0 12 50 (fun v1 => aI hp v1 l1 (fun v2 => pI hp l0 12 95 v2 (fun hp3 => some (none, hp3)))) else gR hp l0 12 93 (fun v4 => gR hp l0 12 94 (fun v5 => aI hp v5 l2 (fun v6 => sI hp v4 l2 v6 (fun hp7 => k77 l0 l1 (l2 + (1 : Int32)) hp7)))))
theorem t_237_77 {X : mjX} {d C S kc ks : Nat} {R : mjR} (hR : mjC R d) (h1 : kc ≤ C) (h2 : ks ≤ S) {k77 : Nat → Int32 → Int32 → mjH → mjU} (hk77 : P_237_77 X (d + 1) C S kc ks k77) : P_237_77 X (d + 1) C S kc ks (b_237_77 R k77) := by
  intro l0 l1 l2 hp q h
  unfold b_237_77 at h
  refine mjr_iload_n (x := l2) D_237_77 rfl ?_
  refine mjq_ic (v := (5 : Int32)) D_237_78 rfl ?_
  refine mjq_icmp_ge (tgt := 100) D_237_79 rfl h (fun h => ?_) (fun h => ?_)
  · refine mjr_aload_n (x := l0) D_237_100 rfl ?_
    refine mjr_aload_n (x := l0) D_237_101 rfl ?_
    refine mjq_gR D_237_102 fr_12_136 h (fun v1 h => ?_)
    refine mjr_iload_n (x := l1) D_237_105 rfl ?_
    refine mjq_aI D_237_106 h (fun v2 h => ?_)
    refine mjq_pI D_237_107 fr_12_544 rfl rfl h (fun hp3 h => ?_)
    exact mjq_nret D_237_110 rfl h1 h2 h
  · refine mjr_aload_n (x := l0) D_237_82 rfl ?_
    refine mjq_gR D_237_83 fr_12_221 h (fun v4 h => ?_)
    refine mjr_iload_n (x := l2) D_237_86 rfl ?_
    refine mjr_aload_n (x := l0) D_237_87 rfl ?_
    refine mjq_gR D_237_88 fr_12_224 h (fun v5 h => ?_)
    refine mjr_iload_n (x := l2) D_237_91 rfl ?_
    refine mjq_aI D_237_92 h (fun v6 h => ?_)
    refine mjq_sI D_237_93 h (fun hp7 h => ?_)
    refine mjq_iinc (x := l2) (c := (1 : Int32)) (lo' := [some (.ref l0), some (.int l1), some (.int (l2 + (1 : Int32)))]) D_237_94 rfl (Nat.le_of_ble_eq_true rfl) rfl rfl ?_
    refine mjr_goto (tgt := 77) D_237_97 rfl ?_
    exact hk77 _ _ _ _ _ h
noncomputable def L_237_77 (R : mjR) (n : Nat) : Nat → Int32 → Int32 → mjH → mjU := Nat.rec (motive := fun _ => Nat → Int32 → Int32 → mjH → mjU) (fun _ _ _ _ => none) (fun _ self => b_237_77 R self) n
theorem T_237_77 {X : mjX} {d C S kc ks : Nat} {R : mjR} (hR : mjC R d) (h1 : kc ≤ C) (h2 : ks ≤ S) (n : Nat) : P_237_77 X (d + 1) C S kc ks (L_237_77 R n) := by
  induction n with
  | zero => intro _ _ _ _ _ h; exact mj_no h
  | succ n ih => exact t_237_77 hR h1 h2 ih
noncomputable def b_237_68 (R : mjR) (k12 : Nat → Int32 → Int32 → mjH → mjU) (l0 : Nat) (l1 : Int32) (l2 : Int32) (s0 : Nat) (s1 : Int32) (s2 : Int32) (hp : mjH) : mjU := sI hp s0 s1 s2 (fun hp1 => k12 l0 l1 (l2 + (1 : Int32)) hp1)
theorem t_237_68 {X : mjX} {d C S kc ks : Nat} {R : mjR} (hR : mjC R d) (h1 : kc ≤ C) (h2 : ks ≤ S) {k12 : Nat → Int32 → Int32 → mjH → mjU} (hk12 : P_237_12 X (d + 1) C S kc ks k12) : P_237_68 X (d + 1) C S kc ks (b_237_68 R k12) := by
  intro l0 l1 l2 s0 s1 s2 hp q h
  unfold b_237_68 at h
  refine mjq_sI D_237_68 h (fun hp1 h => ?_)
  refine mjq_iinc (x := l2) (c := (1 : Int32)) (lo' := [some (.ref l0), some (.int l1), some (.int (l2 + (1 : Int32)))]) D_237_69 rfl (Nat.le_of_ble_eq_true rfl) rfl rfl ?_
  refine mjr_goto (tgt := 12) D_237_72 rfl ?_
  exact hk12 _ _ _ _ _ h
noncomputable def b_237_12 (R : mjR) (k12 : Nat → Int32 → Int32 → mjH → mjU) (l0 : Nat) (l1 : Int32) (l2 : Int32) (hp : mjH) : mjU := (if (5 : Int32) ≤ l2 then L_237_77 R mjN l0 l1 (0 : Int32) hp else gR hp l0 12 94 (fun v1 => gR hp l0 12 49 (fun v2 => aI hp v2 l1 (fun v3 => (if l2 < v3 then gR hp l0 12 53 (fun v4 => aI hp v4 (((5 : Int32) * l1) + l2) (fun v5 => (if v5 < 0 then b_237_68 R k12 l0 l1 l2 v1 l2 (0 : Int32) hp else gR hp l0 12 93 (fun v6 => gR hp l0 12 53 (fun v7 => aI hp v7 (((5 : Int32) * l1) + l2) (fun v8 => aI hp v6 v8 (fun v9 => b_237_68 R k12 l0 l1 l2 v1 l2 v9 hp))))))) else b_237_68 R k12 l0 l1 l2 v1 l2 (0 : Int32) hp)))))
theorem t_237_12 {X : mjX} {d C S kc ks : Nat} {R : mjR} (hR : mjC R d) (h1 : kc ≤ C) (h2 : ks ≤ S) {k12 : Nat → Int32 → Int32 → mjH → mjU} (hk12 : P_237_12 X (d + 1) C S kc ks k12) : P_237_12 X (d + 1) C S kc ks (b_237_12 R k12) := by
  intro l0 l1 l2 hp q h
  unfold b_237_12 at h
  refine mjr_iload_n (x := l2) D_237_12 rfl ?_
  refine mjq_ic (v := (5 : Int32)) D_237_13 rfl ?_
  refine mjq_icmp_ge (tgt := 75) D_237_14 rfl h (fun h => ?_) (fun h => ?_)
  · refine mjq_ic (v := (0 : Int32)) D_237_75 rfl ?_
    refine mjq_istore_n (lo' := [some (.ref l0), some (.int l1), some (.int (0 : Int32))]) D_237_76 (Nat.le_of_ble_eq_true rfl) rfl ?_
    exact (T_237_77 hR h1 h2 mjN) _ _ _ _ _ h
  · refine mjr_aload_n (x := l0) D_237_17 rfl ?_
    refine mjq_gR D_237_18 fr_12_224 h (fun v1 h => ?_)
    refine mjr_iload_n (x := l2) D_237_21 rfl ?_
    refine mjr_iload_n (x := l2) D_237_22 rfl ?_
    refine mjr_aload_n (x := l0) D_237_23 rfl ?_
    refine mjq_gR D_237_24 fr_12_133 h (fun v2 h => ?_)
    refine mjr_iload_n (x := l1) D_237_27 rfl ?_
    refine mjq_aI D_237_28 h (fun v3 h => ?_)
    refine mjq_icmp_lt (tgt := 36) D_237_29 rfl h (fun h => ?_) (fun h => ?_)
    · refine mjr_aload_n (x := l0) D_237_36 rfl ?_
      refine mjq_gR D_237_37 fr_12_145 h (fun v4 h => ?_)
      refine mjq_ic (v := (5 : Int32)) D_237_40 rfl ?_
      refine mjr_iload_n (x := l1) D_237_41 rfl ?_
      refine mjr_imul D_237_42 ?_
      refine mjr_iload_n (x := l2) D_237_43 rfl ?_
      refine mjr_iadd D_237_44 ?_
      refine mjq_aI D_237_45 h (fun v5 h => ?_)
      refine mjq_if_lt (tgt := 67) D_237_46 rfl h (fun h => ?_) (fun h => ?_)
      · refine mjq_ic (v := (0 : Int32)) D_237_67 rfl ?_
        exact (t_237_68 hR h1 h2 hk12) _ _ _ _ _ _ _ _ h
      · refine mjr_aload_n (x := l0) D_237_49 rfl ?_
        refine mjq_gR D_237_50 fr_12_221 h (fun v6 h => ?_)
        refine mjr_aload_n (x := l0) D_237_53 rfl ?_
        refine mjq_gR D_237_54 fr_12_145 h (fun v7 h => ?_)
        refine mjq_ic (v := (5 : Int32)) D_237_57 rfl ?_
        refine mjr_iload_n (x := l1) D_237_58 rfl ?_
        refine mjr_imul D_237_59 ?_
        refine mjr_iload_n (x := l2) D_237_60 rfl ?_
        refine mjr_iadd D_237_61 ?_
        refine mjq_aI D_237_62 h (fun v8 h => ?_)
        refine mjq_aI D_237_63 h (fun v9 h => ?_)
        refine mjr_goto (tgt := 68) D_237_64 rfl ?_
        exact (t_237_68 hR h1 h2 hk12) _ _ _ _ _ _ _ _ h
    · refine mjq_ic (v := (0 : Int32)) D_237_32 rfl ?_
      refine mjr_goto (tgt := 68) D_237_33 rfl ?_
      exact (t_237_68 hR h1 h2 hk12) _ _ _ _ _ _ _ _ h
noncomputable def L_237_12 (R : mjR) (n : Nat) : Nat → Int32 → Int32 → mjH → mjU := Nat.rec (motive := fun _ => Nat → Int32 → Int32 → mjH → mjU) (fun _ _ _ _ => none) (fun _ self => b_237_12 R self) n
theorem T_237_12 {X : mjX} {d C S kc ks : Nat} {R : mjR} (hR : mjC R d) (h1 : kc ≤ C) (h2 : ks ≤ S) (n : Nat) : P_237_12 X (d + 1) C S kc ks (L_237_12 R n) := by
  induction n with
  | zero => intro _ _ _ _ _ h; exact mj_no h
  | succ n ih => exact t_237_12 hR h1 h2 ih
noncomputable def b_237_0 (R : mjR) (l0 : Nat) (hp : mjH) : mjU := gR hp l0 12 16 (fun v1 => gI hp l0 12 95 (fun v2 => aI hp v1 v2 (fun v3 => L_237_12 R mjN l0 v3 (0 : Int32) hp)))
theorem t_237_0 {X : mjX} {d C S kc ks : Nat} {R : mjR} (hR : mjC R d) (h1 : kc ≤ C) (h2 : ks ≤ S) : P_237_0 X (d + 1) C S kc ks (b_237_0 R) := by
  intro l0 hp q h
  unfold b_237_0 at h
  refine mjr_aload_n (x := l0) D_237_0 rfl ?_
  refine mjq_gR D_237_1 fr_12_33 h (fun v1 h => ?_)
  refine mjr_aload_n (x := l0) D_237_4 rfl ?_
  refine mjq_gI D_237_5 fr_12_544 h (fun v2 h => ?_)
  refine mjq_aI D_237_8 h (fun v3 h => ?_)
  refine mjq_istore_n (lo' := [some (.ref l0), some (.int v3), none]) D_237_9 (Nat.le_of_ble_eq_true rfl) rfl ?_
  refine mjq_ic (v := (0 : Int32)) D_237_10 rfl ?_
  refine mjq_istore_n (lo' := [some (.ref l0), some (.int v3), some (.int (0 : Int32))]) D_237_11 (Nat.le_of_ble_eq_true rfl) rfl ?_
  exact (T_237_12 hR h1 h2 mjN) _ _ _ _ _ h
noncomputable def f_237 (R : mjR) (a0 : Nat) (hp : mjH) : mjU := b_237_0 R a0 hp
theorem c_237 {R : mjR} {d : Nat} (hR : mjC R d) {a0 : Nat} {hp : mjH} {q : Option Value × mjH} (h : f_237 R a0 hp = some q) : mjM (d + 1) 0 0 237 [.ref a0] hp (mjEq q) :=
  mjM_of Ja_237 (Nat.le_of_ble_eq_true rfl) (mjG.fg (lo' := [some (.ref a0), none, none]) (And.intro rfl True.intro) ((t_237_0 hR (Nat.le_refl 0) (Nat.le_refl 0)) a0 hp q h))
def J_238 : mjI := (⟨"OwnerHeapModel", "pop", "()I"⟩, 12, prog_14_method_85_code, 1, (some .int), 0, false)
theorem Ja_238 : mjMt 238 = some J_238 := by rfl
theorem D_238_0 : decode J_238.2.2.1 0 = .ok (.aload_n 0, 1) := dzq_42 (by decide +kernel)
theorem D_238_1 : decode J_238.2.2.1 1 = .ok (.dup, 1) := dzq_89 (by decide +kernel)
theorem D_238_2 : decode J_238.2.2.1 2 = .ok (.getfield 633, 3) := dzq_180 (by decide +kernel)
theorem D_238_5 : decode J_238.2.2.1 5 = .ok (.iconst 1, 1) := dzq_4 (by decide +kernel)
theorem D_238_6 : decode J_238.2.2.1 6 = .ok (.isub, 1) := dzq_100 (by decide +kernel)
theorem D_238_7 : decode J_238.2.2.1 7 = .ok (.putfield 633, 3) := dzq_181 (by decide +kernel)
theorem D_238_10 : decode J_238.2.2.1 10 = .ok (.aload_n 0, 1) := dzq_42 (by decide +kernel)
theorem D_238_11 : decode J_238.2.2.1 11 = .ok (.getfield 254, 3) := dzq_180 (by decide +kernel)
theorem D_238_14 : decode J_238.2.2.1 14 = .ok (.aload_n 0, 1) := dzq_42 (by decide +kernel)
theorem D_238_15 : decode J_238.2.2.1 15 = .ok (.getfield 633, 3) := dzq_180 (by decide +kernel)
theorem D_238_18 : decode J_238.2.2.1 18 = .ok (.iaload, 1) := dzq_46 (by decide +kernel)
theorem D_238_19 : decode J_238.2.2.1 19 = .ok (.ireturn, 1) := dzq_172 (by decide +kernel)
def P_238_0 (X : mjX) (d C S kc ks : Nat) (k : Nat → mjH → mjU) : Prop := ∀ (l0 : Nat) (hp : mjH) (q : Option Value × mjH), k l0 hp = some q → mjG X d C S J_238 (mjEq q) 0 [some (.ref l0)] [] hp kc ks
noncomputable def b_238_0 (R : mjR) (l0 : Nat) (hp : mjH) : mjU := gI hp l0 12 118 (fun v1 => pI hp l0 12 118 (v1 - (1 : Int32)) (fun hp2 => gR hp2 l0 12 117 (fun v3 => gI hp2 l0 12 118 (fun v4 => aI hp2 v3 v4 (fun v5 => some (some (.int v5), hp2))))))
theorem t_238_0 {X : mjX} {d C S kc ks : Nat} {R : mjR} (hR : mjC R d) (h1 : kc ≤ C) (h2 : ks ≤ S) : P_238_0 X (d + 1) C S kc ks (b_238_0 R) := by
  intro l0 hp q h
  unfold b_238_0 at h
  refine mjr_aload_n (x := l0) D_238_0 rfl ?_
  refine mjr_dup D_238_1 rfl ?_
  refine mjq_gI D_238_2 fr_12_633 h (fun v1 h => ?_)
  refine mjq_ic (v := (1 : Int32)) D_238_5 rfl ?_
  refine mjr_isub D_238_6 ?_
  refine mjq_pI D_238_7 fr_12_633 rfl rfl h (fun hp2 h => ?_)
  refine mjr_aload_n (x := l0) D_238_10 rfl ?_
  refine mjq_gR D_238_11 fr_12_254 h (fun v3 h => ?_)
  refine mjr_aload_n (x := l0) D_238_14 rfl ?_
  refine mjq_gI D_238_15 fr_12_633 h (fun v4 h => ?_)
  refine mjq_aI D_238_18 h (fun v5 h => ?_)
  exact mjq_ret D_238_19 rfl h1 h2 h
noncomputable def f_238 (R : mjR) (a0 : Nat) (hp : mjH) : mjU := b_238_0 R a0 hp
theorem c_238 {R : mjR} {d : Nat} (hR : mjC R d) {a0 : Nat} {hp : mjH} {q : Option Value × mjH} (h : f_238 R a0 hp = some q) : mjM (d + 1) 0 0 238 [.ref a0] hp (mjEq q) :=
  mjM_of Ja_238 (Nat.le_of_ble_eq_true rfl) (mjG.fg (lo' := [some (.ref a0)]) (And.intro rfl True.intro) ((t_238_0 hR (Nat.le_refl 0) (Nat.le_refl 0)) a0 hp q h))
def J_239 : mjI := (⟨"OwnerHeapModel", "two", "(I)V"⟩, 12, prog_14_method_91_code, 4, none, 1, false)
theorem Ja_239 : mjMt 239 = some J_239 := by rfl
theorem D_239_0 : decode J_239.2.2.1 0 = .ok (.aload_n 0, 1) := dzq_42 (by decide +kernel)
theorem D_239_1 : decode J_239.2.2.1 1 = .ok (.invokevirtual 669, 3) := dzq_182 (by decide +kernel)
theorem D_239_4 : decode J_239.2.2.1 4 = .ok (.istore_n 2, 1) := dzq_61 (by decide +kernel)
theorem D_239_5 : decode J_239.2.2.1 5 = .ok (.aload_n 0, 1) := dzq_42 (by decide +kernel)
theorem D_239_6 : decode J_239.2.2.1 6 = .ok (.invokevirtual 669, 3) := dzq_182 (by decide +kernel)
theorem D_239_9 : decode J_239.2.2.1 9 = .ok (.istore_n 3, 1) := dzq_62 (by decide +kernel)
theorem D_239_10 : decode J_239.2.2.1 10 = .ok (.aload_n 0, 1) := dzq_42 (by decide +kernel)
theorem D_239_11 : decode J_239.2.2.1 11 = .ok (.getfield 154, 3) := dzq_180 (by decide +kernel)
theorem D_239_14 : decode J_239.2.2.1 14 = .ok (.iload_n 1, 1) := dzq_27 (by decide +kernel)
theorem D_239_15 : decode J_239.2.2.1 15 = .ok (.iaload, 1) := dzq_46 (by decide +kernel)
theorem D_239_16 : decode J_239.2.2.1 16 = .ok (.lookupswitch 177 #[(37, 98), (42, 88), (43, 68), (45, 78), (47, 98), (60, 143), (257, 160)], 68) := by decide +kernel
theorem D_239_84 : decode J_239.2.2.1 84 = .ok (.aload_n 0, 1) := dzq_42 (by decide +kernel)
theorem D_239_85 : decode J_239.2.2.1 85 = .ok (.iload_n 3, 1) := dzq_29 (by decide +kernel)
theorem D_239_86 : decode J_239.2.2.1 86 = .ok (.iload_n 2, 1) := dzq_28 (by decide +kernel)
theorem D_239_87 : decode J_239.2.2.1 87 = .ok (.iadd, 1) := dzq_96 (by decide +kernel)
theorem D_239_88 : decode J_239.2.2.1 88 = .ok (.invokevirtual 663, 3) := dzq_182 (by decide +kernel)
theorem D_239_91 : decode J_239.2.2.1 91 = .ok (.goto 116, 3) := dzq_167 (by decide +kernel)
theorem D_239_94 : decode J_239.2.2.1 94 = .ok (.aload_n 0, 1) := dzq_42 (by decide +kernel)
theorem D_239_95 : decode J_239.2.2.1 95 = .ok (.iload_n 3, 1) := dzq_29 (by decide +kernel)
theorem D_239_96 : decode J_239.2.2.1 96 = .ok (.iload_n 2, 1) := dzq_28 (by decide +kernel)
theorem D_239_97 : decode J_239.2.2.1 97 = .ok (.isub, 1) := dzq_100 (by decide +kernel)
theorem D_239_98 : decode J_239.2.2.1 98 = .ok (.invokevirtual 663, 3) := dzq_182 (by decide +kernel)
theorem D_239_101 : decode J_239.2.2.1 101 = .ok (.goto 106, 3) := dzq_167 (by decide +kernel)
theorem D_239_104 : decode J_239.2.2.1 104 = .ok (.aload_n 0, 1) := dzq_42 (by decide +kernel)
theorem D_239_105 : decode J_239.2.2.1 105 = .ok (.iload_n 3, 1) := dzq_29 (by decide +kernel)
theorem D_239_106 : decode J_239.2.2.1 106 = .ok (.iload_n 2, 1) := dzq_28 (by decide +kernel)
theorem D_239_107 : decode J_239.2.2.1 107 = .ok (.imul, 1) := dzq_104 (by decide +kernel)
theorem D_239_108 : decode J_239.2.2.1 108 = .ok (.invokevirtual 663, 3) := dzq_182 (by decide +kernel)
theorem D_239_111 : decode J_239.2.2.1 111 = .ok (.goto 96, 3) := dzq_167 (by decide +kernel)
theorem D_239_114 : decode J_239.2.2.1 114 = .ok (.iload_n 2, 1) := dzq_28 (by decide +kernel)
theorem D_239_115 : decode J_239.2.2.1 115 = .ok (.ifCond .ne 17, 3) := dzq_154 (by decide +kernel)
theorem D_239_118 : decode J_239.2.2.1 118 = .ok (.aload_n 0, 1) := dzq_42 (by decide +kernel)
theorem D_239_119 : decode J_239.2.2.1 119 = .ok (.iconst 2, 1) := dzq_5 (by decide +kernel)
theorem D_239_120 : decode J_239.2.2.1 120 = .ok (.aload_n 0, 1) := dzq_42 (by decide +kernel)
theorem D_239_121 : decode J_239.2.2.1 121 = .ok (.getfield 151, 3) := dzq_180 (by decide +kernel)
theorem D_239_124 : decode J_239.2.2.1 124 = .ok (.iload_n 1, 1) := dzq_27 (by decide +kernel)
theorem D_239_125 : decode J_239.2.2.1 125 = .ok (.iaload, 1) := dzq_46 (by decide +kernel)
theorem D_239_126 : decode J_239.2.2.1 126 = .ok (.invokevirtual 675, 3) := dzq_182 (by decide +kernel)
theorem D_239_129 : decode J_239.2.2.1 129 = .ok (.goto 78, 3) := dzq_167 (by decide +kernel)
theorem D_239_132 : decode J_239.2.2.1 132 = .ok (.aload_n 0, 1) := dzq_42 (by decide +kernel)
theorem D_239_133 : decode J_239.2.2.1 133 = .ok (.aload_n 0, 1) := dzq_42 (by decide +kernel)
theorem D_239_134 : decode J_239.2.2.1 134 = .ok (.getfield 154, 3) := dzq_180 (by decide +kernel)
theorem D_239_137 : decode J_239.2.2.1 137 = .ok (.iload_n 1, 1) := dzq_27 (by decide +kernel)
theorem D_239_138 : decode J_239.2.2.1 138 = .ok (.iaload, 1) := dzq_46 (by decide +kernel)
theorem D_239_139 : decode J_239.2.2.1 139 = .ok (.bipush 47, 2) := dzq_16 (by decide +kernel)
theorem D_239_141 : decode J_239.2.2.1 141 = .ok (.if_icmp .ne 9, 3) := dzq_160 (by decide +kernel)
theorem D_239_144 : decode J_239.2.2.1 144 = .ok (.iload_n 3, 1) := dzq_29 (by decide +kernel)
theorem D_239_145 : decode J_239.2.2.1 145 = .ok (.iload_n 2, 1) := dzq_28 (by decide +kernel)
theorem D_239_146 : decode J_239.2.2.1 146 = .ok (.idiv, 1) := by decide +kernel
theorem D_239_147 : decode J_239.2.2.1 147 = .ok (.goto 6, 3) := dzq_167 (by decide +kernel)
theorem D_239_150 : decode J_239.2.2.1 150 = .ok (.iload_n 3, 1) := dzq_29 (by decide +kernel)
theorem D_239_151 : decode J_239.2.2.1 151 = .ok (.iload_n 2, 1) := dzq_28 (by decide +kernel)
theorem D_239_152 : decode J_239.2.2.1 152 = .ok (.irem, 1) := by decide +kernel
theorem D_239_153 : decode J_239.2.2.1 153 = .ok (.invokevirtual 663, 3) := dzq_182 (by decide +kernel)
theorem D_239_156 : decode J_239.2.2.1 156 = .ok (.goto 51, 3) := dzq_167 (by decide +kernel)
theorem D_239_159 : decode J_239.2.2.1 159 = .ok (.aload_n 0, 1) := dzq_42 (by decide +kernel)
theorem D_239_160 : decode J_239.2.2.1 160 = .ok (.iload_n 3, 1) := dzq_29 (by decide +kernel)
theorem D_239_161 : decode J_239.2.2.1 161 = .ok (.iload_n 2, 1) := dzq_28 (by decide +kernel)
theorem D_239_162 : decode J_239.2.2.1 162 = .ok (.if_icmp .ge 7, 3) := dzq_162 (by decide +kernel)
theorem D_239_165 : decode J_239.2.2.1 165 = .ok (.iconst 1, 1) := dzq_4 (by decide +kernel)
theorem D_239_166 : decode J_239.2.2.1 166 = .ok (.goto 4, 3) := dzq_167 (by decide +kernel)
theorem D_239_169 : decode J_239.2.2.1 169 = .ok (.iconst 0, 1) := dzq_3 (by decide +kernel)
theorem D_239_170 : decode J_239.2.2.1 170 = .ok (.invokevirtual 663, 3) := dzq_182 (by decide +kernel)
theorem D_239_173 : decode J_239.2.2.1 173 = .ok (.goto 34, 3) := dzq_167 (by decide +kernel)
theorem D_239_176 : decode J_239.2.2.1 176 = .ok (.aload_n 0, 1) := dzq_42 (by decide +kernel)
theorem D_239_177 : decode J_239.2.2.1 177 = .ok (.iload_n 3, 1) := dzq_29 (by decide +kernel)
theorem D_239_178 : decode J_239.2.2.1 178 = .ok (.iload_n 2, 1) := dzq_28 (by decide +kernel)
theorem D_239_179 : decode J_239.2.2.1 179 = .ok (.if_icmp .ne 7, 3) := dzq_160 (by decide +kernel)
theorem D_239_182 : decode J_239.2.2.1 182 = .ok (.iconst 1, 1) := dzq_4 (by decide +kernel)
theorem D_239_183 : decode J_239.2.2.1 183 = .ok (.goto 4, 3) := dzq_167 (by decide +kernel)
theorem D_239_186 : decode J_239.2.2.1 186 = .ok (.iconst 0, 1) := dzq_3 (by decide +kernel)
theorem D_239_187 : decode J_239.2.2.1 187 = .ok (.invokevirtual 663, 3) := dzq_182 (by decide +kernel)
theorem D_239_190 : decode J_239.2.2.1 190 = .ok (.goto 17, 3) := dzq_167 (by decide +kernel)
theorem D_239_193 : decode J_239.2.2.1 193 = .ok (.aload_n 0, 1) := dzq_42 (by decide +kernel)
theorem D_239_194 : decode J_239.2.2.1 194 = .ok (.iload_n 3, 1) := dzq_29 (by decide +kernel)
theorem D_239_195 : decode J_239.2.2.1 195 = .ok (.iload_n 2, 1) := dzq_28 (by decide +kernel)
theorem D_239_196 : decode J_239.2.2.1 196 = .ok (.if_icmp .eq 7, 3) := dzq_159 (by decide +kernel)
theorem D_239_199 : decode J_239.2.2.1 199 = .ok (.iconst 1, 1) := dzq_4 (by decide +kernel)
theorem D_239_200 : decode J_239.2.2.1 200 = .ok (.goto 4, 3) := dzq_167 (by decide +kernel)
theorem D_239_203 : decode J_239.2.2.1 203 = .ok (.iconst 0, 1) := dzq_3 (by decide +kernel)
theorem D_239_204 : decode J_239.2.2.1 204 = .ok (.invokevirtual 663, 3) := dzq_182 (by decide +kernel)
theorem D_239_207 : decode J_239.2.2.1 207 = .ok (.return_, 1) := dzq_177 (by decide +kernel)
def P_239_153 (X : mjX) (d C S kc ks : Nat) (k : Nat → Int32 → mjH → mjU) : Prop := ∀ (s0 : Nat) (s1 : Int32) (hp : mjH) (q : Option Value × mjH), k s0 s1 hp = some q → mjG X d C S J_239 (mjEq q) 153 [none, none, none, none] [.int s1, .ref s0] hp kc ks
def P_239_114 (X : mjX) (d C S kc ks : Nat) (k : Nat → Int32 → Int32 → Int32 → mjH → mjU) : Prop := ∀ (l0 : Nat) (l1 : Int32) (l2 : Int32) (l3 : Int32) (hp : mjH) (q : Option Value × mjH), k l0 l1 l2 l3 hp = some q → mjG X d C S J_239 (mjEq q) 114 [some (.ref l0), some (.int l1), some (.int l2), some (.int l3)] [] hp kc ks
def P_239_170 (X : mjX) (d C S kc ks : Nat) (k : Nat → Int32 → mjH → mjU) : Prop := ∀ (s0 : Nat) (s1 : Int32) (hp : mjH) (q : Option Value × mjH), k s0 s1 hp = some q → mjG X d C S J_239 (mjEq q) 170 [none, none, none, none] [.int s1, .ref s0] hp kc ks
def P_239_187 (X : mjX) (d C S kc ks : Nat) (k : Nat → Int32 → mjH → mjU) : Prop := ∀ (s0 : Nat) (s1 : Int32) (hp : mjH) (q : Option Value × mjH), k s0 s1 hp = some q → mjG X d C S J_239 (mjEq q) 187 [none, none, none, none] [.int s1, .ref s0] hp kc ks
def P_239_204 (X : mjX) (d C S kc ks : Nat) (k : Nat → Int32 → mjH → mjU) : Prop := ∀ (s0 : Nat) (s1 : Int32) (hp : mjH) (q : Option Value × mjH), k s0 s1 hp = some q → mjG X d C S J_239 (mjEq q) 204 [none, none, none, none] [.int s1, .ref s0] hp kc ks
def P_239_0 (X : mjX) (d C S kc ks : Nat) (k : Nat → Int32 → mjH → mjU) : Prop := ∀ (l0 : Nat) (l1 : Int32) (hp : mjH) (q : Option Value × mjH), k l0 l1 hp = some q → mjG X d C S J_239 (mjEq q) 0 [some (.ref l0), some (.int l1), none, none] [] hp kc ks
noncomputable def b_239_153 (R : mjR) (s0 : Nat) (s1 : Int32) (hp : mjH) : mjU := rV hp s0 12 (bN (R 232 [.ref s0, .int s1] hp) (fun  hp1 => some (none, hp1)))
theorem t_239_153 {X : mjX} {d C S kc ks : Nat} {R : mjR} (hR : mjC R d) (h1 : kc ≤ C) (h2 : ks ≤ S) : P_239_153 X (d + 1) C S kc ks (b_239_153 R) := by
  intro s0 s1 hp q h
  unfold b_239_153 at h
  refine mjq_vN (As := [.int s1]) (rest := []) D_239_153 mr_12_663 V_232 rfl rfl rfl hR (Nat.le_refl _) h1 h2 h (fun  hp1 h => ?_)
  refine mjr_goto (tgt := 207) D_239_156 rfl ?_
  exact mjq_nret D_239_207 rfl h1 h2 h
noncomputable def b_239_114 (R : mjR) (l0 : Nat) (l1 : Int32) (l2 : Int32) (l3 : Int32) (hp : mjH) : mjU := (if l2 = 0 then gR hp l0 12 55 (fun v3 => aI hp v3 l1 (fun v4 => rV hp l0 12 (bN (R 234 [.ref l0, .int (2 : Int32), .int v4] hp) (fun  hp5 => some (none, hp5))))) else gR hp l0 12 56 (fun v1 => aI hp v1 l1 (fun v2 => (if v2 = (47 : Int32) then (if l2 = 0 then none else b_239_153 R l0 (l3 / l2) hp) else (if l2 = 0 then none else b_239_153 R l0 (l3 - l3 / l2 * l2) hp)))))
theorem t_239_114 {X : mjX} {d C S kc ks : Nat} {R : mjR} (hR : mjC R d) (h1 : kc ≤ C) (h2 : ks ≤ S) : P_239_114 X (d + 1) C S kc ks (b_239_114 R) := by
  intro l0 l1 l2 l3 hp q h
  unfold b_239_114 at h
  refine mjr_iload_n (x := l2) D_239_114 rfl ?_
  refine mjq_if_ne (tgt := 132) D_239_115 rfl h (fun h => ?_) (fun h => ?_)
  · refine mjr_aload_n (x := l0) D_239_132 rfl ?_
    refine mjr_aload_n (x := l0) D_239_133 rfl ?_
    refine mjq_gR D_239_134 fr_12_154 h (fun v1 h => ?_)
    refine mjr_iload_n (x := l1) D_239_137 rfl ?_
    refine mjq_aI D_239_138 h (fun v2 h => ?_)
    refine mjq_bi (v := (47 : Int32)) D_239_139 rfl ?_
    refine mjq_icmp_ne (tgt := 150) D_239_141 rfl h (fun h => ?_) (fun h => ?_)
    · refine mjr_iload_n (x := l3) D_239_150 rfl ?_
      refine mjr_iload_n (x := l2) D_239_151 rfl ?_
      refine mjq_irem D_239_152 h (fun h => ?_)
      exact mjG.fg (lo' := [none, none, none, none]) True.intro ((t_239_153 hR h1 h2) _ _ _ _ h)
    · refine mjr_iload_n (x := l3) D_239_144 rfl ?_
      refine mjr_iload_n (x := l2) D_239_145 rfl ?_
      refine mjq_idiv D_239_146 h (fun h => ?_)
      refine mjr_goto (tgt := 153) D_239_147 rfl ?_
      exact mjG.fg (lo' := [none, none, none, none]) True.intro ((t_239_153 hR h1 h2) _ _ _ _ h)
  · refine mjr_aload_n (x := l0) D_239_118 rfl ?_
    refine mjq_ic (v := (2 : Int32)) D_239_119 rfl ?_
    refine mjr_aload_n (x := l0) D_239_120 rfl ?_
    refine mjq_gR D_239_121 fr_12_151 h (fun v3 h => ?_)
    refine mjr_iload_n (x := l1) D_239_124 rfl ?_
    refine mjq_aI D_239_125 h (fun v4 h => ?_)
    refine mjq_vN (As := [.int (2 : Int32), .int v4]) (rest := []) D_239_126 mr_12_675 V_234 rfl rfl rfl hR (Nat.le_refl _) h1 h2 h (fun  hp5 h => ?_)
    refine mjr_goto (tgt := 207) D_239_129 rfl ?_
    exact mjq_nret D_239_207 rfl h1 h2 h
noncomputable def b_239_170 (R : mjR) (s0 : Nat) (s1 : Int32) (hp : mjH) : mjU := rV hp s0 12 (bN (R 232 [.ref s0, .int s1] hp) (fun  hp1 => some (none, hp1)))
theorem t_239_170 {X : mjX} {d C S kc ks : Nat} {R : mjR} (hR : mjC R d) (h1 : kc ≤ C) (h2 : ks ≤ S) : P_239_170 X (d + 1) C S kc ks (b_239_170 R) := by
  intro s0 s1 hp q h
  unfold b_239_170 at h
  refine mjq_vN (As := [.int s1]) (rest := []) D_239_170 mr_12_663 V_232 rfl rfl rfl hR (Nat.le_refl _) h1 h2 h (fun  hp1 h => ?_)
  refine mjr_goto (tgt := 207) D_239_173 rfl ?_
  exact mjq_nret D_239_207 rfl h1 h2 h
noncomputable def b_239_187 (R : mjR) (s0 : Nat) (s1 : Int32) (hp : mjH) : mjU := rV hp s0 12 (bN (R 232 [.ref s0, .int s1] hp) (fun  hp1 => some (none, hp1)))
theorem t_239_187 {X : mjX} {d C S kc ks : Nat} {R : mjR} (hR : mjC R d) (h1 : kc ≤ C) (h2 : ks ≤ S) : P_239_187 X (d + 1) C S kc ks (b_239_187 R) := by
  intro s0 s1 hp q h
  unfold b_239_187 at h
  refine mjq_vN (As := [.int s1]) (rest := []) D_239_187 mr_12_663 V_232 rfl rfl rfl hR (Nat.le_refl _) h1 h2 h (fun  hp1 h => ?_)
  refine mjr_goto (tgt := 207) D_239_190 rfl ?_
  exact mjq_nret D_239_207 rfl h1 h2 h
noncomputable def b_239_204 (R : mjR) (s0 : Nat) (s1 : Int32) (hp : mjH) : mjU := rV hp s0 12 (bN (R 232 [.ref s0, .int s1] hp) (fun  hp1 => some (none, hp1)))
theorem t_239_204 {X : mjX} {d C S kc ks : Nat} {R : mjR} (hR : mjC R d) (h1 : kc ≤ C) (h2 : ks ≤ S) : P_239_204 X (d + 1) C S kc ks (b_239_204 R) := by
  intro s0 s1 hp q h
  unfold b_239_204 at h
  refine mjq_vN (As := [.int s1]) (rest := []) D_239_204 mr_12_663 V_232 rfl rfl rfl hR (Nat.le_refl _) h1 h2 h (fun  hp1 h => ?_)
  exact mjq_nret D_239_207 rfl h1 h2 h
noncomputable def b_239_0 (R : mjR) (l0 : Nat) (l1 : Int32) (hp : mjH) : mjU := rV hp l0 12 (bI (R 238 [.ref l0] hp) (fun v1 hp2 => rV hp2 l0 12 (bI (R 238 [.ref l0] hp2) (fun v3 hp4 => gR hp4 l0 12 56 (fun v5 => aI hp4 v5 l1 (fun v6 => (if v6 = (37 : Int32) then b_239_114 R l0 l1 v1 v3 hp4 else if v6 = (42 : Int32) then rV hp4 l0 12 (bN (R 232 [.ref l0, .int (v3 * v1)] hp4) (fun  hp9 => some (none, hp9))) else if v6 = (43 : Int32) then rV hp4 l0 12 (bN (R 232 [.ref l0, .int (v3 + v1)] hp4) (fun  hp11 => some (none, hp11))) else if v6 = (45 : Int32) then rV hp4 l0 12 (bN (R 232 [.ref l0, .int (v3 - v1)] hp4) (fun  hp13 => some (none, hp13))) else if v6 = (47 : Int32) then b_239_114 R l0 l1 v1 v3 hp4 else if v6 = (60 : Int32) then (if v1 ≤ v3 then b_239_170 R l0 (0 : Int32) hp4 else b_239_170 R l0 (1 : Int32) hp4) else if v6 = (257 : Int32) then (if v3 = v1 then b_239_187 R l0 (1 : Int32) hp4 else b_239_187 R l0 (0 : Int32) hp4) else (if v3 = v1 then b_239_204 R l0 (0 : Int32) hp4 else b_239_204 R l0 (1 : Int32) hp4))))))))
theorem t_239_0 {X : mjX} {d C S kc ks : Nat} {R : mjR} (hR : mjC R d) (h1 : kc ≤ C) (h2 : ks ≤ S) : P_239_0 X (d + 1) C S kc ks (b_239_0 R) := by
  intro l0 l1 hp q h
  unfold b_239_0 at h
  refine mjr_aload_n (x := l0) D_239_0 rfl ?_
  refine mjq_vI (As := []) (rest := []) D_239_1 mr_12_669 V_238 rfl rfl rfl hR (Nat.le_refl _) h1 h2 h (fun v1 hp2 h => ?_)
  refine mjq_istore_n (lo' := [some (.ref l0), some (.int l1), some (.int v1), none]) D_239_4 (Nat.le_of_ble_eq_true rfl) rfl ?_
  refine mjr_aload_n (x := l0) D_239_5 rfl ?_
  refine mjq_vI (As := []) (rest := []) D_239_6 mr_12_669 V_238 rfl rfl rfl hR (Nat.le_refl _) h1 h2 h (fun v3 hp4 h => ?_)
  refine mjq_istore_n (lo' := [some (.ref l0), some (.int l1), some (.int v1), some (.int v3)]) D_239_9 (Nat.le_of_ble_eq_true rfl) rfl ?_
  refine mjr_aload_n (x := l0) D_239_10 rfl ?_
  refine mjq_gR D_239_11 fr_12_154 h (fun v5 h => ?_)
  refine mjr_iload_n (x := l1) D_239_14 rfl ?_
  refine mjq_aI D_239_15 h (fun v6 h => ?_)
  refine mjq_lsw (c := (37 : Int32)) (tgt := 114) D_239_16 rfl (by decide) h (fun h => ?_) (fun n7 h => ?_)
  · exact (t_239_114 hR h1 h2) _ _ _ _ _ _ h
  refine mjq_lsw (c := (42 : Int32)) (tgt := 104) D_239_16 rfl (by decide) h (fun h => ?_) (fun n8 h => ?_)
  · refine mjr_aload_n (x := l0) D_239_104 rfl ?_
    refine mjr_iload_n (x := v3) D_239_105 rfl ?_
    refine mjr_iload_n (x := v1) D_239_106 rfl ?_
    refine mjr_imul D_239_107 ?_
    refine mjq_vN (As := [.int (v3 * v1)]) (rest := []) D_239_108 mr_12_663 V_232 rfl rfl rfl hR (Nat.le_refl _) h1 h2 h (fun  hp9 h => ?_)
    refine mjr_goto (tgt := 207) D_239_111 rfl ?_
    exact mjq_nret D_239_207 rfl h1 h2 h
  refine mjq_lsw (c := (43 : Int32)) (tgt := 84) D_239_16 rfl (by decide) h (fun h => ?_) (fun n10 h => ?_)
  · refine mjr_aload_n (x := l0) D_239_84 rfl ?_
    refine mjr_iload_n (x := v3) D_239_85 rfl ?_
    refine mjr_iload_n (x := v1) D_239_86 rfl ?_
    refine mjr_iadd D_239_87 ?_
    refine mjq_vN (As := [.int (v3 + v1)]) (rest := []) D_239_88 mr_12_663 V_232 rfl rfl rfl hR (Nat.le_refl _) h1 h2 h (fun  hp11 h => ?_)
    refine mjr_goto (tgt := 207) D_239_91 rfl ?_
    exact mjq_nret D_239_207 rfl h1 h2 h
  refine mjq_lsw (c := (45 : Int32)) (tgt := 94) D_239_16 rfl (by decide) h (fun h => ?_) (fun n12 h => ?_)
  · refine mjr_aload_n (x := l0) D_239_94 rfl ?_
    refine mjr_iload_n (x := v3) D_239_95 rfl ?_
    refine mjr_iload_n (x := v1) D_239_96 rfl ?_
    refine mjr_isub D_239_97 ?_
    refine mjq_vN (As := [.int (v3 - v1)]) (rest := []) D_239_98 mr_12_663 V_232 rfl rfl rfl hR (Nat.le_refl _) h1 h2 h (fun  hp13 h => ?_)
    refine mjr_goto (tgt := 207) D_239_101 rfl ?_
    exact mjq_nret D_239_207 rfl h1 h2 h
  refine mjq_lsw (c := (47 : Int32)) (tgt := 114) D_239_16 rfl (by decide) h (fun h => ?_) (fun n14 h => ?_)
  · exact (t_239_114 hR h1 h2) _ _ _ _ _ _ h
  refine mjq_lsw (c := (60 : Int32)) (tgt := 159) D_239_16 rfl (by decide) h (fun h => ?_) (fun n15 h => ?_)
  · refine mjr_aload_n (x := l0) D_239_159 rfl ?_
    refine mjr_iload_n (x := v3) D_239_160 rfl ?_
    refine mjr_iload_n (x := v1) D_239_161 rfl ?_
    refine mjq_icmp_ge (tgt := 169) D_239_162 rfl h (fun h => ?_) (fun h => ?_)
    · refine mjq_ic (v := (0 : Int32)) D_239_169 rfl ?_
      exact mjG.fg (lo' := [none, none, none, none]) True.intro ((t_239_170 hR h1 h2) _ _ _ _ h)
    · refine mjq_ic (v := (1 : Int32)) D_239_165 rfl ?_
      refine mjr_goto (tgt := 170) D_239_166 rfl ?_
      exact mjG.fg (lo' := [none, none, none, none]) True.intro ((t_239_170 hR h1 h2) _ _ _ _ h)
  refine mjq_lsw (c := (257 : Int32)) (tgt := 176) D_239_16 rfl (by decide) h (fun h => ?_) (fun n16 h => ?_)
  · refine mjr_aload_n (x := l0) D_239_176 rfl ?_
    refine mjr_iload_n (x := v3) D_239_177 rfl ?_
    refine mjr_iload_n (x := v1) D_239_178 rfl ?_
    refine mjq_icmp_ne (tgt := 186) D_239_179 rfl h (fun h => ?_) (fun h => ?_)
    · refine mjq_ic (v := (0 : Int32)) D_239_186 rfl ?_
      exact mjG.fg (lo' := [none, none, none, none]) True.intro ((t_239_187 hR h1 h2) _ _ _ _ h)
    · refine mjq_ic (v := (1 : Int32)) D_239_182 rfl ?_
      refine mjr_goto (tgt := 187) D_239_183 rfl ?_
      exact mjG.fg (lo' := [none, none, none, none]) True.intro ((t_239_187 hR h1 h2) _ _ _ _ h)
  refine mjq_lswD (tgt := 193) [(37 : Int32), (42 : Int32), (43 : Int32), (45 : Int32), (47 : Int32), (60 : Int32), (257 : Int32)] D_239_16 rfl (by decide) (mj_all1 n7 (mj_all1 n8 (mj_all1 n10 (mj_all1 n12 (mj_all1 n14 (mj_all1 n15 (mj_all1 n16 mj_all0))))))) rfl ?_
  refine mjr_aload_n (x := l0) D_239_193 rfl ?_
  refine mjr_iload_n (x := v3) D_239_194 rfl ?_
  refine mjr_iload_n (x := v1) D_239_195 rfl ?_
  refine mjq_icmp_eq (tgt := 203) D_239_196 rfl h (fun h => ?_) (fun h => ?_)
  · refine mjq_ic (v := (0 : Int32)) D_239_203 rfl ?_
    exact mjG.fg (lo' := [none, none, none, none]) True.intro ((t_239_204 hR h1 h2) _ _ _ _ h)
  · refine mjq_ic (v := (1 : Int32)) D_239_199 rfl ?_
    refine mjr_goto (tgt := 204) D_239_200 rfl ?_
    exact mjG.fg (lo' := [none, none, none, none]) True.intro ((t_239_204 hR h1 h2) _ _ _ _ h)
noncomputable def f_239 (R : mjR) (a0 : Nat) (a1 : Int32) (hp : mjH) : mjU := b_239_0 R a0 a1 hp
theorem c_239 {R : mjR} {d : Nat} (hR : mjC R d) {a0 : Nat} {a1 : Int32} {hp : mjH} {q : Option Value × mjH} (h : f_239 R a0 a1 hp = some q) : mjM (d + 1) 0 0 239 [.ref a0, .int a1] hp (mjEq q) :=
  mjM_of Ja_239 (Nat.le_of_ble_eq_true rfl) (mjG.fg (lo' := [some (.ref a0), some (.int a1), none, none]) (And.intro rfl (And.intro rfl True.intro)) ((t_239_0 hR (Nat.le_refl 0) (Nat.le_refl 0)) a0 a1 hp q h))
def J_240 : mjI := (⟨"OwnerHeapModel", "call", "(I)V"⟩, 12, prog_14_method_93_code, 7, none, 1, false)
theorem Ja_240 : mjMt 240 = some J_240 := by rfl
theorem D_240_0 : decode J_240.2.2.1 0 = .ok (.aload_n 0, 1) := dzq_42 (by decide +kernel)
theorem D_240_1 : decode J_240.2.2.1 1 = .ok (.getfield 154, 3) := dzq_180 (by decide +kernel)
theorem D_240_4 : decode J_240.2.2.1 4 = .ok (.iload_n 1, 1) := dzq_27 (by decide +kernel)
theorem D_240_5 : decode J_240.2.2.1 5 = .ok (.iaload, 1) := dzq_46 (by decide +kernel)
theorem D_240_6 : decode J_240.2.2.1 6 = .ok (.istore_n 2, 1) := dzq_61 (by decide +kernel)
theorem D_240_7 : decode J_240.2.2.1 7 = .ok (.aload_n 0, 1) := dzq_42 (by decide +kernel)
theorem D_240_8 : decode J_240.2.2.1 8 = .ok (.getfield 254, 3) := dzq_180 (by decide +kernel)
theorem D_240_11 : decode J_240.2.2.1 11 = .ok (.aload_n 0, 1) := dzq_42 (by decide +kernel)
theorem D_240_12 : decode J_240.2.2.1 12 = .ok (.getfield 633, 3) := dzq_180 (by decide +kernel)
theorem D_240_15 : decode J_240.2.2.1 15 = .ok (.iconst 1, 1) := dzq_4 (by decide +kernel)
theorem D_240_16 : decode J_240.2.2.1 16 = .ok (.isub, 1) := dzq_100 (by decide +kernel)
theorem D_240_17 : decode J_240.2.2.1 17 = .ok (.iload_n 2, 1) := dzq_28 (by decide +kernel)
theorem D_240_18 : decode J_240.2.2.1 18 = .ok (.isub, 1) := dzq_100 (by decide +kernel)
theorem D_240_19 : decode J_240.2.2.1 19 = .ok (.iaload, 1) := dzq_46 (by decide +kernel)
theorem D_240_20 : decode J_240.2.2.1 20 = .ok (.istore_n 3, 1) := dzq_62 (by decide +kernel)
theorem D_240_21 : decode J_240.2.2.1 21 = .ok (.iload_n 3, 1) := dzq_29 (by decide +kernel)
theorem D_240_22 : decode J_240.2.2.1 22 = .ok (.ifCond .ne 15, 3) := dzq_154 (by decide +kernel)
theorem D_240_25 : decode J_240.2.2.1 25 = .ok (.aload_n 0, 1) := dzq_42 (by decide +kernel)
theorem D_240_26 : decode J_240.2.2.1 26 = .ok (.iconst 1, 1) := dzq_4 (by decide +kernel)
theorem D_240_27 : decode J_240.2.2.1 27 = .ok (.aload_n 0, 1) := dzq_42 (by decide +kernel)
theorem D_240_28 : decode J_240.2.2.1 28 = .ok (.getfield 151, 3) := dzq_180 (by decide +kernel)
theorem D_240_31 : decode J_240.2.2.1 31 = .ok (.iload_n 1, 1) := dzq_27 (by decide +kernel)
theorem D_240_32 : decode J_240.2.2.1 32 = .ok (.iaload, 1) := dzq_46 (by decide +kernel)
theorem D_240_33 : decode J_240.2.2.1 33 = .ok (.invokevirtual 675, 3) := dzq_182 (by decide +kernel)
theorem D_240_36 : decode J_240.2.2.1 36 = .ok (.return_, 1) := dzq_177 (by decide +kernel)
theorem D_240_37 : decode J_240.2.2.1 37 = .ok (.aload_n 0, 1) := dzq_42 (by decide +kernel)
theorem D_240_38 : decode J_240.2.2.1 38 = .ok (.getfield 627, 3) := dzq_180 (by decide +kernel)
theorem D_240_41 : decode J_240.2.2.1 41 = .ok (.aload_n 0, 1) := dzq_42 (by decide +kernel)
theorem D_240_42 : decode J_240.2.2.1 42 = .ok (.getfield 702, 3) := dzq_180 (by decide +kernel)
theorem D_240_45 : decode J_240.2.2.1 45 = .ok (.if_icmp .ne 15, 3) := dzq_160 (by decide +kernel)
theorem D_240_48 : decode J_240.2.2.1 48 = .ok (.aload_n 0, 1) := dzq_42 (by decide +kernel)
theorem D_240_49 : decode J_240.2.2.1 49 = .ok (.iconst 5, 1) := dzq_8 (by decide +kernel)
theorem D_240_50 : decode J_240.2.2.1 50 = .ok (.aload_n 0, 1) := dzq_42 (by decide +kernel)
theorem D_240_51 : decode J_240.2.2.1 51 = .ok (.getfield 151, 3) := dzq_180 (by decide +kernel)
theorem D_240_54 : decode J_240.2.2.1 54 = .ok (.iload_n 1, 1) := dzq_27 (by decide +kernel)
theorem D_240_55 : decode J_240.2.2.1 55 = .ok (.iaload, 1) := dzq_46 (by decide +kernel)
theorem D_240_56 : decode J_240.2.2.1 56 = .ok (.invokevirtual 675, 3) := dzq_182 (by decide +kernel)
theorem D_240_59 : decode J_240.2.2.1 59 = .ok (.return_, 1) := dzq_177 (by decide +kernel)
theorem D_240_60 : decode J_240.2.2.1 60 = .ok (.aload_n 0, 1) := dzq_42 (by decide +kernel)
theorem D_240_61 : decode J_240.2.2.1 61 = .ok (.aload_n 0, 1) := dzq_42 (by decide +kernel)
theorem D_240_62 : decode J_240.2.2.1 62 = .ok (.getfield 233, 3) := dzq_180 (by decide +kernel)
theorem D_240_65 : decode J_240.2.2.1 65 = .ok (.iload_n 3, 1) := dzq_29 (by decide +kernel)
theorem D_240_66 : decode J_240.2.2.1 66 = .ok (.iaload, 1) := dzq_46 (by decide +kernel)
theorem D_240_67 : decode J_240.2.2.1 67 = .ok (.aload_n 0, 1) := dzq_42 (by decide +kernel)
theorem D_240_68 : decode J_240.2.2.1 68 = .ok (.getfield 160, 3) := dzq_180 (by decide +kernel)
theorem D_240_71 : decode J_240.2.2.1 71 = .ok (.iload_n 1, 1) := dzq_27 (by decide +kernel)
theorem D_240_72 : decode J_240.2.2.1 72 = .ok (.laload, 1) := dzq_47 (by decide +kernel)
theorem D_240_73 : decode J_240.2.2.1 73 = .ok (.invokevirtual 705, 3) := dzq_182 (by decide +kernel)
theorem D_240_76 : decode J_240.2.2.1 76 = .ok (.istore 4, 2) := dzq_54 (by decide +kernel)
theorem D_240_78 : decode J_240.2.2.1 78 = .ok (.aload_n 0, 1) := dzq_42 (by decide +kernel)
theorem D_240_79 : decode J_240.2.2.1 79 = .ok (.getfield 627, 3) := dzq_180 (by decide +kernel)
theorem D_240_82 : decode J_240.2.2.1 82 = .ok (.istore 5, 2) := dzq_54 (by decide +kernel)
theorem D_240_84 : decode J_240.2.2.1 84 = .ok (.aload_n 0, 1) := dzq_42 (by decide +kernel)
theorem D_240_85 : decode J_240.2.2.1 85 = .ok (.dup, 1) := dzq_89 (by decide +kernel)
theorem D_240_86 : decode J_240.2.2.1 86 = .ok (.getfield 627, 3) := dzq_180 (by decide +kernel)
theorem D_240_89 : decode J_240.2.2.1 89 = .ok (.iconst 1, 1) := dzq_4 (by decide +kernel)
theorem D_240_90 : decode J_240.2.2.1 90 = .ok (.iadd, 1) := dzq_96 (by decide +kernel)
theorem D_240_91 : decode J_240.2.2.1 91 = .ok (.putfield 627, 3) := dzq_181 (by decide +kernel)
theorem D_240_94 : decode J_240.2.2.1 94 = .ok (.aload_n 0, 1) := dzq_42 (by decide +kernel)
theorem D_240_95 : decode J_240.2.2.1 95 = .ok (.aload_n 0, 1) := dzq_42 (by decide +kernel)
theorem D_240_96 : decode J_240.2.2.1 96 = .ok (.getfield 708, 3) := dzq_180 (by decide +kernel)
theorem D_240_99 : decode J_240.2.2.1 99 = .ok (.aload_n 0, 1) := dzq_42 (by decide +kernel)
theorem D_240_100 : decode J_240.2.2.1 100 = .ok (.getfield 627, 3) := dzq_180 (by decide +kernel)
theorem D_240_103 : decode J_240.2.2.1 103 = .ok (.invokestatic 466, 3) := dzq_184 (by decide +kernel)
theorem D_240_106 : decode J_240.2.2.1 106 = .ok (.putfield 708, 3) := dzq_181 (by decide +kernel)
theorem D_240_109 : decode J_240.2.2.1 109 = .ok (.aload_n 0, 1) := dzq_42 (by decide +kernel)
theorem D_240_110 : decode J_240.2.2.1 110 = .ok (.getfield 239, 3) := dzq_180 (by decide +kernel)
theorem D_240_113 : decode J_240.2.2.1 113 = .ok (.iload 5, 2) := dzq_21 (by decide +kernel)
theorem D_240_115 : decode J_240.2.2.1 115 = .ok (.iload 4, 2) := dzq_21 (by decide +kernel)
theorem D_240_117 : decode J_240.2.2.1 117 = .ok (.iastore, 1) := dzq_79 (by decide +kernel)
theorem D_240_118 : decode J_240.2.2.1 118 = .ok (.aload_n 0, 1) := dzq_42 (by decide +kernel)
theorem D_240_119 : decode J_240.2.2.1 119 = .ok (.getfield 242, 3) := dzq_180 (by decide +kernel)
theorem D_240_122 : decode J_240.2.2.1 122 = .ok (.iload 5, 2) := dzq_21 (by decide +kernel)
theorem D_240_124 : decode J_240.2.2.1 124 = .ok (.iload_n 3, 1) := dzq_29 (by decide +kernel)
theorem D_240_125 : decode J_240.2.2.1 125 = .ok (.iastore, 1) := dzq_79 (by decide +kernel)
theorem D_240_126 : decode J_240.2.2.1 126 = .ok (.aload_n 0, 1) := dzq_42 (by decide +kernel)
theorem D_240_127 : decode J_240.2.2.1 127 = .ok (.getfield 245, 3) := dzq_180 (by decide +kernel)
theorem D_240_130 : decode J_240.2.2.1 130 = .ok (.iload 5, 2) := dzq_21 (by decide +kernel)
theorem D_240_132 : decode J_240.2.2.1 132 = .ok (.iconst (-1), 1) := dzq_2 (by decide +kernel)
theorem D_240_133 : decode J_240.2.2.1 133 = .ok (.iastore, 1) := dzq_79 (by decide +kernel)
theorem D_240_134 : decode J_240.2.2.1 134 = .ok (.aload_n 0, 1) := dzq_42 (by decide +kernel)
theorem D_240_135 : decode J_240.2.2.1 135 = .ok (.getfield 248, 3) := dzq_180 (by decide +kernel)
theorem D_240_138 : decode J_240.2.2.1 138 = .ok (.iload 5, 2) := dzq_21 (by decide +kernel)
theorem D_240_140 : decode J_240.2.2.1 140 = .ok (.aload_n 0, 1) := dzq_42 (by decide +kernel)
theorem D_240_141 : decode J_240.2.2.1 141 = .ok (.getfield 651, 3) := dzq_180 (by decide +kernel)
theorem D_240_144 : decode J_240.2.2.1 144 = .ok (.iastore, 1) := dzq_79 (by decide +kernel)
theorem D_240_145 : decode J_240.2.2.1 145 = .ok (.iconst 0, 1) := dzq_3 (by decide +kernel)
theorem D_240_146 : decode J_240.2.2.1 146 = .ok (.istore 6, 2) := dzq_54 (by decide +kernel)
theorem D_240_148 : decode J_240.2.2.1 148 = .ok (.iload 6, 2) := dzq_21 (by decide +kernel)
theorem D_240_150 : decode J_240.2.2.1 150 = .ok (.bipush 16, 2) := dzq_16 (by decide +kernel)
theorem D_240_152 : decode J_240.2.2.1 152 = .ok (.if_icmp .ge 46, 3) := dzq_162 (by decide +kernel)
theorem D_240_155 : decode J_240.2.2.1 155 = .ok (.aload_n 0, 1) := dzq_42 (by decide +kernel)
theorem D_240_156 : decode J_240.2.2.1 156 = .ok (.getfield 251, 3) := dzq_180 (by decide +kernel)
theorem D_240_159 : decode J_240.2.2.1 159 = .ok (.bipush 16, 2) := dzq_16 (by decide +kernel)
theorem D_240_161 : decode J_240.2.2.1 161 = .ok (.iload 5, 2) := dzq_21 (by decide +kernel)
theorem D_240_163 : decode J_240.2.2.1 163 = .ok (.imul, 1) := dzq_104 (by decide +kernel)
theorem D_240_164 : decode J_240.2.2.1 164 = .ok (.iload 6, 2) := dzq_21 (by decide +kernel)
theorem D_240_166 : decode J_240.2.2.1 166 = .ok (.iadd, 1) := dzq_96 (by decide +kernel)
theorem D_240_167 : decode J_240.2.2.1 167 = .ok (.iload 6, 2) := dzq_21 (by decide +kernel)
theorem D_240_169 : decode J_240.2.2.1 169 = .ok (.iload_n 2, 1) := dzq_28 (by decide +kernel)
theorem D_240_170 : decode J_240.2.2.1 170 = .ok (.if_icmp .ge 20, 3) := dzq_162 (by decide +kernel)
theorem D_240_173 : decode J_240.2.2.1 173 = .ok (.aload_n 0, 1) := dzq_42 (by decide +kernel)
theorem D_240_174 : decode J_240.2.2.1 174 = .ok (.getfield 254, 3) := dzq_180 (by decide +kernel)
theorem D_240_177 : decode J_240.2.2.1 177 = .ok (.aload_n 0, 1) := dzq_42 (by decide +kernel)
theorem D_240_178 : decode J_240.2.2.1 178 = .ok (.getfield 633, 3) := dzq_180 (by decide +kernel)
theorem D_240_181 : decode J_240.2.2.1 181 = .ok (.iload_n 2, 1) := dzq_28 (by decide +kernel)
theorem D_240_182 : decode J_240.2.2.1 182 = .ok (.isub, 1) := dzq_100 (by decide +kernel)
theorem D_240_183 : decode J_240.2.2.1 183 = .ok (.iload 6, 2) := dzq_21 (by decide +kernel)
theorem D_240_185 : decode J_240.2.2.1 185 = .ok (.iadd, 1) := dzq_96 (by decide +kernel)
theorem D_240_186 : decode J_240.2.2.1 186 = .ok (.iaload, 1) := dzq_46 (by decide +kernel)
theorem D_240_187 : decode J_240.2.2.1 187 = .ok (.goto 4, 3) := dzq_167 (by decide +kernel)
theorem D_240_190 : decode J_240.2.2.1 190 = .ok (.iconst 0, 1) := dzq_3 (by decide +kernel)
theorem D_240_191 : decode J_240.2.2.1 191 = .ok (.iastore, 1) := dzq_79 (by decide +kernel)
theorem D_240_192 : decode J_240.2.2.1 192 = .ok (.iinc 6 1, 3) := dzq_132 (by decide +kernel)
theorem D_240_195 : decode J_240.2.2.1 195 = .ok (.goto (-47), 3) := dzq_167 (by decide +kernel)
theorem D_240_198 : decode J_240.2.2.1 198 = .ok (.aload_n 0, 1) := dzq_42 (by decide +kernel)
theorem D_240_199 : decode J_240.2.2.1 199 = .ok (.dup, 1) := dzq_89 (by decide +kernel)
theorem D_240_200 : decode J_240.2.2.1 200 = .ok (.getfield 633, 3) := dzq_180 (by decide +kernel)
theorem D_240_203 : decode J_240.2.2.1 203 = .ok (.iload_n 2, 1) := dzq_28 (by decide +kernel)
theorem D_240_204 : decode J_240.2.2.1 204 = .ok (.iconst 1, 1) := dzq_4 (by decide +kernel)
theorem D_240_205 : decode J_240.2.2.1 205 = .ok (.iadd, 1) := dzq_96 (by decide +kernel)
theorem D_240_206 : decode J_240.2.2.1 206 = .ok (.isub, 1) := dzq_100 (by decide +kernel)
theorem D_240_207 : decode J_240.2.2.1 207 = .ok (.putfield 633, 3) := dzq_181 (by decide +kernel)
theorem D_240_210 : decode J_240.2.2.1 210 = .ok (.aload_n 0, 1) := dzq_42 (by decide +kernel)
theorem D_240_211 : decode J_240.2.2.1 211 = .ok (.aload_n 0, 1) := dzq_42 (by decide +kernel)
theorem D_240_212 : decode J_240.2.2.1 212 = .ok (.getfield 106, 3) := dzq_180 (by decide +kernel)
theorem D_240_215 : decode J_240.2.2.1 215 = .ok (.iload 4, 2) := dzq_21 (by decide +kernel)
theorem D_240_217 : decode J_240.2.2.1 217 = .ok (.iaload, 1) := dzq_46 (by decide +kernel)
theorem D_240_218 : decode J_240.2.2.1 218 = .ok (.putfield 651, 3) := dzq_181 (by decide +kernel)
theorem D_240_221 : decode J_240.2.2.1 221 = .ok (.return_, 1) := dzq_177 (by decide +kernel)
def P_240_191 (X : mjX) (d C S kc ks : Nat) (k : Nat → Int32 → Int32 → Int32 → Int32 → Nat → Int32 → Int32 → mjH → mjU) : Prop := ∀ (l0 : Nat) (l2 : Int32) (l4 : Int32) (l5 : Int32) (l6 : Int32) (s0 : Nat) (s1 : Int32) (s2 : Int32) (hp : mjH) (q : Option Value × mjH), k l0 l2 l4 l5 l6 s0 s1 s2 hp = some q → mjG X d C S J_240 (mjEq q) 191 [some (.ref l0), none, some (.int l2), none, some (.int l4), some (.int l5), some (.int l6)] [.int s2, .int s1, .ref s0] hp kc ks
def P_240_148 (X : mjX) (d C S kc ks : Nat) (k : Nat → Int32 → Int32 → Int32 → Int32 → mjH → mjU) : Prop := ∀ (l0 : Nat) (l2 : Int32) (l4 : Int32) (l5 : Int32) (l6 : Int32) (hp : mjH) (q : Option Value × mjH), k l0 l2 l4 l5 l6 hp = some q → mjG X d C S J_240 (mjEq q) 148 [some (.ref l0), none, some (.int l2), none, some (.int l4), some (.int l5), some (.int l6)] [] hp kc ks
def P_240_0 (X : mjX) (d C S kc ks : Nat) (k : Nat → Int32 → mjH → mjU) : Prop := ∀ (l0 : Nat) (l1 : Int32) (hp : mjH) (q : Option Value × mjH), k l0 l1 hp = some q → mjG X d C S J_240 (mjEq q) 0 [some (.ref l0), some (.int l1), none, none, none, none, none] [] hp kc ks
noncomputable def b_240_191 (R : mjR) (k148 : Nat → Int32 → Int32 → Int32 → Int32 → mjH → mjU) (l0 : Nat) (l2 : Int32) (l4 : Int32) (l5 : Int32) (l6 : Int32) (s0 : Nat) (s1 : Int32) (s2 : Int32) (hp : mjH) : mjU := sI hp s0 s1 s2 (fun hp1 => k148 l0 l2 l4 l5 (l6 + (1 : Int32)) hp1)
theorem t_240_191 {X : mjX} {d C S kc ks : Nat} {R : mjR} (hR : mjC R d) (h1 : kc ≤ C) (h2 : ks ≤ S) {k148 : Nat → Int32 → Int32 → Int32 → Int32 → mjH → mjU} (hk148 : P_240_148 X (d + 1) C S kc ks k148) : P_240_191 X (d + 1) C S kc ks (b_240_191 R k148) := by
  intro l0 l2 l4 l5 l6 s0 s1 s2 hp q h
  unfold b_240_191 at h
  refine mjq_sI D_240_191 h (fun hp1 h => ?_)
  refine mjq_iinc (x := l6) (c := (1 : Int32)) (lo' := [some (.ref l0), none, some (.int l2), none, some (.int l4), some (.int l5), some (.int (l6 + (1 : Int32)))]) D_240_192 rfl (Nat.le_of_ble_eq_true rfl) rfl rfl ?_
  refine mjr_goto (tgt := 148) D_240_195 rfl ?_
  exact hk148 _ _ _ _ _ _ _ h
noncomputable def b_240_148 (R : mjR) (k148 : Nat → Int32 → Int32 → Int32 → Int32 → mjH → mjU) (l0 : Nat) (l2 : Int32) (l4 : Int32) (l5 : Int32) (l6 : Int32) (hp : mjH) : mjU := (if (16 : Int32) ≤ l6 then gI hp l0 12 118 (fun v1 => pI hp l0 12 118 (v1 - (l2 + (1 : Int32))) (fun hp2 => gR hp2 l0 12 40 (fun v3 => aI hp2 v3 l4 (fun v4 => pI hp2 l0 12 119 v4 (fun hp5 => some (none, hp5)))))) else gR hp l0 12 115 (fun v6 => (if l2 ≤ l6 then b_240_191 R k148 l0 l2 l4 l5 l6 v6 (((16 : Int32) * l5) + l6) (0 : Int32) hp else gR hp l0 12 117 (fun v7 => gI hp l0 12 118 (fun v8 => aI hp v7 ((v8 - l2) + l6) (fun v9 => b_240_191 R k148 l0 l2 l4 l5 l6 v6 (((16 : Int32) * l5) + l6) v9 hp))))))
theorem t_240_148 {X : mjX} {d C S kc ks : Nat} {R : mjR} (hR : mjC R d) (h1 : kc ≤ C) (h2 : ks ≤ S) {k148 : Nat → Int32 → Int32 → Int32 → Int32 → mjH → mjU} (hk148 : P_240_148 X (d + 1) C S kc ks k148) : P_240_148 X (d + 1) C S kc ks (b_240_148 R k148) := by
  intro l0 l2 l4 l5 l6 hp q h
  unfold b_240_148 at h
  refine mjr_iload (x := l6) D_240_148 rfl ?_
  refine mjq_bi (v := (16 : Int32)) D_240_150 rfl ?_
  refine mjq_icmp_ge (tgt := 198) D_240_152 rfl h (fun h => ?_) (fun h => ?_)
  · refine mjr_aload_n (x := l0) D_240_198 rfl ?_
    refine mjr_dup D_240_199 rfl ?_
    refine mjq_gI D_240_200 fr_12_633 h (fun v1 h => ?_)
    refine mjr_iload_n (x := l2) D_240_203 rfl ?_
    refine mjq_ic (v := (1 : Int32)) D_240_204 rfl ?_
    refine mjr_iadd D_240_205 ?_
    refine mjr_isub D_240_206 ?_
    refine mjq_pI D_240_207 fr_12_633 rfl rfl h (fun hp2 h => ?_)
    refine mjr_aload_n (x := l0) D_240_210 rfl ?_
    refine mjr_aload_n (x := l0) D_240_211 rfl ?_
    refine mjq_gR D_240_212 fr_12_106 h (fun v3 h => ?_)
    refine mjr_iload (x := l4) D_240_215 rfl ?_
    refine mjq_aI D_240_217 h (fun v4 h => ?_)
    refine mjq_pI D_240_218 fr_12_651 rfl rfl h (fun hp5 h => ?_)
    exact mjq_nret D_240_221 rfl h1 h2 h
  · refine mjr_aload_n (x := l0) D_240_155 rfl ?_
    refine mjq_gR D_240_156 fr_12_251 h (fun v6 h => ?_)
    refine mjq_bi (v := (16 : Int32)) D_240_159 rfl ?_
    refine mjr_iload (x := l5) D_240_161 rfl ?_
    refine mjr_imul D_240_163 ?_
    refine mjr_iload (x := l6) D_240_164 rfl ?_
    refine mjr_iadd D_240_166 ?_
    refine mjr_iload (x := l6) D_240_167 rfl ?_
    refine mjr_iload_n (x := l2) D_240_169 rfl ?_
    refine mjq_icmp_ge (tgt := 190) D_240_170 rfl h (fun h => ?_) (fun h => ?_)
    · refine mjq_ic (v := (0 : Int32)) D_240_190 rfl ?_
      exact (t_240_191 hR h1 h2 hk148) _ _ _ _ _ _ _ _ _ _ h
    · refine mjr_aload_n (x := l0) D_240_173 rfl ?_
      refine mjq_gR D_240_174 fr_12_254 h (fun v7 h => ?_)
      refine mjr_aload_n (x := l0) D_240_177 rfl ?_
      refine mjq_gI D_240_178 fr_12_633 h (fun v8 h => ?_)
      refine mjr_iload_n (x := l2) D_240_181 rfl ?_
      refine mjr_isub D_240_182 ?_
      refine mjr_iload (x := l6) D_240_183 rfl ?_
      refine mjr_iadd D_240_185 ?_
      refine mjq_aI D_240_186 h (fun v9 h => ?_)
      refine mjr_goto (tgt := 191) D_240_187 rfl ?_
      exact (t_240_191 hR h1 h2 hk148) _ _ _ _ _ _ _ _ _ _ h
noncomputable def L_240_148 (R : mjR) (n : Nat) : Nat → Int32 → Int32 → Int32 → Int32 → mjH → mjU := Nat.rec (motive := fun _ => Nat → Int32 → Int32 → Int32 → Int32 → mjH → mjU) (fun _ _ _ _ _ _ => none) (fun _ self => b_240_148 R self) n
theorem T_240_148 {X : mjX} {d C S kc ks : Nat} {R : mjR} (hR : mjC R d) (h1 : kc ≤ C) (h2 : ks ≤ S) (n : Nat) : P_240_148 X (d + 1) C S kc ks (L_240_148 R n) := by
  induction n with
  | zero => intro _ _ _ _ _ _ _ h; exact mj_no h
  | succ n ih => exact t_240_148 hR h1 h2 ih
noncomputable def b_240_0 (R : mjR) (l0 : Nat) (l1 : Int32) (hp : mjH) : mjU := gR hp l0 12 56 (fun v1 => aI hp v1 l1 (fun v2 => gR hp l0 12 117 (fun v3 => gI hp l0 12 118 (fun v4 => aI hp v3 ((v4 - (1 : Int32)) - v2) (fun v5 => (if v5 = 0 then gR hp l0 12 55 (fun v34 => aI hp v34 l1 (fun v35 => rV hp l0 12 (bN (R 234 [.ref l0, .int (1 : Int32), .int v35] hp) (fun  hp36 => some (none, hp36))))) else gI hp l0 12 116 (fun v6 => gI hp l0 12 104 (fun v7 => (if v6 = v7 then gR hp l0 12 55 (fun v31 => aI hp v31 l1 (fun v32 => rV hp l0 12 (bN (R 234 [.ref l0, .int (5 : Int32), .int v32] hp) (fun  hp33 => some (none, hp33))))) else gR hp l0 12 109 (fun v8 => aI hp v8 v5 (fun v9 => gR hp l0 12 58 (fun v10 => aL hp v10 l1 (fun v11 => rV hp l0 12 (bI (R 241 [.ref l0, .int v9, .long v11] hp) (fun v12 hp13 => gI hp13 l0 12 116 (fun v14 => gI hp13 l0 12 116 (fun v15 => pI hp13 l0 12 116 (v15 + (1 : Int32)) (fun hp16 => gI hp16 l0 12 105 (fun v17 => gI hp16 l0 12 116 (fun v18 => bI (R 354 [.int v17, .int v18] hp16) (fun v19 hp20 => pI hp20 l0 12 105 v19 (fun hp21 => gR hp21 l0 12 111 (fun v22 => sI hp21 v22 v14 v12 (fun hp23 => gR hp23 l0 12 112 (fun v24 => sI hp23 v24 v14 v5 (fun hp25 => gR hp25 l0 12 113 (fun v26 => sI hp25 v26 v14 (-1 : Int32) (fun hp27 => gR hp27 l0 12 114 (fun v28 => gI hp27 l0 12 119 (fun v29 => sI hp27 v28 v14 v29 (fun hp30 => L_240_148 R mjN l0 v2 v12 v14 (0 : Int32) hp30)))))))))))))))))))))))))))))))
theorem t_240_0 {X : mjX} {d C S kc ks : Nat} {R : mjR} (hR : mjC R d) (h1 : kc ≤ C) (h2 : ks ≤ S) : P_240_0 X (d + 1) C S kc ks (b_240_0 R) := by
  intro l0 l1 hp q h
  unfold b_240_0 at h
  refine mjr_aload_n (x := l0) D_240_0 rfl ?_
  refine mjq_gR D_240_1 fr_12_154 h (fun v1 h => ?_)
  refine mjr_iload_n (x := l1) D_240_4 rfl ?_
  refine mjq_aI D_240_5 h (fun v2 h => ?_)
  refine mjq_istore_n (lo' := [some (.ref l0), some (.int l1), some (.int v2), none, none, none, none]) D_240_6 (Nat.le_of_ble_eq_true rfl) rfl ?_
  refine mjr_aload_n (x := l0) D_240_7 rfl ?_
  refine mjq_gR D_240_8 fr_12_254 h (fun v3 h => ?_)
  refine mjr_aload_n (x := l0) D_240_11 rfl ?_
  refine mjq_gI D_240_12 fr_12_633 h (fun v4 h => ?_)
  refine mjq_ic (v := (1 : Int32)) D_240_15 rfl ?_
  refine mjr_isub D_240_16 ?_
  refine mjr_iload_n (x := v2) D_240_17 rfl ?_
  refine mjr_isub D_240_18 ?_
  refine mjq_aI D_240_19 h (fun v5 h => ?_)
  refine mjq_istore_n (lo' := [some (.ref l0), some (.int l1), some (.int v2), some (.int v5), none, none, none]) D_240_20 (Nat.le_of_ble_eq_true rfl) rfl ?_
  refine mjr_iload_n (x := v5) D_240_21 rfl ?_
  refine mjq_if_ne (tgt := 37) D_240_22 rfl h (fun h => ?_) (fun h => ?_)
  · refine mjr_aload_n (x := l0) D_240_37 rfl ?_
    refine mjq_gI D_240_38 fr_12_627 h (fun v6 h => ?_)
    refine mjr_aload_n (x := l0) D_240_41 rfl ?_
    refine mjq_gI D_240_42 fr_12_702 h (fun v7 h => ?_)
    refine mjq_icmp_ne (tgt := 60) D_240_45 rfl h (fun h => ?_) (fun h => ?_)
    · refine mjr_aload_n (x := l0) D_240_60 rfl ?_
      refine mjr_aload_n (x := l0) D_240_61 rfl ?_
      refine mjq_gR D_240_62 fr_12_233 h (fun v8 h => ?_)
      refine mjr_iload_n (x := v5) D_240_65 rfl ?_
      refine mjq_aI D_240_66 h (fun v9 h => ?_)
      refine mjr_aload_n (x := l0) D_240_67 rfl ?_
      refine mjq_gR D_240_68 fr_12_160 h (fun v10 h => ?_)
      refine mjr_iload_n (x := l1) D_240_71 rfl ?_
      refine mjq_aL D_240_72 h (fun v11 h => ?_)
      refine mjq_vI (As := [.int v9, .long v11]) (rest := []) D_240_73 mr_12_705 V_241 rfl rfl rfl hR (Nat.le_refl _) h1 h2 h (fun v12 hp13 h => ?_)
      refine mjq_istore (lo' := [some (.ref l0), some (.int l1), some (.int v2), some (.int v5), some (.int v12), none, none]) D_240_76 (Nat.le_of_ble_eq_true rfl) rfl ?_
      refine mjr_aload_n (x := l0) D_240_78 rfl ?_
      refine mjq_gI D_240_79 fr_12_627 h (fun v14 h => ?_)
      refine mjq_istore (lo' := [some (.ref l0), some (.int l1), some (.int v2), some (.int v5), some (.int v12), some (.int v14), none]) D_240_82 (Nat.le_of_ble_eq_true rfl) rfl ?_
      refine mjr_aload_n (x := l0) D_240_84 rfl ?_
      refine mjr_dup D_240_85 rfl ?_
      refine mjq_gI D_240_86 fr_12_627 h (fun v15 h => ?_)
      refine mjq_ic (v := (1 : Int32)) D_240_89 rfl ?_
      refine mjr_iadd D_240_90 ?_
      refine mjq_pI D_240_91 fr_12_627 rfl rfl h (fun hp16 h => ?_)
      refine mjr_aload_n (x := l0) D_240_94 rfl ?_
      refine mjr_aload_n (x := l0) D_240_95 rfl ?_
      refine mjq_gI D_240_96 fr_12_708 h (fun v17 h => ?_)
      refine mjr_aload_n (x := l0) D_240_99 rfl ?_
      refine mjq_gI D_240_100 fr_12_627 h (fun v18 h => ?_)
      refine mjq_scI (As := [.int v17, .int v18]) (rest := [.ref l0]) D_240_103 mr_12_466 V_354 rfl rfl rfl hR (Nat.le_refl _) h1 h2 h (fun v19 hp20 h => ?_)
      refine mjq_pI D_240_106 fr_12_708 rfl rfl h (fun hp21 h => ?_)
      refine mjr_aload_n (x := l0) D_240_109 rfl ?_
      refine mjq_gR D_240_110 fr_12_239 h (fun v22 h => ?_)
      refine mjr_iload (x := v14) D_240_113 rfl ?_
      refine mjr_iload (x := v12) D_240_115 rfl ?_
      refine mjq_sI D_240_117 h (fun hp23 h => ?_)
      refine mjr_aload_n (x := l0) D_240_118 rfl ?_
      refine mjq_gR D_240_119 fr_12_242 h (fun v24 h => ?_)
      refine mjr_iload (x := v14) D_240_122 rfl ?_
      refine mjr_iload_n (x := v5) D_240_124 rfl ?_
      refine mjq_sI D_240_125 h (fun hp25 h => ?_)
      refine mjr_aload_n (x := l0) D_240_126 rfl ?_
      refine mjq_gR D_240_127 fr_12_245 h (fun v26 h => ?_)
      refine mjr_iload (x := v14) D_240_130 rfl ?_
      refine mjq_ic (v := (-1 : Int32)) D_240_132 rfl ?_
      refine mjq_sI D_240_133 h (fun hp27 h => ?_)
      refine mjr_aload_n (x := l0) D_240_134 rfl ?_
      refine mjq_gR D_240_135 fr_12_248 h (fun v28 h => ?_)
      refine mjr_iload (x := v14) D_240_138 rfl ?_
      refine mjr_aload_n (x := l0) D_240_140 rfl ?_
      refine mjq_gI D_240_141 fr_12_651 h (fun v29 h => ?_)
      refine mjq_sI D_240_144 h (fun hp30 h => ?_)
      refine mjq_ic (v := (0 : Int32)) D_240_145 rfl ?_
      refine mjq_istore (lo' := [some (.ref l0), some (.int l1), some (.int v2), some (.int v5), some (.int v12), some (.int v14), some (.int (0 : Int32))]) D_240_146 (Nat.le_of_ble_eq_true rfl) rfl ?_
      exact mjG.fg (lo' := [some (.ref l0), none, some (.int v2), none, some (.int v12), some (.int v14), some (.int (0 : Int32))]) (And.intro rfl (And.intro rfl (And.intro rfl (And.intro rfl (And.intro rfl True.intro))))) ((T_240_148 hR h1 h2 mjN) _ _ _ _ _ _ _ h)
    · refine mjr_aload_n (x := l0) D_240_48 rfl ?_
      refine mjq_ic (v := (5 : Int32)) D_240_49 rfl ?_
      refine mjr_aload_n (x := l0) D_240_50 rfl ?_
      refine mjq_gR D_240_51 fr_12_151 h (fun v31 h => ?_)
      refine mjr_iload_n (x := l1) D_240_54 rfl ?_
      refine mjq_aI D_240_55 h (fun v32 h => ?_)
      refine mjq_vN (As := [.int (5 : Int32), .int v32]) (rest := []) D_240_56 mr_12_675 V_234 rfl rfl rfl hR (Nat.le_refl _) h1 h2 h (fun  hp33 h => ?_)
      exact mjq_nret D_240_59 rfl h1 h2 h
  · refine mjr_aload_n (x := l0) D_240_25 rfl ?_
    refine mjq_ic (v := (1 : Int32)) D_240_26 rfl ?_
    refine mjr_aload_n (x := l0) D_240_27 rfl ?_
    refine mjq_gR D_240_28 fr_12_151 h (fun v34 h => ?_)
    refine mjr_iload_n (x := l1) D_240_31 rfl ?_
    refine mjq_aI D_240_32 h (fun v35 h => ?_)
    refine mjq_vN (As := [.int (1 : Int32), .int v35]) (rest := []) D_240_33 mr_12_675 V_234 rfl rfl rfl hR (Nat.le_refl _) h1 h2 h (fun  hp36 h => ?_)
    exact mjq_nret D_240_36 rfl h1 h2 h
noncomputable def f_240 (R : mjR) (a0 : Nat) (a1 : Int32) (hp : mjH) : mjU := b_240_0 R a0 a1 hp
theorem c_240 {R : mjR} {d : Nat} (hR : mjC R d) {a0 : Nat} {a1 : Int32} {hp : mjH} {q : Option Value × mjH} (h : f_240 R a0 a1 hp = some q) : mjM (d + 1) 0 0 240 [.ref a0, .int a1] hp (mjEq q) :=
  mjM_of Ja_240 (Nat.le_of_ble_eq_true rfl) (mjG.fg (lo' := [some (.ref a0), some (.int a1), none, none, none, none, none]) (And.intro rfl (And.intro rfl True.intro)) ((t_240_0 hR (Nat.le_refl 0) (Nat.le_refl 0)) a0 a1 hp q h))
def J_241 : mjI := (⟨"OwnerHeapModel", "methodOf", "(IJ)I"⟩, 12, prog_14_method_92_code, 8, (some .int), 2, false)
theorem Ja_241 : mjMt 241 = some J_241 := by rfl
theorem D_241_0 : decode J_241.2.2.1 0 = .ok (.iconst (-1), 1) := dzq_2 (by decide +kernel)
theorem D_241_1 : decode J_241.2.2.1 1 = .ok (.istore 4, 2) := dzq_54 (by decide +kernel)
theorem D_241_3 : decode J_241.2.2.1 3 = .ok (.iload_n 1, 1) := dzq_27 (by decide +kernel)
theorem D_241_4 : decode J_241.2.2.1 4 = .ok (.istore 5, 2) := dzq_54 (by decide +kernel)
theorem D_241_6 : decode J_241.2.2.1 6 = .ok (.iload 5, 2) := dzq_21 (by decide +kernel)
theorem D_241_8 : decode J_241.2.2.1 8 = .ok (.iconst (-1), 1) := dzq_2 (by decide +kernel)
theorem D_241_9 : decode J_241.2.2.1 9 = .ok (.if_icmp .eq 96, 3) := dzq_159 (by decide +kernel)
theorem D_241_12 : decode J_241.2.2.1 12 = .ok (.iload 4, 2) := dzq_21 (by decide +kernel)
theorem D_241_14 : decode J_241.2.2.1 14 = .ok (.iconst (-1), 1) := dzq_2 (by decide +kernel)
theorem D_241_15 : decode J_241.2.2.1 15 = .ok (.if_icmp .ne 90, 3) := dzq_160 (by decide +kernel)
theorem D_241_18 : decode J_241.2.2.1 18 = .ok (.aload_n 0, 1) := dzq_42 (by decide +kernel)
theorem D_241_19 : decode J_241.2.2.1 19 = .ok (.getfield 39, 3) := dzq_180 (by decide +kernel)
theorem D_241_22 : decode J_241.2.2.1 22 = .ok (.iload 5, 2) := dzq_21 (by decide +kernel)
theorem D_241_24 : decode J_241.2.2.1 24 = .ok (.iaload, 1) := dzq_46 (by decide +kernel)
theorem D_241_25 : decode J_241.2.2.1 25 = .ok (.sipush 400, 3) := dzq_17 (by decide +kernel)
theorem D_241_28 : decode J_241.2.2.1 28 = .ok (.aload_n 0, 1) := dzq_42 (by decide +kernel)
theorem D_241_29 : decode J_241.2.2.1 29 = .ok (.getfield 648, 3) := dzq_180 (by decide +kernel)
theorem D_241_32 : decode J_241.2.2.1 32 = .ok (.imul, 1) := dzq_104 (by decide +kernel)
theorem D_241_33 : decode J_241.2.2.1 33 = .ok (.iadd, 1) := dzq_96 (by decide +kernel)
theorem D_241_34 : decode J_241.2.2.1 34 = .ok (.istore 6, 2) := dzq_54 (by decide +kernel)
theorem D_241_36 : decode J_241.2.2.1 36 = .ok (.iload 6, 2) := dzq_21 (by decide +kernel)
theorem D_241_38 : decode J_241.2.2.1 38 = .ok (.istore 7, 2) := dzq_54 (by decide +kernel)
theorem D_241_40 : decode J_241.2.2.1 40 = .ok (.iload 7, 2) := dzq_21 (by decide +kernel)
theorem D_241_42 : decode J_241.2.2.1 42 = .ok (.iload 6, 2) := dzq_21 (by decide +kernel)
theorem D_241_44 : decode J_241.2.2.1 44 = .ok (.aload_n 0, 1) := dzq_42 (by decide +kernel)
theorem D_241_45 : decode J_241.2.2.1 45 = .ok (.getfield 42, 3) := dzq_180 (by decide +kernel)
theorem D_241_48 : decode J_241.2.2.1 48 = .ok (.iload 5, 2) := dzq_21 (by decide +kernel)
theorem D_241_50 : decode J_241.2.2.1 50 = .ok (.iaload, 1) := dzq_46 (by decide +kernel)
theorem D_241_51 : decode J_241.2.2.1 51 = .ok (.iadd, 1) := dzq_96 (by decide +kernel)
theorem D_241_52 : decode J_241.2.2.1 52 = .ok (.if_icmp .ge 42, 3) := dzq_162 (by decide +kernel)
theorem D_241_55 : decode J_241.2.2.1 55 = .ok (.iload 4, 2) := dzq_21 (by decide +kernel)
theorem D_241_57 : decode J_241.2.2.1 57 = .ok (.iconst (-1), 1) := dzq_2 (by decide +kernel)
theorem D_241_58 : decode J_241.2.2.1 58 = .ok (.if_icmp .ne 36, 3) := dzq_160 (by decide +kernel)
theorem D_241_61 : decode J_241.2.2.1 61 = .ok (.aload_n 0, 1) := dzq_42 (by decide +kernel)
theorem D_241_62 : decode J_241.2.2.1 62 = .ok (.getfield 115, 3) := dzq_180 (by decide +kernel)
theorem D_241_65 : decode J_241.2.2.1 65 = .ok (.iload 7, 2) := dzq_21 (by decide +kernel)
theorem D_241_67 : decode J_241.2.2.1 67 = .ok (.laload, 1) := dzq_47 (by decide +kernel)
theorem D_241_68 : decode J_241.2.2.1 68 = .ok (.lload_n 2, 1) := dzq_32 (by decide +kernel)
theorem D_241_69 : decode J_241.2.2.1 69 = .ok (.lcmp, 1) := by decide +kernel
theorem D_241_70 : decode J_241.2.2.1 70 = .ok (.ifCond .ne 18, 3) := dzq_154 (by decide +kernel)
theorem D_241_73 : decode J_241.2.2.1 73 = .ok (.aload_n 0, 1) := dzq_42 (by decide +kernel)
theorem D_241_74 : decode J_241.2.2.1 74 = .ok (.getfield 94, 3) := dzq_180 (by decide +kernel)
theorem D_241_77 : decode J_241.2.2.1 77 = .ok (.iload 7, 2) := dzq_21 (by decide +kernel)
theorem D_241_79 : decode J_241.2.2.1 79 = .ok (.iaload, 1) := dzq_46 (by decide +kernel)
theorem D_241_80 : decode J_241.2.2.1 80 = .ok (.iconst 1, 1) := dzq_4 (by decide +kernel)
theorem D_241_81 : decode J_241.2.2.1 81 = .ok (.if_icmp .ne 7, 3) := dzq_160 (by decide +kernel)
theorem D_241_84 : decode J_241.2.2.1 84 = .ok (.iload 7, 2) := dzq_21 (by decide +kernel)
theorem D_241_86 : decode J_241.2.2.1 86 = .ok (.istore 4, 2) := dzq_54 (by decide +kernel)
theorem D_241_88 : decode J_241.2.2.1 88 = .ok (.iinc 7 1, 3) := dzq_132 (by decide +kernel)
theorem D_241_91 : decode J_241.2.2.1 91 = .ok (.goto (-51), 3) := dzq_167 (by decide +kernel)
theorem D_241_94 : decode J_241.2.2.1 94 = .ok (.aload_n 0, 1) := dzq_42 (by decide +kernel)
theorem D_241_95 : decode J_241.2.2.1 95 = .ok (.iload 5, 2) := dzq_21 (by decide +kernel)
theorem D_241_97 : decode J_241.2.2.1 97 = .ok (.invokevirtual 538, 3) := dzq_182 (by decide +kernel)
theorem D_241_100 : decode J_241.2.2.1 100 = .ok (.istore 5, 2) := dzq_54 (by decide +kernel)
theorem D_241_102 : decode J_241.2.2.1 102 = .ok (.goto (-96), 3) := dzq_167 (by decide +kernel)
theorem D_241_105 : decode J_241.2.2.1 105 = .ok (.iload 4, 2) := dzq_21 (by decide +kernel)
theorem D_241_107 : decode J_241.2.2.1 107 = .ok (.ireturn, 1) := dzq_172 (by decide +kernel)
def P_241_105 (X : mjX) (d C S kc ks : Nat) (k : Int32 → mjH → mjU) : Prop := ∀ (l4 : Int32) (hp : mjH) (q : Option Value × mjH), k l4 hp = some q → mjG X d C S J_241 (mjEq q) 105 [none, none, none, none, some (.int l4), none, none, none] [] hp kc ks
def P_241_94 (X : mjX) (d C S kc ks : Nat) (k : Nat → Int64 → Int32 → Int32 → mjH → mjU) : Prop := ∀ (l0 : Nat) (l2 : Int64) (l4 : Int32) (l5 : Int32) (hp : mjH) (q : Option Value × mjH), k l0 l2 l4 l5 hp = some q → mjG X d C S J_241 (mjEq q) 94 [some (.ref l0), none, some (.long l2), none, some (.int l4), some (.int l5), none, none] [] hp kc ks
def P_241_88 (X : mjX) (d C S kc ks : Nat) (k : Nat → Int64 → Int32 → Int32 → Int32 → Int32 → mjH → mjU) : Prop := ∀ (l0 : Nat) (l2 : Int64) (l4 : Int32) (l5 : Int32) (l6 : Int32) (l7 : Int32) (hp : mjH) (q : Option Value × mjH), k l0 l2 l4 l5 l6 l7 hp = some q → mjG X d C S J_241 (mjEq q) 88 [some (.ref l0), none, some (.long l2), none, some (.int l4), some (.int l5), some (.int l6), some (.int l7)] [] hp kc ks
def P_241_40 (X : mjX) (d C S kc ks : Nat) (k : Nat → Int64 → Int32 → Int32 → Int32 → Int32 → mjH → mjU) : Prop := ∀ (l0 : Nat) (l2 : Int64) (l4 : Int32) (l5 : Int32) (l6 : Int32) (l7 : Int32) (hp : mjH) (q : Option Value × mjH), k l0 l2 l4 l5 l6 l7 hp = some q → mjG X d C S J_241 (mjEq q) 40 [some (.ref l0), none, some (.long l2), none, some (.int l4), some (.int l5), some (.int l6), some (.int l7)] [] hp kc ks
def P_241_6 (X : mjX) (d C S kc ks : Nat) (k : Nat → Int64 → Int32 → Int32 → mjH → mjU) : Prop := ∀ (l0 : Nat) (l2 : Int64) (l4 : Int32) (l5 : Int32) (hp : mjH) (q : Option Value × mjH), k l0 l2 l4 l5 hp = some q → mjG X d C S J_241 (mjEq q) 6 [some (.ref l0), none, some (.long l2), none, some (.int l4), some (.int l5), none, none] [] hp kc ks
def P_241_0 (X : mjX) (d C S kc ks : Nat) (k : Nat → Int32 → Int64 → mjH → mjU) : Prop := ∀ (l0 : Nat) (l1 : Int32) (l2 : Int64) (hp : mjH) (q : Option Value × mjH), k l0 l1 l2 hp = some q → mjG X d C S J_241 (mjEq q) 0 [some (.ref l0), some (.int l1), some (.long l2), none, none, none, none, none] [] hp kc ks
noncomputable def b_241_105 (R : mjR) (l4 : Int32) (hp : mjH) : mjU := some (some (.int l4), hp)
theorem t_241_105 {X : mjX} {d C S kc ks : Nat} {R : mjR} (hR : mjC R d) (h1 : kc ≤ C) (h2 : ks ≤ S) : P_241_105 X (d + 1) C S kc ks (b_241_105 R) := by
  intro l4 hp q h
  unfold b_241_105 at h
  refine mjr_iload (x := l4) D_241_105 rfl ?_
  exact mjq_ret D_241_107 rfl h1 h2 h
noncomputable def b_241_94 (R : mjR) (k6 : Nat → Int64 → Int32 → Int32 → mjH → mjU) (l0 : Nat) (l2 : Int64) (l4 : Int32) (l5 : Int32) (hp : mjH) : mjU := rV hp l0 12 (bI (R 242 [.ref l0, .int l5] hp) (fun v1 hp2 => k6 l0 l2 l4 v1 hp2))
theorem t_241_94 {X : mjX} {d C S kc ks : Nat} {R : mjR} (hR : mjC R d) (h1 : kc ≤ C) (h2 : ks ≤ S) {k6 : Nat → Int64 → Int32 → Int32 → mjH → mjU} (hk6 : P_241_6 X (d + 1) C S kc ks k6) : P_241_94 X (d + 1) C S kc ks (b_241_94 R k6) := by
  intro l0 l2 l4 l5 hp q h
  unfold b_241_94 at h
  refine mjr_aload_n (x := l0) D_241_94 rfl ?_
  refine mjr_iload (x := l5) D_241_95 rfl ?_
  refine mjq_vI (As := [.int l5]) (rest := []) D_241_97 mr_12_538 V_242 rfl rfl rfl hR (Nat.le_refl _) h1 h2 h (fun v1 hp2 h => ?_)
  refine mjq_istore (lo' := [some (.ref l0), none, some (.long l2), none, some (.int l4), some (.int v1), none, none]) D_241_100 (Nat.le_of_ble_eq_true rfl) rfl ?_
  refine mjr_goto (tgt := 6) D_241_102 rfl ?_
  exact hk6 _ _ _ _ _ _ h
noncomputable def b_241_88 (R : mjR) (k6 : Nat → Int64 → Int32 → Int32 → mjH → mjU) (k40 : Nat → Int64 → Int32 → Int32 → Int32 → Int32 → mjH → mjU) (l0 : Nat) (l2 : Int64) (l4 : Int32) (l5 : Int32) (l6 : Int32) (l7 : Int32) (hp : mjH) : mjU := k40 l0 l2 l4 l5 l6 (l7 + (1 : Int32)) hp
theorem t_241_88 {X : mjX} {d C S kc ks : Nat} {R : mjR} (hR : mjC R d) (h1 : kc ≤ C) (h2 : ks ≤ S) {k6 : Nat → Int64 → Int32 → Int32 → mjH → mjU} (hk6 : P_241_6 X (d + 1) C S kc ks k6) {k40 : Nat → Int64 → Int32 → Int32 → Int32 → Int32 → mjH → mjU} (hk40 : P_241_40 X (d + 1) C S kc ks k40) : P_241_88 X (d + 1) C S kc ks (b_241_88 R k6 k40) := by
  intro l0 l2 l4 l5 l6 l7 hp q h
  unfold b_241_88 at h
  refine mjq_iinc (x := l7) (c := (1 : Int32)) (lo' := [some (.ref l0), none, some (.long l2), none, some (.int l4), some (.int l5), some (.int l6), some (.int (l7 + (1 : Int32)))]) D_241_88 rfl (Nat.le_of_ble_eq_true rfl) rfl rfl ?_
  refine mjr_goto (tgt := 40) D_241_91 rfl ?_
  exact hk40 _ _ _ _ _ _ _ _ h
noncomputable def b_241_40 (R : mjR) (k6 : Nat → Int64 → Int32 → Int32 → mjH → mjU) (k40 : Nat → Int64 → Int32 → Int32 → Int32 → Int32 → mjH → mjU) (l0 : Nat) (l2 : Int64) (l4 : Int32) (l5 : Int32) (l6 : Int32) (l7 : Int32) (hp : mjH) : mjU := gR hp l0 12 19 (fun v1 => aI hp v1 l5 (fun v2 => (if (l6 + v2) ≤ l7 then b_241_94 R k6 l0 l2 l4 l5 hp else (if l4 = (-1 : Int32) then gR hp l0 12 43 (fun v3 => aL hp v3 l7 (fun v4 => (if (lg_cmp v4 l2) = 0 then gR hp l0 12 36 (fun v5 => aI hp v5 l7 (fun v6 => (if v6 = (1 : Int32) then b_241_88 R k6 k40 l0 l2 l7 l5 l6 l7 hp else b_241_88 R k6 k40 l0 l2 l4 l5 l6 l7 hp))) else b_241_88 R k6 k40 l0 l2 l4 l5 l6 l7 hp))) else b_241_94 R k6 l0 l2 l4 l5 hp))))
theorem t_241_40 {X : mjX} {d C S kc ks : Nat} {R : mjR} (hR : mjC R d) (h1 : kc ≤ C) (h2 : ks ≤ S) {k6 : Nat → Int64 → Int32 → Int32 → mjH → mjU} (hk6 : P_241_6 X (d + 1) C S kc ks k6) {k40 : Nat → Int64 → Int32 → Int32 → Int32 → Int32 → mjH → mjU} (hk40 : P_241_40 X (d + 1) C S kc ks k40) : P_241_40 X (d + 1) C S kc ks (b_241_40 R k6 k40) := by
  intro l0 l2 l4 l5 l6 l7 hp q h
  unfold b_241_40 at h
  refine mjr_iload (x := l7) D_241_40 rfl ?_
  refine mjr_iload (x := l6) D_241_42 rfl ?_
  refine mjr_aload_n (x := l0) D_241_44 rfl ?_
  refine mjq_gR D_241_45 fr_12_42 h (fun v1 h => ?_)
  refine mjr_iload (x := l5) D_241_48 rfl ?_
  refine mjq_aI D_241_50 h (fun v2 h => ?_)
  refine mjr_iadd D_241_51 ?_
  refine mjq_icmp_ge (tgt := 94) D_241_52 rfl h (fun h => ?_) (fun h => ?_)
  · exact mjG.fg (lo' := [some (.ref l0), none, some (.long l2), none, some (.int l4), some (.int l5), none, none]) (And.intro rfl (And.intro rfl (And.intro rfl (And.intro rfl True.intro)))) ((t_241_94 hR h1 h2 hk6) _ _ _ _ _ _ h)
  · refine mjr_iload (x := l4) D_241_55 rfl ?_
    refine mjq_ic (v := (-1 : Int32)) D_241_57 rfl ?_
    refine mjq_icmp_ne (tgt := 94) D_241_58 rfl h (fun h => ?_) (fun h => ?_)
    · exact mjG.fg (lo' := [some (.ref l0), none, some (.long l2), none, some (.int l4), some (.int l5), none, none]) (And.intro rfl (And.intro rfl (And.intro rfl (And.intro rfl True.intro)))) ((t_241_94 hR h1 h2 hk6) _ _ _ _ _ _ h)
    · refine mjr_aload_n (x := l0) D_241_61 rfl ?_
      refine mjq_gR D_241_62 fr_12_115 h (fun v3 h => ?_)
      refine mjr_iload (x := l7) D_241_65 rfl ?_
      refine mjq_aL D_241_67 h (fun v4 h => ?_)
      refine mjr_lload_n (x := l2) D_241_68 rfl ?_
      refine mjr_lcmp D_241_69 ?_
      refine mjq_if_ne (tgt := 88) D_241_70 rfl h (fun h => ?_) (fun h => ?_)
      · exact (t_241_88 hR h1 h2 hk6 hk40) _ _ _ _ _ _ _ _ h
      · refine mjr_aload_n (x := l0) D_241_73 rfl ?_
        refine mjq_gR D_241_74 fr_12_94 h (fun v5 h => ?_)
        refine mjr_iload (x := l7) D_241_77 rfl ?_
        refine mjq_aI D_241_79 h (fun v6 h => ?_)
        refine mjq_ic (v := (1 : Int32)) D_241_80 rfl ?_
        refine mjq_icmp_ne (tgt := 88) D_241_81 rfl h (fun h => ?_) (fun h => ?_)
        · exact (t_241_88 hR h1 h2 hk6 hk40) _ _ _ _ _ _ _ _ h
        · refine mjr_iload (x := l7) D_241_84 rfl ?_
          refine mjq_istore (lo' := [some (.ref l0), none, some (.long l2), none, some (.int l7), some (.int l5), some (.int l6), some (.int l7)]) D_241_86 (Nat.le_of_ble_eq_true rfl) rfl ?_
          exact (t_241_88 hR h1 h2 hk6 hk40) _ _ _ _ _ _ _ _ h
noncomputable def L_241_40 (R : mjR) (k6 : Nat → Int64 → Int32 → Int32 → mjH → mjU) (n : Nat) : Nat → Int64 → Int32 → Int32 → Int32 → Int32 → mjH → mjU := Nat.rec (motive := fun _ => Nat → Int64 → Int32 → Int32 → Int32 → Int32 → mjH → mjU) (fun _ _ _ _ _ _ _ => none) (fun _ self => b_241_40 R k6 self) n
theorem T_241_40 {X : mjX} {d C S kc ks : Nat} {R : mjR} (hR : mjC R d) (h1 : kc ≤ C) (h2 : ks ≤ S) {k6 : Nat → Int64 → Int32 → Int32 → mjH → mjU} (hk6 : P_241_6 X (d + 1) C S kc ks k6) (n : Nat) : P_241_40 X (d + 1) C S kc ks (L_241_40 R k6 n) := by
  induction n with
  | zero => intro _ _ _ _ _ _ _ _ h; exact mj_no h
  | succ n ih => exact t_241_40 hR h1 h2 hk6 ih
noncomputable def b_241_6 (R : mjR) (k6 : Nat → Int64 → Int32 → Int32 → mjH → mjU) (l0 : Nat) (l2 : Int64) (l4 : Int32) (l5 : Int32) (hp : mjH) : mjU := (if l5 = (-1 : Int32) then b_241_105 R l4 hp else (if l4 = (-1 : Int32) then gR hp l0 12 18 (fun v1 => aI hp v1 l5 (fun v2 => gI hp l0 12 9 (fun v3 => L_241_40 R k6 mjN l0 l2 l4 l5 (v2 + ((400 : Int32) * v3)) (v2 + ((400 : Int32) * v3)) hp))) else b_241_105 R l4 hp))
theorem t_241_6 {X : mjX} {d C S kc ks : Nat} {R : mjR} (hR : mjC R d) (h1 : kc ≤ C) (h2 : ks ≤ S) {k6 : Nat → Int64 → Int32 → Int32 → mjH → mjU} (hk6 : P_241_6 X (d + 1) C S kc ks k6) : P_241_6 X (d + 1) C S kc ks (b_241_6 R k6) := by
  intro l0 l2 l4 l5 hp q h
  unfold b_241_6 at h
  refine mjr_iload (x := l5) D_241_6 rfl ?_
  refine mjq_ic (v := (-1 : Int32)) D_241_8 rfl ?_
  refine mjq_icmp_eq (tgt := 105) D_241_9 rfl h (fun h => ?_) (fun h => ?_)
  · exact mjG.fg (lo' := [none, none, none, none, some (.int l4), none, none, none]) (And.intro rfl True.intro) ((t_241_105 hR h1 h2) _ _ _ h)
  · refine mjr_iload (x := l4) D_241_12 rfl ?_
    refine mjq_ic (v := (-1 : Int32)) D_241_14 rfl ?_
    refine mjq_icmp_ne (tgt := 105) D_241_15 rfl h (fun h => ?_) (fun h => ?_)
    · exact mjG.fg (lo' := [none, none, none, none, some (.int l4), none, none, none]) (And.intro rfl True.intro) ((t_241_105 hR h1 h2) _ _ _ h)
    · refine mjr_aload_n (x := l0) D_241_18 rfl ?_
      refine mjq_gR D_241_19 fr_12_39 h (fun v1 h => ?_)
      refine mjr_iload (x := l5) D_241_22 rfl ?_
      refine mjq_aI D_241_24 h (fun v2 h => ?_)
      refine mjq_si (v := (400 : Int32)) D_241_25 rfl ?_
      refine mjr_aload_n (x := l0) D_241_28 rfl ?_
      refine mjq_gI D_241_29 fr_12_648 h (fun v3 h => ?_)
      refine mjr_imul D_241_32 ?_
      refine mjr_iadd D_241_33 ?_
      refine mjq_istore (lo' := [some (.ref l0), none, some (.long l2), none, some (.int l4), some (.int l5), some (.int (v2 + ((400 : Int32) * v3))), none]) D_241_34 (Nat.le_of_ble_eq_true rfl) rfl ?_
      refine mjr_iload (x := (v2 + ((400 : Int32) * v3))) D_241_36 rfl ?_
      refine mjq_istore (lo' := [some (.ref l0), none, some (.long l2), none, some (.int l4), some (.int l5), some (.int (v2 + ((400 : Int32) * v3))), some (.int (v2 + ((400 : Int32) * v3)))]) D_241_38 (Nat.le_of_ble_eq_true rfl) rfl ?_
      exact (T_241_40 hR h1 h2 hk6 mjN) _ _ _ _ _ _ _ _ h
noncomputable def L_241_6 (R : mjR) (n : Nat) : Nat → Int64 → Int32 → Int32 → mjH → mjU := Nat.rec (motive := fun _ => Nat → Int64 → Int32 → Int32 → mjH → mjU) (fun _ _ _ _ _ => none) (fun _ self => b_241_6 R self) n
theorem T_241_6 {X : mjX} {d C S kc ks : Nat} {R : mjR} (hR : mjC R d) (h1 : kc ≤ C) (h2 : ks ≤ S) (n : Nat) : P_241_6 X (d + 1) C S kc ks (L_241_6 R n) := by
  induction n with
  | zero => intro _ _ _ _ _ _ h; exact mj_no h
  | succ n ih => exact t_241_6 hR h1 h2 ih
noncomputable def b_241_0 (R : mjR) (l0 : Nat) (l1 : Int32) (l2 : Int64) (hp : mjH) : mjU := L_241_6 R mjN l0 l2 (-1 : Int32) l1 hp
theorem t_241_0 {X : mjX} {d C S kc ks : Nat} {R : mjR} (hR : mjC R d) (h1 : kc ≤ C) (h2 : ks ≤ S) : P_241_0 X (d + 1) C S kc ks (b_241_0 R) := by
  intro l0 l1 l2 hp q h
  unfold b_241_0 at h
  refine mjq_ic (v := (-1 : Int32)) D_241_0 rfl ?_
  refine mjq_istore (lo' := [some (.ref l0), some (.int l1), some (.long l2), none, some (.int (-1 : Int32)), none, none, none]) D_241_1 (Nat.le_of_ble_eq_true rfl) rfl ?_
  refine mjr_iload_n (x := l1) D_241_3 rfl ?_
  refine mjq_istore (lo' := [some (.ref l0), some (.int l1), some (.long l2), none, some (.int (-1 : Int32)), some (.int l1), none, none]) D_241_4 (Nat.le_of_ble_eq_true rfl) rfl ?_
  exact mjG.fg (lo' := [some (.ref l0), none, some (.long l2), none, some (.int (-1 : Int32)), some (.int l1), none, none]) (And.intro rfl (And.intro rfl (And.intro rfl (And.intro rfl True.intro)))) ((T_241_6 hR h1 h2 mjN) _ _ _ _ _ _ h)
noncomputable def f_241 (R : mjR) (a0 : Nat) (a1 : Int32) (a2 : Int64) (hp : mjH) : mjU := b_241_0 R a0 a1 a2 hp
theorem c_241 {R : mjR} {d : Nat} (hR : mjC R d) {a0 : Nat} {a1 : Int32} {a2 : Int64} {hp : mjH} {q : Option Value × mjH} (h : f_241 R a0 a1 a2 hp = some q) : mjM (d + 1) 0 0 241 [.ref a0, .int a1, .long a2] hp (mjEq q) :=
  mjM_of Ja_241 (Nat.le_of_ble_eq_true rfl) (mjG.fg (lo' := [some (.ref a0), some (.int a1), some (.long a2), none, none, none, none, none]) (And.intro rfl (And.intro rfl (And.intro rfl True.intro))) ((t_241_0 hR (Nat.le_refl 0) (Nat.le_refl 0)) a0 a1 a2 hp q h))
def J_242 : mjI := (⟨"OwnerHeapModel", "higher", "(I)I"⟩, 12, prog_14_method_54_code, 2, (some .int), 1, false)
theorem Ja_242 : mjMt 242 = some J_242 := by rfl
theorem D_242_0 : decode J_242.2.2.1 0 = .ok (.aload_n 0, 1) := dzq_42 (by decide +kernel)
theorem D_242_1 : decode J_242.2.2.1 1 = .ok (.getfield 33, 3) := dzq_180 (by decide +kernel)
theorem D_242_4 : decode J_242.2.2.1 4 = .ok (.iload_n 1, 1) := dzq_27 (by decide +kernel)
theorem D_242_5 : decode J_242.2.2.1 5 = .ok (.iaload, 1) := dzq_46 (by decide +kernel)
theorem D_242_6 : decode J_242.2.2.1 6 = .ok (.ifCond .ge 7, 3) := dzq_156 (by decide +kernel)
theorem D_242_9 : decode J_242.2.2.1 9 = .ok (.iconst (-1), 1) := dzq_2 (by decide +kernel)
theorem D_242_10 : decode J_242.2.2.1 10 = .ok (.goto 14, 3) := dzq_167 (by decide +kernel)
theorem D_242_13 : decode J_242.2.2.1 13 = .ok (.aload_n 0, 1) := dzq_42 (by decide +kernel)
theorem D_242_14 : decode J_242.2.2.1 14 = .ok (.getfield 136, 3) := dzq_180 (by decide +kernel)
theorem D_242_17 : decode J_242.2.2.1 17 = .ok (.aload_n 0, 1) := dzq_42 (by decide +kernel)
theorem D_242_18 : decode J_242.2.2.1 18 = .ok (.getfield 33, 3) := dzq_180 (by decide +kernel)
theorem D_242_21 : decode J_242.2.2.1 21 = .ok (.iload_n 1, 1) := dzq_27 (by decide +kernel)
theorem D_242_22 : decode J_242.2.2.1 22 = .ok (.iaload, 1) := dzq_46 (by decide +kernel)
theorem D_242_23 : decode J_242.2.2.1 23 = .ok (.iaload, 1) := dzq_46 (by decide +kernel)
theorem D_242_24 : decode J_242.2.2.1 24 = .ok (.ireturn, 1) := dzq_172 (by decide +kernel)
def P_242_0 (X : mjX) (d C S kc ks : Nat) (k : Nat → Int32 → mjH → mjU) : Prop := ∀ (l0 : Nat) (l1 : Int32) (hp : mjH) (q : Option Value × mjH), k l0 l1 hp = some q → mjG X d C S J_242 (mjEq q) 0 [some (.ref l0), some (.int l1)] [] hp kc ks
noncomputable def b_242_0 (R : mjR) (l0 : Nat) (l1 : Int32) (hp : mjH) : mjU := gR hp l0 12 16 (fun v1 => aI hp v1 l1 (fun v2 => (if 0 ≤ v2 then gR hp l0 12 50 (fun v3 => gR hp l0 12 16 (fun v4 => aI hp v4 l1 (fun v5 => aI hp v3 v5 (fun v6 => some (some (.int v6), hp))))) else some (some (.int (-1 : Int32)), hp))))
theorem t_242_0 {X : mjX} {d C S kc ks : Nat} {R : mjR} (hR : mjC R d) (h1 : kc ≤ C) (h2 : ks ≤ S) : P_242_0 X (d + 1) C S kc ks (b_242_0 R) := by
  intro l0 l1 hp q h
  unfold b_242_0 at h
  refine mjr_aload_n (x := l0) D_242_0 rfl ?_
  refine mjq_gR D_242_1 fr_12_33 h (fun v1 h => ?_)
  refine mjr_iload_n (x := l1) D_242_4 rfl ?_
  refine mjq_aI D_242_5 h (fun v2 h => ?_)
  refine mjq_if_ge (tgt := 13) D_242_6 rfl h (fun h => ?_) (fun h => ?_)
  · refine mjr_aload_n (x := l0) D_242_13 rfl ?_
    refine mjq_gR D_242_14 fr_12_136 h (fun v3 h => ?_)
    refine mjr_aload_n (x := l0) D_242_17 rfl ?_
    refine mjq_gR D_242_18 fr_12_33 h (fun v4 h => ?_)
    refine mjr_iload_n (x := l1) D_242_21 rfl ?_
    refine mjq_aI D_242_22 h (fun v5 h => ?_)
    refine mjq_aI D_242_23 h (fun v6 h => ?_)
    exact mjq_ret D_242_24 rfl h1 h2 h
  · refine mjq_ic (v := (-1 : Int32)) D_242_9 rfl ?_
    refine mjr_goto (tgt := 24) D_242_10 rfl ?_
    exact mjq_ret D_242_24 rfl h1 h2 h
noncomputable def f_242 (R : mjR) (a0 : Nat) (a1 : Int32) (hp : mjH) : mjU := b_242_0 R a0 a1 hp
theorem c_242 {R : mjR} {d : Nat} (hR : mjC R d) {a0 : Nat} {a1 : Int32} {hp : mjH} {q : Option Value × mjH} (h : f_242 R a0 a1 hp = some q) : mjM (d + 1) 0 0 242 [.ref a0, .int a1] hp (mjEq q) :=
  mjM_of Ja_242 (Nat.le_of_ble_eq_true rfl) (mjG.fg (lo' := [some (.ref a0), some (.int a1)]) (And.intro rfl (And.intro rfl True.intro)) ((t_242_0 hR (Nat.le_refl 0) (Nat.le_refl 0)) a0 a1 hp q h))
def J_243 : mjI := (⟨"OwnerHeapModel", "isOf", "(II)Z"⟩, 12, prog_14_method_95_code, 5, (some .boolean), 2, false)
theorem Ja_243 : mjMt 243 = some J_243 := by rfl
theorem D_243_0 : decode J_243.2.2.1 0 = .ok (.iload_n 1, 1) := dzq_27 (by decide +kernel)
theorem D_243_1 : decode J_243.2.2.1 1 = .ok (.ifCond .ne 5, 3) := dzq_154 (by decide +kernel)
theorem D_243_4 : decode J_243.2.2.1 4 = .ok (.iconst 1, 1) := dzq_4 (by decide +kernel)
theorem D_243_5 : decode J_243.2.2.1 5 = .ok (.ireturn, 1) := dzq_172 (by decide +kernel)
theorem D_243_6 : decode J_243.2.2.1 6 = .ok (.aload_n 0, 1) := dzq_42 (by decide +kernel)
theorem D_243_7 : decode J_243.2.2.1 7 = .ok (.iload_n 2, 1) := dzq_28 (by decide +kernel)
theorem D_243_8 : decode J_243.2.2.1 8 = .ok (.invokevirtual 696, 3) := dzq_182 (by decide +kernel)
theorem D_243_11 : decode J_243.2.2.1 11 = .ok (.aload_n 0, 1) := dzq_42 (by decide +kernel)
theorem D_243_12 : decode J_243.2.2.1 12 = .ok (.aload_n 0, 1) := dzq_42 (by decide +kernel)
theorem D_243_13 : decode J_243.2.2.1 13 = .ok (.getfield 233, 3) := dzq_180 (by decide +kernel)
theorem D_243_16 : decode J_243.2.2.1 16 = .ok (.iload_n 1, 1) := dzq_27 (by decide +kernel)
theorem D_243_17 : decode J_243.2.2.1 17 = .ok (.iaload, 1) := dzq_46 (by decide +kernel)
theorem D_243_18 : decode J_243.2.2.1 18 = .ok (.putfield 544, 3) := dzq_181 (by decide +kernel)
theorem D_243_21 : decode J_243.2.2.1 21 = .ok (.iconst 0, 1) := dzq_3 (by decide +kernel)
theorem D_243_22 : decode J_243.2.2.1 22 = .ok (.istore_n 3, 1) := dzq_62 (by decide +kernel)
theorem D_243_23 : decode J_243.2.2.1 23 = .ok (.iload_n 3, 1) := dzq_29 (by decide +kernel)
theorem D_243_24 : decode J_243.2.2.1 24 = .ok (.iconst 5, 1) := dzq_8 (by decide +kernel)
theorem D_243_25 : decode J_243.2.2.1 25 = .ok (.if_icmp .ge 45, 3) := dzq_162 (by decide +kernel)
theorem D_243_28 : decode J_243.2.2.1 28 = .ok (.aload_n 0, 1) := dzq_42 (by decide +kernel)
theorem D_243_29 : decode J_243.2.2.1 29 = .ok (.getfield 221, 3) := dzq_180 (by decide +kernel)
theorem D_243_32 : decode J_243.2.2.1 32 = .ok (.iload_n 3, 1) := dzq_29 (by decide +kernel)
theorem D_243_33 : decode J_243.2.2.1 33 = .ok (.iload_n 3, 1) := dzq_29 (by decide +kernel)
theorem D_243_34 : decode J_243.2.2.1 34 = .ok (.aload_n 0, 1) := dzq_42 (by decide +kernel)
theorem D_243_35 : decode J_243.2.2.1 35 = .ok (.getfield 30, 3) := dzq_180 (by decide +kernel)
theorem D_243_38 : decode J_243.2.2.1 38 = .ok (.aload_n 0, 1) := dzq_42 (by decide +kernel)
theorem D_243_39 : decode J_243.2.2.1 39 = .ok (.getfield 544, 3) := dzq_180 (by decide +kernel)
theorem D_243_42 : decode J_243.2.2.1 42 = .ok (.iaload, 1) := dzq_46 (by decide +kernel)
theorem D_243_43 : decode J_243.2.2.1 43 = .ok (.if_icmp .ge 19, 3) := dzq_162 (by decide +kernel)
theorem D_243_46 : decode J_243.2.2.1 46 = .ok (.aload_n 0, 1) := dzq_42 (by decide +kernel)
theorem D_243_47 : decode J_243.2.2.1 47 = .ok (.getfield 230, 3) := dzq_180 (by decide +kernel)
theorem D_243_50 : decode J_243.2.2.1 50 = .ok (.aload_n 0, 1) := dzq_42 (by decide +kernel)
theorem D_243_51 : decode J_243.2.2.1 51 = .ok (.getfield 236, 3) := dzq_180 (by decide +kernel)
theorem D_243_54 : decode J_243.2.2.1 54 = .ok (.iload_n 1, 1) := dzq_27 (by decide +kernel)
theorem D_243_55 : decode J_243.2.2.1 55 = .ok (.iaload, 1) := dzq_46 (by decide +kernel)
theorem D_243_56 : decode J_243.2.2.1 56 = .ok (.iload_n 3, 1) := dzq_29 (by decide +kernel)
theorem D_243_57 : decode J_243.2.2.1 57 = .ok (.iadd, 1) := dzq_96 (by decide +kernel)
theorem D_243_58 : decode J_243.2.2.1 58 = .ok (.iaload, 1) := dzq_46 (by decide +kernel)
theorem D_243_59 : decode J_243.2.2.1 59 = .ok (.goto 4, 3) := dzq_167 (by decide +kernel)
theorem D_243_62 : decode J_243.2.2.1 62 = .ok (.iconst 0, 1) := dzq_3 (by decide +kernel)
theorem D_243_63 : decode J_243.2.2.1 63 = .ok (.iastore, 1) := dzq_79 (by decide +kernel)
theorem D_243_64 : decode J_243.2.2.1 64 = .ok (.iinc 3 1, 3) := dzq_132 (by decide +kernel)
theorem D_243_67 : decode J_243.2.2.1 67 = .ok (.goto (-44), 3) := dzq_167 (by decide +kernel)
theorem D_243_70 : decode J_243.2.2.1 70 = .ok (.aload_n 0, 1) := dzq_42 (by decide +kernel)
theorem D_243_71 : decode J_243.2.2.1 71 = .ok (.getfield 544, 3) := dzq_180 (by decide +kernel)
theorem D_243_74 : decode J_243.2.2.1 74 = .ok (.aload_n 0, 1) := dzq_42 (by decide +kernel)
theorem D_243_75 : decode J_243.2.2.1 75 = .ok (.getfield 136, 3) := dzq_180 (by decide +kernel)
theorem D_243_78 : decode J_243.2.2.1 78 = .ok (.iload_n 2, 1) := dzq_28 (by decide +kernel)
theorem D_243_79 : decode J_243.2.2.1 79 = .ok (.iaload, 1) := dzq_46 (by decide +kernel)
theorem D_243_80 : decode J_243.2.2.1 80 = .ok (.if_icmp .eq 22, 3) := dzq_159 (by decide +kernel)
theorem D_243_83 : decode J_243.2.2.1 83 = .ok (.aload_n 0, 1) := dzq_42 (by decide +kernel)
theorem D_243_84 : decode J_243.2.2.1 84 = .ok (.aload_n 0, 1) := dzq_42 (by decide +kernel)
theorem D_243_85 : decode J_243.2.2.1 85 = .ok (.getfield 544, 3) := dzq_180 (by decide +kernel)
theorem D_243_88 : decode J_243.2.2.1 88 = .ok (.invokevirtual 538, 3) := dzq_182 (by decide +kernel)
theorem D_243_91 : decode J_243.2.2.1 91 = .ok (.iconst (-1), 1) := dzq_2 (by decide +kernel)
theorem D_243_92 : decode J_243.2.2.1 92 = .ok (.if_icmp .eq 10, 3) := dzq_159 (by decide +kernel)
theorem D_243_95 : decode J_243.2.2.1 95 = .ok (.aload_n 0, 1) := dzq_42 (by decide +kernel)
theorem D_243_96 : decode J_243.2.2.1 96 = .ok (.invokevirtual 624, 3) := dzq_182 (by decide +kernel)
theorem D_243_99 : decode J_243.2.2.1 99 = .ok (.goto (-29), 3) := dzq_167 (by decide +kernel)
theorem D_243_102 : decode J_243.2.2.1 102 = .ok (.aload_n 0, 1) := dzq_42 (by decide +kernel)
theorem D_243_103 : decode J_243.2.2.1 103 = .ok (.getfield 544, 3) := dzq_180 (by decide +kernel)
theorem D_243_106 : decode J_243.2.2.1 106 = .ok (.aload_n 0, 1) := dzq_42 (by decide +kernel)
theorem D_243_107 : decode J_243.2.2.1 107 = .ok (.getfield 136, 3) := dzq_180 (by decide +kernel)
theorem D_243_110 : decode J_243.2.2.1 110 = .ok (.iload_n 2, 1) := dzq_28 (by decide +kernel)
theorem D_243_111 : decode J_243.2.2.1 111 = .ok (.iaload, 1) := dzq_46 (by decide +kernel)
theorem D_243_112 : decode J_243.2.2.1 112 = .ok (.if_icmp .ne 7, 3) := dzq_160 (by decide +kernel)
theorem D_243_115 : decode J_243.2.2.1 115 = .ok (.iconst 1, 1) := dzq_4 (by decide +kernel)
theorem D_243_116 : decode J_243.2.2.1 116 = .ok (.goto 4, 3) := dzq_167 (by decide +kernel)
theorem D_243_119 : decode J_243.2.2.1 119 = .ok (.iconst 0, 1) := dzq_3 (by decide +kernel)
theorem D_243_120 : decode J_243.2.2.1 120 = .ok (.istore_n 3, 1) := dzq_62 (by decide +kernel)
theorem D_243_121 : decode J_243.2.2.1 121 = .ok (.iconst 0, 1) := dzq_3 (by decide +kernel)
theorem D_243_122 : decode J_243.2.2.1 122 = .ok (.istore 4, 2) := dzq_54 (by decide +kernel)
theorem D_243_124 : decode J_243.2.2.1 124 = .ok (.iload 4, 2) := dzq_21 (by decide +kernel)
theorem D_243_126 : decode J_243.2.2.1 126 = .ok (.aload_n 0, 1) := dzq_42 (by decide +kernel)
theorem D_243_127 : decode J_243.2.2.1 127 = .ok (.getfield 133, 3) := dzq_180 (by decide +kernel)
theorem D_243_130 : decode J_243.2.2.1 130 = .ok (.iload_n 2, 1) := dzq_28 (by decide +kernel)
theorem D_243_131 : decode J_243.2.2.1 131 = .ok (.iaload, 1) := dzq_46 (by decide +kernel)
theorem D_243_132 : decode J_243.2.2.1 132 = .ok (.if_icmp .ge 36, 3) := dzq_162 (by decide +kernel)
theorem D_243_135 : decode J_243.2.2.1 135 = .ok (.iload_n 3, 1) := dzq_29 (by decide +kernel)
theorem D_243_136 : decode J_243.2.2.1 136 = .ok (.ifCond .eq 32, 3) := dzq_153 (by decide +kernel)
theorem D_243_139 : decode J_243.2.2.1 139 = .ok (.aload_n 0, 1) := dzq_42 (by decide +kernel)
theorem D_243_140 : decode J_243.2.2.1 140 = .ok (.getfield 221, 3) := dzq_180 (by decide +kernel)
theorem D_243_143 : decode J_243.2.2.1 143 = .ok (.iload 4, 2) := dzq_21 (by decide +kernel)
theorem D_243_145 : decode J_243.2.2.1 145 = .ok (.iaload, 1) := dzq_46 (by decide +kernel)
theorem D_243_146 : decode J_243.2.2.1 146 = .ok (.aload_n 0, 1) := dzq_42 (by decide +kernel)
theorem D_243_147 : decode J_243.2.2.1 147 = .ok (.getfield 281, 3) := dzq_180 (by decide +kernel)
theorem D_243_150 : decode J_243.2.2.1 150 = .ok (.iload 4, 2) := dzq_21 (by decide +kernel)
theorem D_243_152 : decode J_243.2.2.1 152 = .ok (.iaload, 1) := dzq_46 (by decide +kernel)
theorem D_243_153 : decode J_243.2.2.1 153 = .ok (.if_icmp .ne 7, 3) := dzq_160 (by decide +kernel)
theorem D_243_156 : decode J_243.2.2.1 156 = .ok (.iconst 1, 1) := dzq_4 (by decide +kernel)
theorem D_243_157 : decode J_243.2.2.1 157 = .ok (.goto 4, 3) := dzq_167 (by decide +kernel)
theorem D_243_160 : decode J_243.2.2.1 160 = .ok (.iconst 0, 1) := dzq_3 (by decide +kernel)
theorem D_243_161 : decode J_243.2.2.1 161 = .ok (.istore_n 3, 1) := dzq_62 (by decide +kernel)
theorem D_243_162 : decode J_243.2.2.1 162 = .ok (.iinc 4 1, 3) := dzq_132 (by decide +kernel)
theorem D_243_165 : decode J_243.2.2.1 165 = .ok (.goto (-41), 3) := dzq_167 (by decide +kernel)
theorem D_243_168 : decode J_243.2.2.1 168 = .ok (.iload_n 3, 1) := dzq_29 (by decide +kernel)
theorem D_243_169 : decode J_243.2.2.1 169 = .ok (.ireturn, 1) := dzq_172 (by decide +kernel)
def P_243_168 (X : mjX) (d C S kc ks : Nat) (k : Int32 → mjH → mjU) : Prop := ∀ (l3 : Int32) (hp : mjH) (q : Option Value × mjH), k l3 hp = some q → mjG X d C S J_243 (mjEq q) 168 [none, none, none, some (.int l3), none] [] hp kc ks
def P_243_161 (X : mjX) (d C S kc ks : Nat) (k : Nat → Int32 → Int32 → Int32 → mjH → mjU) : Prop := ∀ (l0 : Nat) (l2 : Int32) (l4 : Int32) (s0 : Int32) (hp : mjH) (q : Option Value × mjH), k l0 l2 l4 s0 hp = some q → mjG X d C S J_243 (mjEq q) 161 [some (.ref l0), none, some (.int l2), none, some (.int l4)] [.int s0] hp kc ks
def P_243_124 (X : mjX) (d C S kc ks : Nat) (k : Nat → Int32 → Int32 → Int32 → mjH → mjU) : Prop := ∀ (l0 : Nat) (l2 : Int32) (l3 : Int32) (l4 : Int32) (hp : mjH) (q : Option Value × mjH), k l0 l2 l3 l4 hp = some q → mjG X d C S J_243 (mjEq q) 124 [some (.ref l0), none, some (.int l2), some (.int l3), some (.int l4)] [] hp kc ks
def P_243_120 (X : mjX) (d C S kc ks : Nat) (k : Nat → Int32 → Int32 → mjH → mjU) : Prop := ∀ (l0 : Nat) (l2 : Int32) (s0 : Int32) (hp : mjH) (q : Option Value × mjH), k l0 l2 s0 hp = some q → mjG X d C S J_243 (mjEq q) 120 [some (.ref l0), none, some (.int l2), none, none] [.int s0] hp kc ks
def P_243_102 (X : mjX) (d C S kc ks : Nat) (k : Nat → Int32 → mjH → mjU) : Prop := ∀ (l0 : Nat) (l2 : Int32) (hp : mjH) (q : Option Value × mjH), k l0 l2 hp = some q → mjG X d C S J_243 (mjEq q) 102 [some (.ref l0), none, some (.int l2), none, none] [] hp kc ks
def P_243_70 (X : mjX) (d C S kc ks : Nat) (k : Nat → Int32 → mjH → mjU) : Prop := ∀ (l0 : Nat) (l2 : Int32) (hp : mjH) (q : Option Value × mjH), k l0 l2 hp = some q → mjG X d C S J_243 (mjEq q) 70 [some (.ref l0), none, some (.int l2), none, none] [] hp kc ks
def P_243_63 (X : mjX) (d C S kc ks : Nat) (k : Nat → Int32 → Int32 → Int32 → Nat → Int32 → Int32 → mjH → mjU) : Prop := ∀ (l0 : Nat) (l1 : Int32) (l2 : Int32) (l3 : Int32) (s0 : Nat) (s1 : Int32) (s2 : Int32) (hp : mjH) (q : Option Value × mjH), k l0 l1 l2 l3 s0 s1 s2 hp = some q → mjG X d C S J_243 (mjEq q) 63 [some (.ref l0), some (.int l1), some (.int l2), some (.int l3), none] [.int s2, .int s1, .ref s0] hp kc ks
def P_243_23 (X : mjX) (d C S kc ks : Nat) (k : Nat → Int32 → Int32 → Int32 → mjH → mjU) : Prop := ∀ (l0 : Nat) (l1 : Int32) (l2 : Int32) (l3 : Int32) (hp : mjH) (q : Option Value × mjH), k l0 l1 l2 l3 hp = some q → mjG X d C S J_243 (mjEq q) 23 [some (.ref l0), some (.int l1), some (.int l2), some (.int l3), none] [] hp kc ks
def P_243_0 (X : mjX) (d C S kc ks : Nat) (k : Nat → Int32 → Int32 → mjH → mjU) : Prop := ∀ (l0 : Nat) (l1 : Int32) (l2 : Int32) (hp : mjH) (q : Option Value × mjH), k l0 l1 l2 hp = some q → mjG X d C S J_243 (mjEq q) 0 [some (.ref l0), some (.int l1), some (.int l2), none, none] [] hp kc ks
noncomputable def b_243_168 (R : mjR) (l3 : Int32) (hp : mjH) : mjU := (if narrow .boolean (.int l3) = .int l3 then some (some (.int l3), hp) else none)
theorem t_243_168 {X : mjX} {d C S kc ks : Nat} {R : mjR} (hR : mjC R d) (h1 : kc ≤ C) (h2 : ks ≤ S) : P_243_168 X (d + 1) C S kc ks (b_243_168 R) := by
  intro l3 hp q h
  unfold b_243_168 at h
  refine mjr_iload_n (x := l3) D_243_168 rfl ?_
  exact mjq_retZ (ty := .boolean) D_243_169 rfl h1 h2 h
noncomputable def b_243_161 (R : mjR) (k124 : Nat → Int32 → Int32 → Int32 → mjH → mjU) (l0 : Nat) (l2 : Int32) (l4 : Int32) (s0 : Int32) (hp : mjH) : mjU := k124 l0 l2 s0 (l4 + (1 : Int32)) hp
theorem t_243_161 {X : mjX} {d C S kc ks : Nat} {R : mjR} (hR : mjC R d) (h1 : kc ≤ C) (h2 : ks ≤ S) {k124 : Nat → Int32 → Int32 → Int32 → mjH → mjU} (hk124 : P_243_124 X (d + 1) C S kc ks k124) : P_243_161 X (d + 1) C S kc ks (b_243_161 R k124) := by
  intro l0 l2 l4 s0 hp q h
  unfold b_243_161 at h
  refine mjq_istore_n (lo' := [some (.ref l0), none, some (.int l2), some (.int s0), some (.int l4)]) D_243_161 (Nat.le_of_ble_eq_true rfl) rfl ?_
  refine mjq_iinc (x := l4) (c := (1 : Int32)) (lo' := [some (.ref l0), none, some (.int l2), some (.int s0), some (.int (l4 + (1 : Int32)))]) D_243_162 rfl (Nat.le_of_ble_eq_true rfl) rfl rfl ?_
  refine mjr_goto (tgt := 124) D_243_165 rfl ?_
  exact hk124 _ _ _ _ _ _ h
noncomputable def b_243_124 (R : mjR) (k124 : Nat → Int32 → Int32 → Int32 → mjH → mjU) (l0 : Nat) (l2 : Int32) (l3 : Int32) (l4 : Int32) (hp : mjH) : mjU := gR hp l0 12 49 (fun v1 => aI hp v1 l2 (fun v2 => (if v2 ≤ l4 then b_243_168 R l3 hp else (if l3 = 0 then b_243_168 R l3 hp else gR hp l0 12 93 (fun v3 => aI hp v3 l4 (fun v4 => gR hp l0 12 134 (fun v5 => aI hp v5 l4 (fun v6 => (if v4 = v6 then b_243_161 R k124 l0 l2 l4 (1 : Int32) hp else b_243_161 R k124 l0 l2 l4 (0 : Int32) hp)))))))))
theorem t_243_124 {X : mjX} {d C S kc ks : Nat} {R : mjR} (hR : mjC R d) (h1 : kc ≤ C) (h2 : ks ≤ S) {k124 : Nat → Int32 → Int32 → Int32 → mjH → mjU} (hk124 : P_243_124 X (d + 1) C S kc ks k124) : P_243_124 X (d + 1) C S kc ks (b_243_124 R k124) := by
  intro l0 l2 l3 l4 hp q h
  unfold b_243_124 at h
  refine mjr_iload (x := l4) D_243_124 rfl ?_
  refine mjr_aload_n (x := l0) D_243_126 rfl ?_
  refine mjq_gR D_243_127 fr_12_133 h (fun v1 h => ?_)
  refine mjr_iload_n (x := l2) D_243_130 rfl ?_
  refine mjq_aI D_243_131 h (fun v2 h => ?_)
  refine mjq_icmp_ge (tgt := 168) D_243_132 rfl h (fun h => ?_) (fun h => ?_)
  · exact mjG.fg (lo' := [none, none, none, some (.int l3), none]) (And.intro rfl True.intro) ((t_243_168 hR h1 h2) _ _ _ h)
  · refine mjr_iload_n (x := l3) D_243_135 rfl ?_
    refine mjq_if_eq (tgt := 168) D_243_136 rfl h (fun h => ?_) (fun h => ?_)
    · exact mjG.fg (lo' := [none, none, none, some (.int l3), none]) (And.intro rfl True.intro) ((t_243_168 hR h1 h2) _ _ _ h)
    · refine mjr_aload_n (x := l0) D_243_139 rfl ?_
      refine mjq_gR D_243_140 fr_12_221 h (fun v3 h => ?_)
      refine mjr_iload (x := l4) D_243_143 rfl ?_
      refine mjq_aI D_243_145 h (fun v4 h => ?_)
      refine mjr_aload_n (x := l0) D_243_146 rfl ?_
      refine mjq_gR D_243_147 fr_12_281 h (fun v5 h => ?_)
      refine mjr_iload (x := l4) D_243_150 rfl ?_
      refine mjq_aI D_243_152 h (fun v6 h => ?_)
      refine mjq_icmp_ne (tgt := 160) D_243_153 rfl h (fun h => ?_) (fun h => ?_)
      · refine mjq_ic (v := (0 : Int32)) D_243_160 rfl ?_
        exact mjG.fg (lo' := [some (.ref l0), none, some (.int l2), none, some (.int l4)]) (And.intro rfl (And.intro rfl (And.intro rfl True.intro))) ((t_243_161 hR h1 h2 hk124) _ _ _ _ _ _ h)
      · refine mjq_ic (v := (1 : Int32)) D_243_156 rfl ?_
        refine mjr_goto (tgt := 161) D_243_157 rfl ?_
        exact mjG.fg (lo' := [some (.ref l0), none, some (.int l2), none, some (.int l4)]) (And.intro rfl (And.intro rfl (And.intro rfl True.intro))) ((t_243_161 hR h1 h2 hk124) _ _ _ _ _ _ h)
noncomputable def L_243_124 (R : mjR) (n : Nat) : Nat → Int32 → Int32 → Int32 → mjH → mjU := Nat.rec (motive := fun _ => Nat → Int32 → Int32 → Int32 → mjH → mjU) (fun _ _ _ _ _ => none) (fun _ self => b_243_124 R self) n
theorem T_243_124 {X : mjX} {d C S kc ks : Nat} {R : mjR} (hR : mjC R d) (h1 : kc ≤ C) (h2 : ks ≤ S) (n : Nat) : P_243_124 X (d + 1) C S kc ks (L_243_124 R n) := by
  induction n with
  | zero => intro _ _ _ _ _ _ h; exact mj_no h
  | succ n ih => exact t_243_124 hR h1 h2 ih
noncomputable def b_243_120 (R : mjR) (l0 : Nat) (l2 : Int32) (s0 : Int32) (hp : mjH) : mjU := L_243_124 R mjN l0 l2 s0 (0 : Int32) hp
theorem t_243_120 {X : mjX} {d C S kc ks : Nat} {R : mjR} (hR : mjC R d) (h1 : kc ≤ C) (h2 : ks ≤ S) : P_243_120 X (d + 1) C S kc ks (b_243_120 R) := by
  intro l0 l2 s0 hp q h
  unfold b_243_120 at h
  refine mjq_istore_n (lo' := [some (.ref l0), none, some (.int l2), some (.int s0), none]) D_243_120 (Nat.le_of_ble_eq_true rfl) rfl ?_
  refine mjq_ic (v := (0 : Int32)) D_243_121 rfl ?_
  refine mjq_istore (lo' := [some (.ref l0), none, some (.int l2), some (.int s0), some (.int (0 : Int32))]) D_243_122 (Nat.le_of_ble_eq_true rfl) rfl ?_
  exact (T_243_124 hR h1 h2 mjN) _ _ _ _ _ _ h
noncomputable def b_243_102 (R : mjR) (l0 : Nat) (l2 : Int32) (hp : mjH) : mjU := gI hp l0 12 95 (fun v1 => gR hp l0 12 50 (fun v2 => aI hp v2 l2 (fun v3 => (if v1 = v3 then b_243_120 R l0 l2 (1 : Int32) hp else b_243_120 R l0 l2 (0 : Int32) hp))))
theorem t_243_102 {X : mjX} {d C S kc ks : Nat} {R : mjR} (hR : mjC R d) (h1 : kc ≤ C) (h2 : ks ≤ S) : P_243_102 X (d + 1) C S kc ks (b_243_102 R) := by
  intro l0 l2 hp q h
  unfold b_243_102 at h
  refine mjr_aload_n (x := l0) D_243_102 rfl ?_
  refine mjq_gI D_243_103 fr_12_544 h (fun v1 h => ?_)
  refine mjr_aload_n (x := l0) D_243_106 rfl ?_
  refine mjq_gR D_243_107 fr_12_136 h (fun v2 h => ?_)
  refine mjr_iload_n (x := l2) D_243_110 rfl ?_
  refine mjq_aI D_243_111 h (fun v3 h => ?_)
  refine mjq_icmp_ne (tgt := 119) D_243_112 rfl h (fun h => ?_) (fun h => ?_)
  · refine mjq_ic (v := (0 : Int32)) D_243_119 rfl ?_
    exact (t_243_120 hR h1 h2) _ _ _ _ _ h
  · refine mjq_ic (v := (1 : Int32)) D_243_115 rfl ?_
    refine mjr_goto (tgt := 120) D_243_116 rfl ?_
    exact (t_243_120 hR h1 h2) _ _ _ _ _ h
noncomputable def b_243_70 (R : mjR) (k70 : Nat → Int32 → mjH → mjU) (l0 : Nat) (l2 : Int32) (hp : mjH) : mjU := gI hp l0 12 95 (fun v1 => gR hp l0 12 50 (fun v2 => aI hp v2 l2 (fun v3 => (if v1 = v3 then b_243_102 R l0 l2 hp else gI hp l0 12 95 (fun v4 => rV hp l0 12 (bI (R 242 [.ref l0, .int v4] hp) (fun v5 hp6 => (if v5 = (-1 : Int32) then b_243_102 R l0 l2 hp6 else rV hp6 l0 12 (bN (R 237 [.ref l0] hp6) (fun  hp7 => k70 l0 l2 hp7))))))))))
theorem t_243_70 {X : mjX} {d C S kc ks : Nat} {R : mjR} (hR : mjC R d) (h1 : kc ≤ C) (h2 : ks ≤ S) {k70 : Nat → Int32 → mjH → mjU} (hk70 : P_243_70 X (d + 1) C S kc ks k70) : P_243_70 X (d + 1) C S kc ks (b_243_70 R k70) := by
  intro l0 l2 hp q h
  unfold b_243_70 at h
  refine mjr_aload_n (x := l0) D_243_70 rfl ?_
  refine mjq_gI D_243_71 fr_12_544 h (fun v1 h => ?_)
  refine mjr_aload_n (x := l0) D_243_74 rfl ?_
  refine mjq_gR D_243_75 fr_12_136 h (fun v2 h => ?_)
  refine mjr_iload_n (x := l2) D_243_78 rfl ?_
  refine mjq_aI D_243_79 h (fun v3 h => ?_)
  refine mjq_icmp_eq (tgt := 102) D_243_80 rfl h (fun h => ?_) (fun h => ?_)
  · exact (t_243_102 hR h1 h2) _ _ _ _ h
  · refine mjr_aload_n (x := l0) D_243_83 rfl ?_
    refine mjr_aload_n (x := l0) D_243_84 rfl ?_
    refine mjq_gI D_243_85 fr_12_544 h (fun v4 h => ?_)
    refine mjq_vI (As := [.int v4]) (rest := []) D_243_88 mr_12_538 V_242 rfl rfl rfl hR (Nat.le_refl _) h1 h2 h (fun v5 hp6 h => ?_)
    refine mjq_ic (v := (-1 : Int32)) D_243_91 rfl ?_
    refine mjq_icmp_eq (tgt := 102) D_243_92 rfl h (fun h => ?_) (fun h => ?_)
    · exact (t_243_102 hR h1 h2) _ _ _ _ h
    · refine mjr_aload_n (x := l0) D_243_95 rfl ?_
      refine mjq_vN (As := []) (rest := []) D_243_96 mr_12_624 V_237 rfl rfl rfl hR (Nat.le_refl _) h1 h2 h (fun  hp7 h => ?_)
      refine mjr_goto (tgt := 70) D_243_99 rfl ?_
      exact hk70 _ _ _ _ h
noncomputable def L_243_70 (R : mjR) (n : Nat) : Nat → Int32 → mjH → mjU := Nat.rec (motive := fun _ => Nat → Int32 → mjH → mjU) (fun _ _ _ => none) (fun _ self => b_243_70 R self) n
theorem T_243_70 {X : mjX} {d C S kc ks : Nat} {R : mjR} (hR : mjC R d) (h1 : kc ≤ C) (h2 : ks ≤ S) (n : Nat) : P_243_70 X (d + 1) C S kc ks (L_243_70 R n) := by
  induction n with
  | zero => intro _ _ _ _ h; exact mj_no h
  | succ n ih => exact t_243_70 hR h1 h2 ih
noncomputable def b_243_63 (R : mjR) (k23 : Nat → Int32 → Int32 → Int32 → mjH → mjU) (l0 : Nat) (l1 : Int32) (l2 : Int32) (l3 : Int32) (s0 : Nat) (s1 : Int32) (s2 : Int32) (hp : mjH) : mjU := sI hp s0 s1 s2 (fun hp1 => k23 l0 l1 l2 (l3 + (1 : Int32)) hp1)
theorem t_243_63 {X : mjX} {d C S kc ks : Nat} {R : mjR} (hR : mjC R d) (h1 : kc ≤ C) (h2 : ks ≤ S) {k23 : Nat → Int32 → Int32 → Int32 → mjH → mjU} (hk23 : P_243_23 X (d + 1) C S kc ks k23) : P_243_63 X (d + 1) C S kc ks (b_243_63 R k23) := by
  intro l0 l1 l2 l3 s0 s1 s2 hp q h
  unfold b_243_63 at h
  refine mjq_sI D_243_63 h (fun hp1 h => ?_)
  refine mjq_iinc (x := l3) (c := (1 : Int32)) (lo' := [some (.ref l0), some (.int l1), some (.int l2), some (.int (l3 + (1 : Int32))), none]) D_243_64 rfl (Nat.le_of_ble_eq_true rfl) rfl rfl ?_
  refine mjr_goto (tgt := 23) D_243_67 rfl ?_
  exact hk23 _ _ _ _ _ _ h
noncomputable def b_243_23 (R : mjR) (k23 : Nat → Int32 → Int32 → Int32 → mjH → mjU) (l0 : Nat) (l1 : Int32) (l2 : Int32) (l3 : Int32) (hp : mjH) : mjU := (if (5 : Int32) ≤ l3 then L_243_70 R mjN l0 l2 hp else gR hp l0 12 93 (fun v1 => gR hp l0 12 15 (fun v2 => gI hp l0 12 95 (fun v3 => aI hp v2 v3 (fun v4 => (if v4 ≤ l3 then b_243_63 R k23 l0 l1 l2 l3 v1 l3 (0 : Int32) hp else gR hp l0 12 108 (fun v5 => gR hp l0 12 110 (fun v6 => aI hp v6 l1 (fun v7 => aI hp v5 (v7 + l3) (fun v8 => b_243_63 R k23 l0 l1 l2 l3 v1 l3 v8 hp))))))))))
theorem t_243_23 {X : mjX} {d C S kc ks : Nat} {R : mjR} (hR : mjC R d) (h1 : kc ≤ C) (h2 : ks ≤ S) {k23 : Nat → Int32 → Int32 → Int32 → mjH → mjU} (hk23 : P_243_23 X (d + 1) C S kc ks k23) : P_243_23 X (d + 1) C S kc ks (b_243_23 R k23) := by
  intro l0 l1 l2 l3 hp q h
  unfold b_243_23 at h
  refine mjr_iload_n (x := l3) D_243_23 rfl ?_
  refine mjq_ic (v := (5 : Int32)) D_243_24 rfl ?_
  refine mjq_icmp_ge (tgt := 70) D_243_25 rfl h (fun h => ?_) (fun h => ?_)
  · exact mjG.fg (lo' := [some (.ref l0), none, some (.int l2), none, none]) (And.intro rfl (And.intro rfl True.intro)) ((T_243_70 hR h1 h2 mjN) _ _ _ _ h)
  · refine mjr_aload_n (x := l0) D_243_28 rfl ?_
    refine mjq_gR D_243_29 fr_12_221 h (fun v1 h => ?_)
    refine mjr_iload_n (x := l3) D_243_32 rfl ?_
    refine mjr_iload_n (x := l3) D_243_33 rfl ?_
    refine mjr_aload_n (x := l0) D_243_34 rfl ?_
    refine mjq_gR D_243_35 fr_12_30 h (fun v2 h => ?_)
    refine mjr_aload_n (x := l0) D_243_38 rfl ?_
    refine mjq_gI D_243_39 fr_12_544 h (fun v3 h => ?_)
    refine mjq_aI D_243_42 h (fun v4 h => ?_)
    refine mjq_icmp_ge (tgt := 62) D_243_43 rfl h (fun h => ?_) (fun h => ?_)
    · refine mjq_ic (v := (0 : Int32)) D_243_62 rfl ?_
      exact (t_243_63 hR h1 h2 hk23) _ _ _ _ _ _ _ _ _ h
    · refine mjr_aload_n (x := l0) D_243_46 rfl ?_
      refine mjq_gR D_243_47 fr_12_230 h (fun v5 h => ?_)
      refine mjr_aload_n (x := l0) D_243_50 rfl ?_
      refine mjq_gR D_243_51 fr_12_236 h (fun v6 h => ?_)
      refine mjr_iload_n (x := l1) D_243_54 rfl ?_
      refine mjq_aI D_243_55 h (fun v7 h => ?_)
      refine mjr_iload_n (x := l3) D_243_56 rfl ?_
      refine mjr_iadd D_243_57 ?_
      refine mjq_aI D_243_58 h (fun v8 h => ?_)
      refine mjr_goto (tgt := 63) D_243_59 rfl ?_
      exact (t_243_63 hR h1 h2 hk23) _ _ _ _ _ _ _ _ _ h
noncomputable def L_243_23 (R : mjR) (n : Nat) : Nat → Int32 → Int32 → Int32 → mjH → mjU := Nat.rec (motive := fun _ => Nat → Int32 → Int32 → Int32 → mjH → mjU) (fun _ _ _ _ _ => none) (fun _ self => b_243_23 R self) n
theorem T_243_23 {X : mjX} {d C S kc ks : Nat} {R : mjR} (hR : mjC R d) (h1 : kc ≤ C) (h2 : ks ≤ S) (n : Nat) : P_243_23 X (d + 1) C S kc ks (L_243_23 R n) := by
  induction n with
  | zero => intro _ _ _ _ _ _ h; exact mj_no h
  | succ n ih => exact t_243_23 hR h1 h2 ih
noncomputable def b_243_0 (R : mjR) (l0 : Nat) (l1 : Int32) (l2 : Int32) (hp : mjH) : mjU := (if l1 = 0 then some (some (.int (1 : Int32)), hp) else rV hp l0 12 (bN (R 235 [.ref l0, .int l2] hp) (fun  hp1 => gR hp1 l0 12 109 (fun v2 => aI hp1 v2 l1 (fun v3 => pI hp1 l0 12 95 v3 (fun hp4 => L_243_23 R mjN l0 l1 l2 (0 : Int32) hp4))))))
theorem t_243_0 {X : mjX} {d C S kc ks : Nat} {R : mjR} (hR : mjC R d) (h1 : kc ≤ C) (h2 : ks ≤ S) : P_243_0 X (d + 1) C S kc ks (b_243_0 R) := by
  intro l0 l1 l2 hp q h
  unfold b_243_0 at h
  refine mjr_iload_n (x := l1) D_243_0 rfl ?_
  refine mjq_if_ne (tgt := 6) D_243_1 rfl h (fun h => ?_) (fun h => ?_)
  · refine mjr_aload_n (x := l0) D_243_6 rfl ?_
    refine mjr_iload_n (x := l2) D_243_7 rfl ?_
    refine mjq_vN (As := [.int l2]) (rest := []) D_243_8 mr_12_696 V_235 rfl rfl rfl hR (Nat.le_refl _) h1 h2 h (fun  hp1 h => ?_)
    refine mjr_aload_n (x := l0) D_243_11 rfl ?_
    refine mjr_aload_n (x := l0) D_243_12 rfl ?_
    refine mjq_gR D_243_13 fr_12_233 h (fun v2 h => ?_)
    refine mjr_iload_n (x := l1) D_243_16 rfl ?_
    refine mjq_aI D_243_17 h (fun v3 h => ?_)
    refine mjq_pI D_243_18 fr_12_544 rfl rfl h (fun hp4 h => ?_)
    refine mjq_ic (v := (0 : Int32)) D_243_21 rfl ?_
    refine mjq_istore_n (lo' := [some (.ref l0), some (.int l1), some (.int l2), some (.int (0 : Int32)), none]) D_243_22 (Nat.le_of_ble_eq_true rfl) rfl ?_
    exact (T_243_23 hR h1 h2 mjN) _ _ _ _ _ _ h
  · refine mjq_ic (v := (1 : Int32)) D_243_4 rfl ?_
    exact mjr_ireturn D_243_5 rfl rfl h1 h2 (Option.some.inj h)
noncomputable def f_243 (R : mjR) (a0 : Nat) (a1 : Int32) (a2 : Int32) (hp : mjH) : mjU := b_243_0 R a0 a1 a2 hp
theorem c_243 {R : mjR} {d : Nat} (hR : mjC R d) {a0 : Nat} {a1 : Int32} {a2 : Int32} {hp : mjH} {q : Option Value × mjH} (h : f_243 R a0 a1 a2 hp = some q) : mjM (d + 1) 0 0 243 [.ref a0, .int a1, .int a2] hp (mjEq q) :=
  mjM_of Ja_243 (Nat.le_of_ble_eq_true rfl) (mjG.fg (lo' := [some (.ref a0), some (.int a1), some (.int a2), none, none]) (And.intro rfl (And.intro rfl (And.intro rfl True.intro))) ((t_243_0 hR (Nat.le_refl 0) (Nat.le_refl 0)) a0 a1 a2 hp q h))
def J_244 : mjI := (⟨"OwnerHeapModel", "returns", "(I)V"⟩, 12, prog_14_method_94_code, 2, none, 1, false)
theorem Ja_244 : mjMt 244 = some J_244 := by rfl
theorem D_244_0 : decode J_244.2.2.1 0 = .ok (.aload_n 0, 1) := dzq_42 (by decide +kernel)
theorem D_244_1 : decode J_244.2.2.1 1 = .ok (.dup, 1) := dzq_89 (by decide +kernel)
theorem D_244_2 : decode J_244.2.2.1 2 = .ok (.getfield 627, 3) := dzq_180 (by decide +kernel)
theorem D_244_5 : decode J_244.2.2.1 5 = .ok (.iconst 1, 1) := dzq_4 (by decide +kernel)
theorem D_244_6 : decode J_244.2.2.1 6 = .ok (.isub, 1) := dzq_100 (by decide +kernel)
theorem D_244_7 : decode J_244.2.2.1 7 = .ok (.putfield 627, 3) := dzq_181 (by decide +kernel)
theorem D_244_10 : decode J_244.2.2.1 10 = .ok (.aload_n 0, 1) := dzq_42 (by decide +kernel)
theorem D_244_11 : decode J_244.2.2.1 11 = .ok (.getfield 627, 3) := dzq_180 (by decide +kernel)
theorem D_244_14 : decode J_244.2.2.1 14 = .ok (.ifCond .ne 14, 3) := dzq_154 (by decide +kernel)
theorem D_244_17 : decode J_244.2.2.1 17 = .ok (.aload_n 0, 1) := dzq_42 (by decide +kernel)
theorem D_244_18 : decode J_244.2.2.1 18 = .ok (.iconst 2, 1) := dzq_5 (by decide +kernel)
theorem D_244_19 : decode J_244.2.2.1 19 = .ok (.putfield 636, 3) := dzq_181 (by decide +kernel)
theorem D_244_22 : decode J_244.2.2.1 22 = .ok (.aload_n 0, 1) := dzq_42 (by decide +kernel)
theorem D_244_23 : decode J_244.2.2.1 23 = .ok (.iload_n 1, 1) := dzq_27 (by decide +kernel)
theorem D_244_24 : decode J_244.2.2.1 24 = .ok (.putfield 711, 3) := dzq_181 (by decide +kernel)
theorem D_244_27 : decode J_244.2.2.1 27 = .ok (.return_, 1) := dzq_177 (by decide +kernel)
theorem D_244_28 : decode J_244.2.2.1 28 = .ok (.aload_n 0, 1) := dzq_42 (by decide +kernel)
theorem D_244_29 : decode J_244.2.2.1 29 = .ok (.aload_n 0, 1) := dzq_42 (by decide +kernel)
theorem D_244_30 : decode J_244.2.2.1 30 = .ok (.getfield 248, 3) := dzq_180 (by decide +kernel)
theorem D_244_33 : decode J_244.2.2.1 33 = .ok (.aload_n 0, 1) := dzq_42 (by decide +kernel)
theorem D_244_34 : decode J_244.2.2.1 34 = .ok (.getfield 627, 3) := dzq_180 (by decide +kernel)
theorem D_244_37 : decode J_244.2.2.1 37 = .ok (.iaload, 1) := dzq_46 (by decide +kernel)
theorem D_244_38 : decode J_244.2.2.1 38 = .ok (.putfield 651, 3) := dzq_181 (by decide +kernel)
theorem D_244_41 : decode J_244.2.2.1 41 = .ok (.aload_n 0, 1) := dzq_42 (by decide +kernel)
theorem D_244_42 : decode J_244.2.2.1 42 = .ok (.iload_n 1, 1) := dzq_27 (by decide +kernel)
theorem D_244_43 : decode J_244.2.2.1 43 = .ok (.invokevirtual 663, 3) := dzq_182 (by decide +kernel)
theorem D_244_46 : decode J_244.2.2.1 46 = .ok (.return_, 1) := dzq_177 (by decide +kernel)
def P_244_0 (X : mjX) (d C S kc ks : Nat) (k : Nat → Int32 → mjH → mjU) : Prop := ∀ (l0 : Nat) (l1 : Int32) (hp : mjH) (q : Option Value × mjH), k l0 l1 hp = some q → mjG X d C S J_244 (mjEq q) 0 [some (.ref l0), some (.int l1)] [] hp kc ks
noncomputable def b_244_0 (R : mjR) (l0 : Nat) (l1 : Int32) (hp : mjH) : mjU := gI hp l0 12 116 (fun v1 => pI hp l0 12 116 (v1 - (1 : Int32)) (fun hp2 => gI hp2 l0 12 116 (fun v3 => (if v3 = 0 then pI hp2 l0 12 96 (2 : Int32) (fun hp9 => pI hp9 l0 12 97 l1 (fun hp10 => some (none, hp10))) else gR hp2 l0 12 114 (fun v4 => gI hp2 l0 12 116 (fun v5 => aI hp2 v4 v5 (fun v6 => pI hp2 l0 12 119 v6 (fun hp7 => rV hp7 l0 12 (bN (R 232 [.ref l0, .int l1] hp7) (fun  hp8 => some (none, hp8)))))))))))
theorem t_244_0 {X : mjX} {d C S kc ks : Nat} {R : mjR} (hR : mjC R d) (h1 : kc ≤ C) (h2 : ks ≤ S) : P_244_0 X (d + 1) C S kc ks (b_244_0 R) := by
  intro l0 l1 hp q h
  unfold b_244_0 at h
  refine mjr_aload_n (x := l0) D_244_0 rfl ?_
  refine mjr_dup D_244_1 rfl ?_
  refine mjq_gI D_244_2 fr_12_627 h (fun v1 h => ?_)
  refine mjq_ic (v := (1 : Int32)) D_244_5 rfl ?_
  refine mjr_isub D_244_6 ?_
  refine mjq_pI D_244_7 fr_12_627 rfl rfl h (fun hp2 h => ?_)
  refine mjr_aload_n (x := l0) D_244_10 rfl ?_
  refine mjq_gI D_244_11 fr_12_627 h (fun v3 h => ?_)
  refine mjq_if_ne (tgt := 28) D_244_14 rfl h (fun h => ?_) (fun h => ?_)
  · refine mjr_aload_n (x := l0) D_244_28 rfl ?_
    refine mjr_aload_n (x := l0) D_244_29 rfl ?_
    refine mjq_gR D_244_30 fr_12_248 h (fun v4 h => ?_)
    refine mjr_aload_n (x := l0) D_244_33 rfl ?_
    refine mjq_gI D_244_34 fr_12_627 h (fun v5 h => ?_)
    refine mjq_aI D_244_37 h (fun v6 h => ?_)
    refine mjq_pI D_244_38 fr_12_651 rfl rfl h (fun hp7 h => ?_)
    refine mjr_aload_n (x := l0) D_244_41 rfl ?_
    refine mjr_iload_n (x := l1) D_244_42 rfl ?_
    refine mjq_vN (As := [.int l1]) (rest := []) D_244_43 mr_12_663 V_232 rfl rfl rfl hR (Nat.le_refl _) h1 h2 h (fun  hp8 h => ?_)
    exact mjq_nret D_244_46 rfl h1 h2 h
  · refine mjr_aload_n (x := l0) D_244_17 rfl ?_
    refine mjq_ic (v := (2 : Int32)) D_244_18 rfl ?_
    refine mjq_pI D_244_19 fr_12_636 rfl rfl h (fun hp9 h => ?_)
    refine mjr_aload_n (x := l0) D_244_22 rfl ?_
    refine mjr_iload_n (x := l1) D_244_23 rfl ?_
    refine mjq_pI D_244_24 fr_12_711 rfl rfl h (fun hp10 h => ?_)
    exact mjq_nret D_244_27 rfl h1 h2 h
noncomputable def f_244 (R : mjR) (a0 : Nat) (a1 : Int32) (hp : mjH) : mjU := b_244_0 R a0 a1 hp
theorem c_244 {R : mjR} {d : Nat} (hR : mjC R d) {a0 : Nat} {a1 : Int32} {hp : mjH} {q : Option Value × mjH} (h : f_244 R a0 a1 hp = some q) : mjM (d + 1) 0 0 244 [.ref a0, .int a1] hp (mjEq q) :=
  mjM_of Ja_244 (Nat.le_of_ble_eq_true rfl) (mjG.fg (lo' := [some (.ref a0), some (.int a1)]) (And.intro rfl (And.intro rfl True.intro)) ((t_244_0 hR (Nat.le_refl 0) (Nat.le_refl 0)) a0 a1 hp q h))
def J_245 : mjI := (⟨"OwnerHeapModel", "way", "(II)I"⟩, 12, prog_14_method_103_code, 4, (some .int), 2, false)
theorem Ja_245 : mjMt 245 = some J_245 := by rfl
theorem D_245_0 : decode J_245.2.2.1 0 = .ok (.aload_n 0, 1) := dzq_42 (by decide +kernel)
theorem D_245_1 : decode J_245.2.2.1 1 = .ok (.iload_n 1, 1) := dzq_27 (by decide +kernel)
theorem D_245_2 : decode J_245.2.2.1 2 = .ok (.invokevirtual 729, 3) := dzq_182 (by decide +kernel)
theorem D_245_5 : decode J_245.2.2.1 5 = .ok (.ifCond .eq 11, 3) := dzq_153 (by decide +kernel)
theorem D_245_8 : decode J_245.2.2.1 8 = .ok (.aload_n 0, 1) := dzq_42 (by decide +kernel)
theorem D_245_9 : decode J_245.2.2.1 9 = .ok (.iload_n 2, 1) := dzq_28 (by decide +kernel)
theorem D_245_10 : decode J_245.2.2.1 10 = .ok (.invokevirtual 729, 3) := dzq_182 (by decide +kernel)
theorem D_245_13 : decode J_245.2.2.1 13 = .ok (.ifCond .ne 5, 3) := dzq_154 (by decide +kernel)
theorem D_245_16 : decode J_245.2.2.1 16 = .ok (.iconst (-1), 1) := dzq_2 (by decide +kernel)
theorem D_245_17 : decode J_245.2.2.1 17 = .ok (.ireturn, 1) := dzq_172 (by decide +kernel)
theorem D_245_18 : decode J_245.2.2.1 18 = .ok (.aload_n 0, 1) := dzq_42 (by decide +kernel)
theorem D_245_19 : decode J_245.2.2.1 19 = .ok (.invokevirtual 720, 3) := dzq_182 (by decide +kernel)
theorem D_245_22 : decode J_245.2.2.1 22 = .ok (.aload_n 0, 1) := dzq_42 (by decide +kernel)
theorem D_245_23 : decode J_245.2.2.1 23 = .ok (.iload_n 1, 1) := dzq_27 (by decide +kernel)
theorem D_245_24 : decode J_245.2.2.1 24 = .ok (.iconst (-1), 1) := dzq_2 (by decide +kernel)
theorem D_245_25 : decode J_245.2.2.1 25 = .ok (.invokevirtual 717, 3) := dzq_182 (by decide +kernel)
theorem D_245_28 : decode J_245.2.2.1 28 = .ok (.aload_n 0, 1) := dzq_42 (by decide +kernel)
theorem D_245_29 : decode J_245.2.2.1 29 = .ok (.iconst 0, 1) := dzq_3 (by decide +kernel)
theorem D_245_30 : decode J_245.2.2.1 30 = .ok (.invokevirtual 726, 3) := dzq_182 (by decide +kernel)
theorem D_245_33 : decode J_245.2.2.1 33 = .ok (.aload_n 0, 1) := dzq_42 (by decide +kernel)
theorem D_245_34 : decode J_245.2.2.1 34 = .ok (.iload_n 2, 1) := dzq_28 (by decide +kernel)
theorem D_245_35 : decode J_245.2.2.1 35 = .ok (.invokevirtual 732, 3) := dzq_182 (by decide +kernel)
theorem D_245_38 : decode J_245.2.2.1 38 = .ok (.istore_n 3, 1) := dzq_62 (by decide +kernel)
theorem D_245_39 : decode J_245.2.2.1 39 = .ok (.iload_n 3, 1) := dzq_29 (by decide +kernel)
theorem D_245_40 : decode J_245.2.2.1 40 = .ok (.ifCond .ge 7, 3) := dzq_156 (by decide +kernel)
theorem D_245_43 : decode J_245.2.2.1 43 = .ok (.iconst (-1), 1) := dzq_2 (by decide +kernel)
theorem D_245_44 : decode J_245.2.2.1 44 = .ok (.goto 9, 3) := dzq_167 (by decide +kernel)
theorem D_245_47 : decode J_245.2.2.1 47 = .ok (.aload_n 0, 1) := dzq_42 (by decide +kernel)
theorem D_245_48 : decode J_245.2.2.1 48 = .ok (.getfield 266, 3) := dzq_180 (by decide +kernel)
theorem D_245_51 : decode J_245.2.2.1 51 = .ok (.iload_n 3, 1) := dzq_29 (by decide +kernel)
theorem D_245_52 : decode J_245.2.2.1 52 = .ok (.iaload, 1) := dzq_46 (by decide +kernel)
theorem D_245_53 : decode J_245.2.2.1 53 = .ok (.ireturn, 1) := dzq_172 (by decide +kernel)
def P_245_16 (X : mjX) (d C S kc ks : Nat) (k : mjH → mjU) : Prop := ∀  (hp : mjH) (q : Option Value × mjH), k  hp = some q → mjG X d C S J_245 (mjEq q) 16 [none, none, none, none] [] hp kc ks
def P_245_0 (X : mjX) (d C S kc ks : Nat) (k : Nat → Int32 → Int32 → mjH → mjU) : Prop := ∀ (l0 : Nat) (l1 : Int32) (l2 : Int32) (hp : mjH) (q : Option Value × mjH), k l0 l1 l2 hp = some q → mjG X d C S J_245 (mjEq q) 0 [some (.ref l0), some (.int l1), some (.int l2), none] [] hp kc ks
noncomputable def b_245_16 (R : mjR)  (hp : mjH) : mjU := some (some (.int (-1 : Int32)), hp)
theorem t_245_16 {X : mjX} {d C S kc ks : Nat} {R : mjR} (hR : mjC R d) (h1 : kc ≤ C) (h2 : ks ≤ S) : P_245_16 X (d + 1) C S kc ks (b_245_16 R) := by
  intro  hp q h
  unfold b_245_16 at h
  refine mjq_ic (v := (-1 : Int32)) D_245_16 rfl ?_
  exact mjq_ret D_245_17 rfl h1 h2 h
noncomputable def b_245_0 (R : mjR) (l0 : Nat) (l1 : Int32) (l2 : Int32) (hp : mjH) : mjU := rV hp l0 12 (bI (R 246 [.ref l0, .int l1] hp) (fun v1 hp2 => (if v1 = 0 then b_245_16 R hp2 else rV hp2 l0 12 (bI (R 246 [.ref l0, .int l2] hp2) (fun v3 hp4 => (if v3 = 0 then b_245_16 R hp4 else rV hp4 l0 12 (bN (R 247 [.ref l0] hp4) (fun  hp5 => rV hp5 l0 12 (bN (R 248 [.ref l0, .int l1, .int (-1 : Int32)] hp5) (fun  hp6 => rV hp6 l0 12 (bN (R 249 [.ref l0, .int (0 : Int32)] hp6) (fun  hp7 => rV hp7 l0 12 (bI (R 250 [.ref l0, .int l2] hp7) (fun v8 hp9 => (if 0 ≤ v8 then gR hp9 l0 12 123 (fun v10 => aI hp9 v10 v8 (fun v11 => some (some (.int v11), hp9))) else some (some (.int (-1 : Int32)), hp9))))))))))))))))
theorem t_245_0 {X : mjX} {d C S kc ks : Nat} {R : mjR} (hR : mjC R d) (h1 : kc ≤ C) (h2 : ks ≤ S) : P_245_0 X (d + 1) C S kc ks (b_245_0 R) := by
  intro l0 l1 l2 hp q h
  unfold b_245_0 at h
  refine mjr_aload_n (x := l0) D_245_0 rfl ?_
  refine mjr_iload_n (x := l1) D_245_1 rfl ?_
  refine mjq_vI (As := [.int l1]) (rest := []) D_245_2 mr_12_729 V_246 rfl rfl rfl hR (Nat.le_refl _) h1 h2 h (fun v1 hp2 h => ?_)
  refine mjq_if_eq (tgt := 16) D_245_5 rfl h (fun h => ?_) (fun h => ?_)
  · exact mjG.fg (lo' := [none, none, none, none]) True.intro ((t_245_16 hR h1 h2) _ _ h)
  · refine mjr_aload_n (x := l0) D_245_8 rfl ?_
    refine mjr_iload_n (x := l2) D_245_9 rfl ?_
    refine mjq_vI (As := [.int l2]) (rest := []) D_245_10 mr_12_729 V_246 rfl rfl rfl hR (Nat.le_refl _) h1 h2 h (fun v3 hp4 h => ?_)
    refine mjq_if_ne (tgt := 18) D_245_13 rfl h (fun h => ?_) (fun h => ?_)
    · refine mjr_aload_n (x := l0) D_245_18 rfl ?_
      refine mjq_vN (As := []) (rest := []) D_245_19 mr_12_720 V_247 rfl rfl rfl hR (Nat.le_refl _) h1 h2 h (fun  hp5 h => ?_)
      refine mjr_aload_n (x := l0) D_245_22 rfl ?_
      refine mjr_iload_n (x := l1) D_245_23 rfl ?_
      refine mjq_ic (v := (-1 : Int32)) D_245_24 rfl ?_
      refine mjq_vN (As := [.int l1, .int (-1 : Int32)]) (rest := []) D_245_25 mr_12_717 V_248 rfl rfl rfl hR (Nat.le_refl _) h1 h2 h (fun  hp6 h => ?_)
      refine mjr_aload_n (x := l0) D_245_28 rfl ?_
      refine mjq_ic (v := (0 : Int32)) D_245_29 rfl ?_
      refine mjq_vN (As := [.int (0 : Int32)]) (rest := []) D_245_30 mr_12_726 V_249 rfl rfl rfl hR (Nat.le_refl _) h1 h2 h (fun  hp7 h => ?_)
      refine mjr_aload_n (x := l0) D_245_33 rfl ?_
      refine mjr_iload_n (x := l2) D_245_34 rfl ?_
      refine mjq_vI (As := [.int l2]) (rest := []) D_245_35 mr_12_732 V_250 rfl rfl rfl hR (Nat.le_refl _) h1 h2 h (fun v8 hp9 h => ?_)
      refine mjq_istore_n (lo' := [some (.ref l0), some (.int l1), some (.int l2), some (.int v8)]) D_245_38 (Nat.le_of_ble_eq_true rfl) rfl ?_
      refine mjr_iload_n (x := v8) D_245_39 rfl ?_
      refine mjq_if_ge (tgt := 47) D_245_40 rfl h (fun h => ?_) (fun h => ?_)
      · refine mjr_aload_n (x := l0) D_245_47 rfl ?_
        refine mjq_gR D_245_48 fr_12_266 h (fun v10 h => ?_)
        refine mjr_iload_n (x := v8) D_245_51 rfl ?_
        refine mjq_aI D_245_52 h (fun v11 h => ?_)
        exact mjq_ret D_245_53 rfl h1 h2 h
      · refine mjq_ic (v := (-1 : Int32)) D_245_43 rfl ?_
        refine mjr_goto (tgt := 53) D_245_44 rfl ?_
        exact mjq_ret D_245_53 rfl h1 h2 h
    · exact mjG.fg (lo' := [none, none, none, none]) True.intro ((t_245_16 hR h1 h2) _ _ h)
noncomputable def f_245 (R : mjR) (a0 : Nat) (a1 : Int32) (a2 : Int32) (hp : mjH) : mjU := b_245_0 R a0 a1 a2 hp
theorem c_245 {R : mjR} {d : Nat} (hR : mjC R d) {a0 : Nat} {a1 : Int32} {a2 : Int32} {hp : mjH} {q : Option Value × mjH} (h : f_245 R a0 a1 a2 hp = some q) : mjM (d + 1) 0 0 245 [.ref a0, .int a1, .int a2] hp (mjEq q) :=
  mjM_of Ja_245 (Nat.le_of_ble_eq_true rfl) (mjG.fg (lo' := [some (.ref a0), some (.int a1), some (.int a2), none]) (And.intro rfl (And.intro rfl (And.intro rfl True.intro))) ((t_245_0 hR (Nat.le_refl 0) (Nat.le_refl 0)) a0 a1 a2 hp q h))
def J_246 : mjI := (⟨"OwnerHeapModel", "isThere", "(I)Z"⟩, 12, prog_14_method_96_code, 2, (some .boolean), 1, false)
theorem Ja_246 : mjMt 246 = some J_246 := by rfl
theorem D_246_0 : decode J_246.2.2.1 0 = .ok (.aload_n 0, 1) := dzq_42 (by decide +kernel)
theorem D_246_1 : decode J_246.2.2.1 1 = .ok (.getfield 636, 3) := dzq_180 (by decide +kernel)
theorem D_246_4 : decode J_246.2.2.1 4 = .ok (.ifCond .le 20, 3) := dzq_158 (by decide +kernel)
theorem D_246_7 : decode J_246.2.2.1 7 = .ok (.iload_n 1, 1) := dzq_27 (by decide +kernel)
theorem D_246_8 : decode J_246.2.2.1 8 = .ok (.iconst 1, 1) := dzq_4 (by decide +kernel)
theorem D_246_9 : decode J_246.2.2.1 9 = .ok (.if_icmp .lt 15, 3) := dzq_161 (by decide +kernel)
theorem D_246_12 : decode J_246.2.2.1 12 = .ok (.iload_n 1, 1) := dzq_27 (by decide +kernel)
theorem D_246_13 : decode J_246.2.2.1 13 = .ok (.aload_n 0, 1) := dzq_42 (by decide +kernel)
theorem D_246_14 : decode J_246.2.2.1 14 = .ok (.getfield 699, 3) := dzq_180 (by decide +kernel)
theorem D_246_17 : decode J_246.2.2.1 17 = .ok (.if_icmp .gt 7, 3) := dzq_163 (by decide +kernel)
theorem D_246_20 : decode J_246.2.2.1 20 = .ok (.iconst 1, 1) := dzq_4 (by decide +kernel)
theorem D_246_21 : decode J_246.2.2.1 21 = .ok (.goto 4, 3) := dzq_167 (by decide +kernel)
theorem D_246_24 : decode J_246.2.2.1 24 = .ok (.iconst 0, 1) := dzq_3 (by decide +kernel)
theorem D_246_25 : decode J_246.2.2.1 25 = .ok (.ireturn, 1) := dzq_172 (by decide +kernel)
def P_246_24 (X : mjX) (d C S kc ks : Nat) (k : mjH → mjU) : Prop := ∀  (hp : mjH) (q : Option Value × mjH), k  hp = some q → mjG X d C S J_246 (mjEq q) 24 [none, none] [] hp kc ks
def P_246_0 (X : mjX) (d C S kc ks : Nat) (k : Nat → Int32 → mjH → mjU) : Prop := ∀ (l0 : Nat) (l1 : Int32) (hp : mjH) (q : Option Value × mjH), k l0 l1 hp = some q → mjG X d C S J_246 (mjEq q) 0 [some (.ref l0), some (.int l1)] [] hp kc ks
noncomputable def b_246_24 (R : mjR)  (hp : mjH) : mjU := some (some (.int (0 : Int32)), hp)
theorem t_246_24 {X : mjX} {d C S kc ks : Nat} {R : mjR} (hR : mjC R d) (h1 : kc ≤ C) (h2 : ks ≤ S) : P_246_24 X (d + 1) C S kc ks (b_246_24 R) := by
  intro  hp q h
  unfold b_246_24 at h
  refine mjq_ic (v := (0 : Int32)) D_246_24 rfl ?_
  exact mjr_ireturn D_246_25 rfl rfl h1 h2 (Option.some.inj h)
noncomputable def b_246_0 (R : mjR) (l0 : Nat) (l1 : Int32) (hp : mjH) : mjU := gI hp l0 12 96 (fun v1 => (if v1 ≤ 0 then b_246_24 R hp else (if l1 < (1 : Int32) then b_246_24 R hp else gI hp l0 12 103 (fun v2 => (if v2 < l1 then b_246_24 R hp else some (some (.int (1 : Int32)), hp))))))
theorem t_246_0 {X : mjX} {d C S kc ks : Nat} {R : mjR} (hR : mjC R d) (h1 : kc ≤ C) (h2 : ks ≤ S) : P_246_0 X (d + 1) C S kc ks (b_246_0 R) := by
  intro l0 l1 hp q h
  unfold b_246_0 at h
  refine mjr_aload_n (x := l0) D_246_0 rfl ?_
  refine mjq_gI D_246_1 fr_12_636 h (fun v1 h => ?_)
  refine mjq_if_le (tgt := 24) D_246_4 rfl h (fun h => ?_) (fun h => ?_)
  · exact mjG.fg (lo' := [none, none]) True.intro ((t_246_24 hR h1 h2) _ _ h)
  · refine mjr_iload_n (x := l1) D_246_7 rfl ?_
    refine mjq_ic (v := (1 : Int32)) D_246_8 rfl ?_
    refine mjq_icmp_lt (tgt := 24) D_246_9 rfl h (fun h => ?_) (fun h => ?_)
    · exact mjG.fg (lo' := [none, none]) True.intro ((t_246_24 hR h1 h2) _ _ h)
    · refine mjr_iload_n (x := l1) D_246_12 rfl ?_
      refine mjr_aload_n (x := l0) D_246_13 rfl ?_
      refine mjq_gI D_246_14 fr_12_699 h (fun v2 h => ?_)
      refine mjq_icmp_gt (tgt := 24) D_246_17 rfl h (fun h => ?_) (fun h => ?_)
      · exact mjG.fg (lo' := [none, none]) True.intro ((t_246_24 hR h1 h2) _ _ h)
      · refine mjq_ic (v := (1 : Int32)) D_246_20 rfl ?_
        refine mjr_goto (tgt := 25) D_246_21 rfl ?_
        exact mjr_ireturn D_246_25 rfl rfl h1 h2 (Option.some.inj h)
noncomputable def f_246 (R : mjR) (a0 : Nat) (a1 : Int32) (hp : mjH) : mjU := b_246_0 R a0 a1 hp
theorem c_246 {R : mjR} {d : Nat} (hR : mjC R d) {a0 : Nat} {a1 : Int32} {hp : mjH} {q : Option Value × mjH} (h : f_246 R a0 a1 hp = some q) : mjM (d + 1) 0 0 246 [.ref a0, .int a1] hp (mjEq q) :=
  mjM_of Ja_246 (Nat.le_of_ble_eq_true rfl) (mjG.fg (lo' := [some (.ref a0), some (.int a1)]) (And.intro rfl (And.intro rfl True.intro)) ((t_246_0 hR (Nat.le_refl 0) (Nat.le_refl 0)) a0 a1 hp q h))
def J_247 : mjI := (⟨"OwnerHeapModel", "clearWay", "()V"⟩, 12, prog_14_method_99_code, 2, none, 0, false)
theorem Ja_247 : mjMt 247 = some J_247 := by rfl
theorem D_247_0 : decode J_247.2.2.1 0 = .ok (.iconst 0, 1) := dzq_3 (by decide +kernel)
theorem D_247_1 : decode J_247.2.2.1 1 = .ok (.istore_n 1, 1) := dzq_60 (by decide +kernel)
theorem D_247_2 : decode J_247.2.2.1 2 = .ok (.iload_n 1, 1) := dzq_27 (by decide +kernel)
theorem D_247_3 : decode J_247.2.2.1 3 = .ok (.aload_n 0, 1) := dzq_42 (by decide +kernel)
theorem D_247_4 : decode J_247.2.2.1 4 = .ok (.getfield 699, 3) := dzq_180 (by decide +kernel)
theorem D_247_7 : decode J_247.2.2.1 7 = .ok (.if_icmp .gt 16, 3) := dzq_163 (by decide +kernel)
theorem D_247_10 : decode J_247.2.2.1 10 = .ok (.aload_n 0, 1) := dzq_42 (by decide +kernel)
theorem D_247_11 : decode J_247.2.2.1 11 = .ok (.getfield 257, 3) := dzq_180 (by decide +kernel)
theorem D_247_14 : decode J_247.2.2.1 14 = .ok (.iload_n 1, 1) := dzq_27 (by decide +kernel)
theorem D_247_15 : decode J_247.2.2.1 15 = .ok (.iconst 0, 1) := dzq_3 (by decide +kernel)
theorem D_247_16 : decode J_247.2.2.1 16 = .ok (.bastore, 1) := by decide +kernel
theorem D_247_17 : decode J_247.2.2.1 17 = .ok (.iinc 1 1, 3) := dzq_132 (by decide +kernel)
theorem D_247_20 : decode J_247.2.2.1 20 = .ok (.goto (-18), 3) := dzq_167 (by decide +kernel)
theorem D_247_23 : decode J_247.2.2.1 23 = .ok (.aload_n 0, 1) := dzq_42 (by decide +kernel)
theorem D_247_24 : decode J_247.2.2.1 24 = .ok (.iconst 0, 1) := dzq_3 (by decide +kernel)
theorem D_247_25 : decode J_247.2.2.1 25 = .ok (.putfield 714, 3) := dzq_181 (by decide +kernel)
theorem D_247_28 : decode J_247.2.2.1 28 = .ok (.return_, 1) := dzq_177 (by decide +kernel)
def P_247_2 (X : mjX) (d C S kc ks : Nat) (k : Nat → Int32 → mjH → mjU) : Prop := ∀ (l0 : Nat) (l1 : Int32) (hp : mjH) (q : Option Value × mjH), k l0 l1 hp = some q → mjG X d C S J_247 (mjEq q) 2 [some (.ref l0), some (.int l1)] [] hp kc ks
def P_247_0 (X : mjX) (d C S kc ks : Nat) (k : Nat → mjH → mjU) : Prop := ∀ (l0 : Nat) (hp : mjH) (q : Option Value × mjH), k l0 hp = some q → mjG X d C S J_247 (mjEq q) 0 [some (.ref l0), none] [] hp kc ks
noncomputable def b_247_2 (R : mjR) (k2 : Nat → Int32 → mjH → mjU) (l0 : Nat) (l1 : Int32) (hp : mjH) : mjU := gI hp l0 12 103 (fun v1 => (if v1 < l1 then pI hp l0 12 124 (0 : Int32) (fun hp2 => some (none, hp2)) else gR hp l0 12 120 (fun v3 => sB hp v3 l1 (0 : Int32) (fun hp4 => k2 l0 (l1 + (1 : Int32)) hp4))))
theorem t_247_2 {X : mjX} {d C S kc ks : Nat} {R : mjR} (hR : mjC R d) (h1 : kc ≤ C) (h2 : ks ≤ S) {k2 : Nat → Int32 → mjH → mjU} (hk2 : P_247_2 X (d + 1) C S kc ks k2) : P_247_2 X (d + 1) C S kc ks (b_247_2 R k2) := by
  intro l0 l1 hp q h
  unfold b_247_2 at h
  refine mjr_iload_n (x := l1) D_247_2 rfl ?_
  refine mjr_aload_n (x := l0) D_247_3 rfl ?_
  refine mjq_gI D_247_4 fr_12_699 h (fun v1 h => ?_)
  refine mjq_icmp_gt (tgt := 23) D_247_7 rfl h (fun h => ?_) (fun h => ?_)
  · refine mjr_aload_n (x := l0) D_247_23 rfl ?_
    refine mjq_ic (v := (0 : Int32)) D_247_24 rfl ?_
    refine mjq_pI D_247_25 fr_12_714 rfl rfl h (fun hp2 h => ?_)
    exact mjq_nret D_247_28 rfl h1 h2 h
  · refine mjr_aload_n (x := l0) D_247_10 rfl ?_
    refine mjq_gR D_247_11 fr_12_257 h (fun v3 h => ?_)
    refine mjr_iload_n (x := l1) D_247_14 rfl ?_
    refine mjq_ic (v := (0 : Int32)) D_247_15 rfl ?_
    refine mjq_sB D_247_16 h (fun hp4 h => ?_)
    refine mjq_iinc (x := l1) (c := (1 : Int32)) (lo' := [some (.ref l0), some (.int (l1 + (1 : Int32)))]) D_247_17 rfl (Nat.le_of_ble_eq_true rfl) rfl rfl ?_
    refine mjr_goto (tgt := 2) D_247_20 rfl ?_
    exact hk2 _ _ _ _ h
noncomputable def L_247_2 (R : mjR) (n : Nat) : Nat → Int32 → mjH → mjU := Nat.rec (motive := fun _ => Nat → Int32 → mjH → mjU) (fun _ _ _ => none) (fun _ self => b_247_2 R self) n
theorem T_247_2 {X : mjX} {d C S kc ks : Nat} {R : mjR} (hR : mjC R d) (h1 : kc ≤ C) (h2 : ks ≤ S) (n : Nat) : P_247_2 X (d + 1) C S kc ks (L_247_2 R n) := by
  induction n with
  | zero => intro _ _ _ _ h; exact mj_no h
  | succ n ih => exact t_247_2 hR h1 h2 ih
noncomputable def b_247_0 (R : mjR) (l0 : Nat) (hp : mjH) : mjU := L_247_2 R mjN l0 (0 : Int32) hp
theorem t_247_0 {X : mjX} {d C S kc ks : Nat} {R : mjR} (hR : mjC R d) (h1 : kc ≤ C) (h2 : ks ≤ S) : P_247_0 X (d + 1) C S kc ks (b_247_0 R) := by
  intro l0 hp q h
  unfold b_247_0 at h
  refine mjq_ic (v := (0 : Int32)) D_247_0 rfl ?_
  refine mjq_istore_n (lo' := [some (.ref l0), some (.int (0 : Int32))]) D_247_1 (Nat.le_of_ble_eq_true rfl) rfl ?_
  exact (T_247_2 hR h1 h2 mjN) _ _ _ _ h
noncomputable def f_247 (R : mjR) (a0 : Nat) (hp : mjH) : mjU := b_247_0 R a0 hp
theorem c_247 {R : mjR} {d : Nat} (hR : mjC R d) {a0 : Nat} {hp : mjH} {q : Option Value × mjH} (h : f_247 R a0 hp = some q) : mjM (d + 1) 0 0 247 [.ref a0] hp (mjEq q) :=
  mjM_of Ja_247 (Nat.le_of_ble_eq_true rfl) (mjG.fg (lo' := [some (.ref a0), none]) (And.intro rfl True.intro) ((t_247_0 hR (Nat.le_refl 0) (Nat.le_refl 0)) a0 hp q h))
def J_248 : mjI := (⟨"OwnerHeapModel", "comes", "(II)V"⟩, 12, prog_14_method_98_code, 3, none, 2, false)
theorem Ja_248 : mjMt 248 = some J_248 := by rfl
theorem D_248_0 : decode J_248.2.2.1 0 = .ok (.aload_n 0, 1) := dzq_42 (by decide +kernel)
theorem D_248_1 : decode J_248.2.2.1 1 = .ok (.getfield 257, 3) := dzq_180 (by decide +kernel)
theorem D_248_4 : decode J_248.2.2.1 4 = .ok (.iload_n 1, 1) := dzq_27 (by decide +kernel)
theorem D_248_5 : decode J_248.2.2.1 5 = .ok (.baload, 1) := dzq_51 (by decide +kernel)
theorem D_248_6 : decode J_248.2.2.1 6 = .ok (.ifCond .eq 4, 3) := dzq_153 (by decide +kernel)
theorem D_248_9 : decode J_248.2.2.1 9 = .ok (.return_, 1) := dzq_177 (by decide +kernel)
theorem D_248_10 : decode J_248.2.2.1 10 = .ok (.aload_n 0, 1) := dzq_42 (by decide +kernel)
theorem D_248_11 : decode J_248.2.2.1 11 = .ok (.getfield 257, 3) := dzq_180 (by decide +kernel)
theorem D_248_14 : decode J_248.2.2.1 14 = .ok (.iload_n 1, 1) := dzq_27 (by decide +kernel)
theorem D_248_15 : decode J_248.2.2.1 15 = .ok (.iconst 1, 1) := dzq_4 (by decide +kernel)
theorem D_248_16 : decode J_248.2.2.1 16 = .ok (.bastore, 1) := by decide +kernel
theorem D_248_17 : decode J_248.2.2.1 17 = .ok (.aload_n 0, 1) := dzq_42 (by decide +kernel)
theorem D_248_18 : decode J_248.2.2.1 18 = .ok (.getfield 260, 3) := dzq_180 (by decide +kernel)
theorem D_248_21 : decode J_248.2.2.1 21 = .ok (.aload_n 0, 1) := dzq_42 (by decide +kernel)
theorem D_248_22 : decode J_248.2.2.1 22 = .ok (.getfield 714, 3) := dzq_180 (by decide +kernel)
theorem D_248_25 : decode J_248.2.2.1 25 = .ok (.iload_n 1, 1) := dzq_27 (by decide +kernel)
theorem D_248_26 : decode J_248.2.2.1 26 = .ok (.iastore, 1) := dzq_79 (by decide +kernel)
theorem D_248_27 : decode J_248.2.2.1 27 = .ok (.aload_n 0, 1) := dzq_42 (by decide +kernel)
theorem D_248_28 : decode J_248.2.2.1 28 = .ok (.getfield 263, 3) := dzq_180 (by decide +kernel)
theorem D_248_31 : decode J_248.2.2.1 31 = .ok (.aload_n 0, 1) := dzq_42 (by decide +kernel)
theorem D_248_32 : decode J_248.2.2.1 32 = .ok (.getfield 714, 3) := dzq_180 (by decide +kernel)
theorem D_248_35 : decode J_248.2.2.1 35 = .ok (.iload_n 2, 1) := dzq_28 (by decide +kernel)
theorem D_248_36 : decode J_248.2.2.1 36 = .ok (.iastore, 1) := dzq_79 (by decide +kernel)
theorem D_248_37 : decode J_248.2.2.1 37 = .ok (.aload_n 0, 1) := dzq_42 (by decide +kernel)
theorem D_248_38 : decode J_248.2.2.1 38 = .ok (.getfield 266, 3) := dzq_180 (by decide +kernel)
theorem D_248_41 : decode J_248.2.2.1 41 = .ok (.aload_n 0, 1) := dzq_42 (by decide +kernel)
theorem D_248_42 : decode J_248.2.2.1 42 = .ok (.getfield 714, 3) := dzq_180 (by decide +kernel)
theorem D_248_45 : decode J_248.2.2.1 45 = .ok (.iload_n 2, 1) := dzq_28 (by decide +kernel)
theorem D_248_46 : decode J_248.2.2.1 46 = .ok (.ifCond .ge 7, 3) := dzq_156 (by decide +kernel)
theorem D_248_49 : decode J_248.2.2.1 49 = .ok (.iconst 0, 1) := dzq_3 (by decide +kernel)
theorem D_248_50 : decode J_248.2.2.1 50 = .ok (.goto 11, 3) := dzq_167 (by decide +kernel)
theorem D_248_53 : decode J_248.2.2.1 53 = .ok (.aload_n 0, 1) := dzq_42 (by decide +kernel)
theorem D_248_54 : decode J_248.2.2.1 54 = .ok (.getfield 266, 3) := dzq_180 (by decide +kernel)
theorem D_248_57 : decode J_248.2.2.1 57 = .ok (.iload_n 2, 1) := dzq_28 (by decide +kernel)
theorem D_248_58 : decode J_248.2.2.1 58 = .ok (.iaload, 1) := dzq_46 (by decide +kernel)
theorem D_248_59 : decode J_248.2.2.1 59 = .ok (.iconst 1, 1) := dzq_4 (by decide +kernel)
theorem D_248_60 : decode J_248.2.2.1 60 = .ok (.iadd, 1) := dzq_96 (by decide +kernel)
theorem D_248_61 : decode J_248.2.2.1 61 = .ok (.iastore, 1) := dzq_79 (by decide +kernel)
theorem D_248_62 : decode J_248.2.2.1 62 = .ok (.aload_n 0, 1) := dzq_42 (by decide +kernel)
theorem D_248_63 : decode J_248.2.2.1 63 = .ok (.dup, 1) := dzq_89 (by decide +kernel)
theorem D_248_64 : decode J_248.2.2.1 64 = .ok (.getfield 714, 3) := dzq_180 (by decide +kernel)
theorem D_248_67 : decode J_248.2.2.1 67 = .ok (.iconst 1, 1) := dzq_4 (by decide +kernel)
theorem D_248_68 : decode J_248.2.2.1 68 = .ok (.iadd, 1) := dzq_96 (by decide +kernel)
theorem D_248_69 : decode J_248.2.2.1 69 = .ok (.putfield 714, 3) := dzq_181 (by decide +kernel)
theorem D_248_72 : decode J_248.2.2.1 72 = .ok (.return_, 1) := dzq_177 (by decide +kernel)
def P_248_61 (X : mjX) (d C S kc ks : Nat) (k : Nat → Nat → Int32 → Int32 → mjH → mjU) : Prop := ∀ (l0 : Nat) (s0 : Nat) (s1 : Int32) (s2 : Int32) (hp : mjH) (q : Option Value × mjH), k l0 s0 s1 s2 hp = some q → mjG X d C S J_248 (mjEq q) 61 [some (.ref l0), none, none] [.int s2, .int s1, .ref s0] hp kc ks
def P_248_0 (X : mjX) (d C S kc ks : Nat) (k : Nat → Int32 → Int32 → mjH → mjU) : Prop := ∀ (l0 : Nat) (l1 : Int32) (l2 : Int32) (hp : mjH) (q : Option Value × mjH), k l0 l1 l2 hp = some q → mjG X d C S J_248 (mjEq q) 0 [some (.ref l0), some (.int l1), some (.int l2)] [] hp kc ks
noncomputable def b_248_61 (R : mjR) (l0 : Nat) (s0 : Nat) (s1 : Int32) (s2 : Int32) (hp : mjH) : mjU := sI hp s0 s1 s2 (fun hp1 => gI hp1 l0 12 124 (fun v2 => pI hp1 l0 12 124 (v2 + (1 : Int32)) (fun hp3 => some (none, hp3))))
theorem t_248_61 {X : mjX} {d C S kc ks : Nat} {R : mjR} (hR : mjC R d) (h1 : kc ≤ C) (h2 : ks ≤ S) : P_248_61 X (d + 1) C S kc ks (b_248_61 R) := by
  intro l0 s0 s1 s2 hp q h
  unfold b_248_61 at h
  refine mjq_sI D_248_61 h (fun hp1 h => ?_)
  refine mjr_aload_n (x := l0) D_248_62 rfl ?_
  refine mjr_dup D_248_63 rfl ?_
  refine mjq_gI D_248_64 fr_12_714 h (fun v2 h => ?_)
  refine mjq_ic (v := (1 : Int32)) D_248_67 rfl ?_
  refine mjr_iadd D_248_68 ?_
  refine mjq_pI D_248_69 fr_12_714 rfl rfl h (fun hp3 h => ?_)
  exact mjq_nret D_248_72 rfl h1 h2 h
noncomputable def b_248_0 (R : mjR) (l0 : Nat) (l1 : Int32) (l2 : Int32) (hp : mjH) : mjU := gR hp l0 12 120 (fun v1 => aB hp v1 l1 (fun v2 => (if v2 = 0 then gR hp l0 12 120 (fun v3 => sB hp v3 l1 (1 : Int32) (fun hp4 => gR hp4 l0 12 121 (fun v5 => gI hp4 l0 12 124 (fun v6 => sI hp4 v5 v6 l1 (fun hp7 => gR hp7 l0 12 122 (fun v8 => gI hp7 l0 12 124 (fun v9 => sI hp7 v8 v9 l2 (fun hp10 => gR hp10 l0 12 123 (fun v11 => gI hp10 l0 12 124 (fun v12 => (if 0 ≤ l2 then gR hp10 l0 12 123 (fun v13 => aI hp10 v13 l2 (fun v14 => b_248_61 R l0 v11 v12 (v14 + (1 : Int32)) hp10)) else b_248_61 R l0 v11 v12 (0 : Int32) hp10))))))))))) else some (none, hp))))
theorem t_248_0 {X : mjX} {d C S kc ks : Nat} {R : mjR} (hR : mjC R d) (h1 : kc ≤ C) (h2 : ks ≤ S) : P_248_0 X (d + 1) C S kc ks (b_248_0 R) := by
  intro l0 l1 l2 hp q h
  unfold b_248_0 at h
  refine mjr_aload_n (x := l0) D_248_0 rfl ?_
  refine mjq_gR D_248_1 fr_12_257 h (fun v1 h => ?_)
  refine mjr_iload_n (x := l1) D_248_4 rfl ?_
  refine mjq_aB D_248_5 h (fun v2 h => ?_)
  refine mjq_if_eq (tgt := 10) D_248_6 rfl h (fun h => ?_) (fun h => ?_)
  · refine mjr_aload_n (x := l0) D_248_10 rfl ?_
    refine mjq_gR D_248_11 fr_12_257 h (fun v3 h => ?_)
    refine mjr_iload_n (x := l1) D_248_14 rfl ?_
    refine mjq_ic (v := (1 : Int32)) D_248_15 rfl ?_
    refine mjq_sB D_248_16 h (fun hp4 h => ?_)
    refine mjr_aload_n (x := l0) D_248_17 rfl ?_
    refine mjq_gR D_248_18 fr_12_260 h (fun v5 h => ?_)
    refine mjr_aload_n (x := l0) D_248_21 rfl ?_
    refine mjq_gI D_248_22 fr_12_714 h (fun v6 h => ?_)
    refine mjr_iload_n (x := l1) D_248_25 rfl ?_
    refine mjq_sI D_248_26 h (fun hp7 h => ?_)
    refine mjr_aload_n (x := l0) D_248_27 rfl ?_
    refine mjq_gR D_248_28 fr_12_263 h (fun v8 h => ?_)
    refine mjr_aload_n (x := l0) D_248_31 rfl ?_
    refine mjq_gI D_248_32 fr_12_714 h (fun v9 h => ?_)
    refine mjr_iload_n (x := l2) D_248_35 rfl ?_
    refine mjq_sI D_248_36 h (fun hp10 h => ?_)
    refine mjr_aload_n (x := l0) D_248_37 rfl ?_
    refine mjq_gR D_248_38 fr_12_266 h (fun v11 h => ?_)
    refine mjr_aload_n (x := l0) D_248_41 rfl ?_
    refine mjq_gI D_248_42 fr_12_714 h (fun v12 h => ?_)
    refine mjr_iload_n (x := l2) D_248_45 rfl ?_
    refine mjq_if_ge (tgt := 53) D_248_46 rfl h (fun h => ?_) (fun h => ?_)
    · refine mjr_aload_n (x := l0) D_248_53 rfl ?_
      refine mjq_gR D_248_54 fr_12_266 h (fun v13 h => ?_)
      refine mjr_iload_n (x := l2) D_248_57 rfl ?_
      refine mjq_aI D_248_58 h (fun v14 h => ?_)
      refine mjq_ic (v := (1 : Int32)) D_248_59 rfl ?_
      refine mjr_iadd D_248_60 ?_
      exact mjG.fg (lo' := [some (.ref l0), none, none]) (And.intro rfl True.intro) ((t_248_61 hR h1 h2) _ _ _ _ _ _ h)
    · refine mjq_ic (v := (0 : Int32)) D_248_49 rfl ?_
      refine mjr_goto (tgt := 61) D_248_50 rfl ?_
      exact mjG.fg (lo' := [some (.ref l0), none, none]) (And.intro rfl True.intro) ((t_248_61 hR h1 h2) _ _ _ _ _ _ h)
  · exact mjq_nret D_248_9 rfl h1 h2 h
noncomputable def f_248 (R : mjR) (a0 : Nat) (a1 : Int32) (a2 : Int32) (hp : mjH) : mjU := b_248_0 R a0 a1 a2 hp
theorem c_248 {R : mjR} {d : Nat} (hR : mjC R d) {a0 : Nat} {a1 : Int32} {a2 : Int32} {hp : mjH} {q : Option Value × mjH} (h : f_248 R a0 a1 a2 hp = some q) : mjM (d + 1) 0 0 248 [.ref a0, .int a1, .int a2] hp (mjEq q) :=
  mjM_of Ja_248 (Nat.le_of_ble_eq_true rfl) (mjG.fg (lo' := [some (.ref a0), some (.int a1), some (.int a2)]) (And.intro rfl (And.intro rfl (And.intro rfl True.intro))) ((t_248_0 hR (Nat.le_refl 0) (Nat.le_refl 0)) a0 a1 a2 hp q h))
def J_249 : mjI := (⟨"OwnerHeapModel", "goes", "(I)V"⟩, 12, prog_14_method_100_code, 7, none, 1, false)
theorem Ja_249 : mjMt 249 = some J_249 := by rfl
theorem D_249_0 : decode J_249.2.2.1 0 = .ok (.iconst 0, 1) := dzq_3 (by decide +kernel)
theorem D_249_1 : decode J_249.2.2.1 1 = .ok (.istore_n 2, 1) := dzq_61 (by decide +kernel)
theorem D_249_2 : decode J_249.2.2.1 2 = .ok (.iload_n 2, 1) := dzq_28 (by decide +kernel)
theorem D_249_3 : decode J_249.2.2.1 3 = .ok (.aload_n 0, 1) := dzq_42 (by decide +kernel)
theorem D_249_4 : decode J_249.2.2.1 4 = .ok (.getfield 714, 3) := dzq_180 (by decide +kernel)
theorem D_249_7 : decode J_249.2.2.1 7 = .ok (.if_icmp .ge 108, 3) := dzq_162 (by decide +kernel)
theorem D_249_10 : decode J_249.2.2.1 10 = .ok (.aload_n 0, 1) := dzq_42 (by decide +kernel)
theorem D_249_11 : decode J_249.2.2.1 11 = .ok (.getfield 260, 3) := dzq_180 (by decide +kernel)
theorem D_249_14 : decode J_249.2.2.1 14 = .ok (.iload_n 2, 1) := dzq_28 (by decide +kernel)
theorem D_249_15 : decode J_249.2.2.1 15 = .ok (.iaload, 1) := dzq_46 (by decide +kernel)
theorem D_249_16 : decode J_249.2.2.1 16 = .ok (.istore_n 3, 1) := dzq_62 (by decide +kernel)
theorem D_249_17 : decode J_249.2.2.1 17 = .ok (.aload_n 0, 1) := dzq_42 (by decide +kernel)
theorem D_249_18 : decode J_249.2.2.1 18 = .ok (.getfield 233, 3) := dzq_180 (by decide +kernel)
theorem D_249_21 : decode J_249.2.2.1 21 = .ok (.iload_n 3, 1) := dzq_29 (by decide +kernel)
theorem D_249_22 : decode J_249.2.2.1 22 = .ok (.iaload, 1) := dzq_46 (by decide +kernel)
theorem D_249_23 : decode J_249.2.2.1 23 = .ok (.istore 4, 2) := dzq_54 (by decide +kernel)
theorem D_249_25 : decode J_249.2.2.1 25 = .ok (.iconst 0, 1) := dzq_3 (by decide +kernel)
theorem D_249_26 : decode J_249.2.2.1 26 = .ok (.istore 5, 2) := dzq_54 (by decide +kernel)
theorem D_249_28 : decode J_249.2.2.1 28 = .ok (.iload 5, 2) := dzq_21 (by decide +kernel)
theorem D_249_30 : decode J_249.2.2.1 30 = .ok (.aload_n 0, 1) := dzq_42 (by decide +kernel)
theorem D_249_31 : decode J_249.2.2.1 31 = .ok (.getfield 45, 3) := dzq_180 (by decide +kernel)
theorem D_249_34 : decode J_249.2.2.1 34 = .ok (.iload 4, 2) := dzq_21 (by decide +kernel)
theorem D_249_36 : decode J_249.2.2.1 36 = .ok (.iaload, 1) := dzq_46 (by decide +kernel)
theorem D_249_37 : decode J_249.2.2.1 37 = .ok (.if_icmp .ge 72, 3) := dzq_162 (by decide +kernel)
theorem D_249_40 : decode J_249.2.2.1 40 = .ok (.aload_n 0, 1) := dzq_42 (by decide +kernel)
theorem D_249_41 : decode J_249.2.2.1 41 = .ok (.getfield 278, 3) := dzq_180 (by decide +kernel)
theorem D_249_44 : decode J_249.2.2.1 44 = .ok (.sipush 400, 3) := dzq_17 (by decide +kernel)
theorem D_249_47 : decode J_249.2.2.1 47 = .ok (.iload 4, 2) := dzq_21 (by decide +kernel)
theorem D_249_49 : decode J_249.2.2.1 49 = .ok (.imul, 1) := dzq_104 (by decide +kernel)
theorem D_249_50 : decode J_249.2.2.1 50 = .ok (.iload 5, 2) := dzq_21 (by decide +kernel)
theorem D_249_52 : decode J_249.2.2.1 52 = .ok (.iadd, 1) := dzq_96 (by decide +kernel)
theorem D_249_53 : decode J_249.2.2.1 53 = .ok (.baload, 1) := dzq_51 (by decide +kernel)
theorem D_249_54 : decode J_249.2.2.1 54 = .ok (.ifCond .eq 28, 3) := dzq_153 (by decide +kernel)
theorem D_249_57 : decode J_249.2.2.1 57 = .ok (.aload_n 0, 1) := dzq_42 (by decide +kernel)
theorem D_249_58 : decode J_249.2.2.1 58 = .ok (.getfield 230, 3) := dzq_180 (by decide +kernel)
theorem D_249_61 : decode J_249.2.2.1 61 = .ok (.aload_n 0, 1) := dzq_42 (by decide +kernel)
theorem D_249_62 : decode J_249.2.2.1 62 = .ok (.getfield 236, 3) := dzq_180 (by decide +kernel)
theorem D_249_65 : decode J_249.2.2.1 65 = .ok (.iload_n 3, 1) := dzq_29 (by decide +kernel)
theorem D_249_66 : decode J_249.2.2.1 66 = .ok (.iaload, 1) := dzq_46 (by decide +kernel)
theorem D_249_67 : decode J_249.2.2.1 67 = .ok (.aload_n 0, 1) := dzq_42 (by decide +kernel)
theorem D_249_68 : decode J_249.2.2.1 68 = .ok (.getfield 30, 3) := dzq_180 (by decide +kernel)
theorem D_249_71 : decode J_249.2.2.1 71 = .ok (.iload 4, 2) := dzq_21 (by decide +kernel)
theorem D_249_73 : decode J_249.2.2.1 73 = .ok (.iaload, 1) := dzq_46 (by decide +kernel)
theorem D_249_74 : decode J_249.2.2.1 74 = .ok (.iadd, 1) := dzq_96 (by decide +kernel)
theorem D_249_75 : decode J_249.2.2.1 75 = .ok (.iload 5, 2) := dzq_21 (by decide +kernel)
theorem D_249_77 : decode J_249.2.2.1 77 = .ok (.iadd, 1) := dzq_96 (by decide +kernel)
theorem D_249_78 : decode J_249.2.2.1 78 = .ok (.iaload, 1) := dzq_46 (by decide +kernel)
theorem D_249_79 : decode J_249.2.2.1 79 = .ok (.goto 4, 3) := dzq_167 (by decide +kernel)
theorem D_249_82 : decode J_249.2.2.1 82 = .ok (.iconst 0, 1) := dzq_3 (by decide +kernel)
theorem D_249_83 : decode J_249.2.2.1 83 = .ok (.istore 6, 2) := dzq_54 (by decide +kernel)
theorem D_249_85 : decode J_249.2.2.1 85 = .ok (.iload 6, 2) := dzq_21 (by decide +kernel)
theorem D_249_87 : decode J_249.2.2.1 87 = .ok (.ifCond .eq 16, 3) := dzq_153 (by decide +kernel)
theorem D_249_90 : decode J_249.2.2.1 90 = .ok (.iload 6, 2) := dzq_21 (by decide +kernel)
theorem D_249_92 : decode J_249.2.2.1 92 = .ok (.iload_n 1, 1) := dzq_27 (by decide +kernel)
theorem D_249_93 : decode J_249.2.2.1 93 = .ok (.if_icmp .eq 10, 3) := dzq_159 (by decide +kernel)
theorem D_249_96 : decode J_249.2.2.1 96 = .ok (.aload_n 0, 1) := dzq_42 (by decide +kernel)
theorem D_249_97 : decode J_249.2.2.1 97 = .ok (.iload 6, 2) := dzq_21 (by decide +kernel)
theorem D_249_99 : decode J_249.2.2.1 99 = .ok (.iload_n 2, 1) := dzq_28 (by decide +kernel)
theorem D_249_100 : decode J_249.2.2.1 100 = .ok (.invokevirtual 717, 3) := dzq_182 (by decide +kernel)
theorem D_249_103 : decode J_249.2.2.1 103 = .ok (.iinc 5 1, 3) := dzq_132 (by decide +kernel)
theorem D_249_106 : decode J_249.2.2.1 106 = .ok (.goto (-78), 3) := dzq_167 (by decide +kernel)
theorem D_249_109 : decode J_249.2.2.1 109 = .ok (.iinc 2 1, 3) := dzq_132 (by decide +kernel)
theorem D_249_112 : decode J_249.2.2.1 112 = .ok (.goto (-110), 3) := dzq_167 (by decide +kernel)
theorem D_249_115 : decode J_249.2.2.1 115 = .ok (.return_, 1) := dzq_177 (by decide +kernel)
def P_249_103 (X : mjX) (d C S kc ks : Nat) (k : Nat → Int32 → Int32 → Int32 → Int32 → Int32 → mjH → mjU) : Prop := ∀ (l0 : Nat) (l1 : Int32) (l2 : Int32) (l3 : Int32) (l4 : Int32) (l5 : Int32) (hp : mjH) (q : Option Value × mjH), k l0 l1 l2 l3 l4 l5 hp = some q → mjG X d C S J_249 (mjEq q) 103 [some (.ref l0), some (.int l1), some (.int l2), some (.int l3), some (.int l4), some (.int l5), none] [] hp kc ks
def P_249_83 (X : mjX) (d C S kc ks : Nat) (k : Nat → Int32 → Int32 → Int32 → Int32 → Int32 → Int32 → mjH → mjU) : Prop := ∀ (l0 : Nat) (l1 : Int32) (l2 : Int32) (l3 : Int32) (l4 : Int32) (l5 : Int32) (s0 : Int32) (hp : mjH) (q : Option Value × mjH), k l0 l1 l2 l3 l4 l5 s0 hp = some q → mjG X d C S J_249 (mjEq q) 83 [some (.ref l0), some (.int l1), some (.int l2), some (.int l3), some (.int l4), some (.int l5), none] [.int s0] hp kc ks
def P_249_28 (X : mjX) (d C S kc ks : Nat) (k : Nat → Int32 → Int32 → Int32 → Int32 → Int32 → mjH → mjU) : Prop := ∀ (l0 : Nat) (l1 : Int32) (l2 : Int32) (l3 : Int32) (l4 : Int32) (l5 : Int32) (hp : mjH) (q : Option Value × mjH), k l0 l1 l2 l3 l4 l5 hp = some q → mjG X d C S J_249 (mjEq q) 28 [some (.ref l0), some (.int l1), some (.int l2), some (.int l3), some (.int l4), some (.int l5), none] [] hp kc ks
def P_249_2 (X : mjX) (d C S kc ks : Nat) (k : Nat → Int32 → Int32 → mjH → mjU) : Prop := ∀ (l0 : Nat) (l1 : Int32) (l2 : Int32) (hp : mjH) (q : Option Value × mjH), k l0 l1 l2 hp = some q → mjG X d C S J_249 (mjEq q) 2 [some (.ref l0), some (.int l1), some (.int l2), none, none, none, none] [] hp kc ks
def P_249_0 (X : mjX) (d C S kc ks : Nat) (k : Nat → Int32 → mjH → mjU) : Prop := ∀ (l0 : Nat) (l1 : Int32) (hp : mjH) (q : Option Value × mjH), k l0 l1 hp = some q → mjG X d C S J_249 (mjEq q) 0 [some (.ref l0), some (.int l1), none, none, none, none, none] [] hp kc ks
noncomputable def b_249_103 (R : mjR) (k2 : Nat → Int32 → Int32 → mjH → mjU) (k28 : Nat → Int32 → Int32 → Int32 → Int32 → Int32 → mjH → mjU) (l0 : Nat) (l1 : Int32) (l2 : Int32) (l3 : Int32) (l4 : Int32) (l5 : Int32) (hp : mjH) : mjU := k28 l0 l1 l2 l3 l4 (l5 + (1 : Int32)) hp
theorem t_249_103 {X : mjX} {d C S kc ks : Nat} {R : mjR} (hR : mjC R d) (h1 : kc ≤ C) (h2 : ks ≤ S) {k2 : Nat → Int32 → Int32 → mjH → mjU} (hk2 : P_249_2 X (d + 1) C S kc ks k2) {k28 : Nat → Int32 → Int32 → Int32 → Int32 → Int32 → mjH → mjU} (hk28 : P_249_28 X (d + 1) C S kc ks k28) : P_249_103 X (d + 1) C S kc ks (b_249_103 R k2 k28) := by
  intro l0 l1 l2 l3 l4 l5 hp q h
  unfold b_249_103 at h
  refine mjq_iinc (x := l5) (c := (1 : Int32)) (lo' := [some (.ref l0), some (.int l1), some (.int l2), some (.int l3), some (.int l4), some (.int (l5 + (1 : Int32))), none]) D_249_103 rfl (Nat.le_of_ble_eq_true rfl) rfl rfl ?_
  refine mjr_goto (tgt := 28) D_249_106 rfl ?_
  exact hk28 _ _ _ _ _ _ _ _ h
noncomputable def b_249_83 (R : mjR) (k2 : Nat → Int32 → Int32 → mjH → mjU) (k28 : Nat → Int32 → Int32 → Int32 → Int32 → Int32 → mjH → mjU) (l0 : Nat) (l1 : Int32) (l2 : Int32) (l3 : Int32) (l4 : Int32) (l5 : Int32) (s0 : Int32) (hp : mjH) : mjU := (if s0 = 0 then b_249_103 R k2 k28 l0 l1 l2 l3 l4 l5 hp else (if s0 = l1 then b_249_103 R k2 k28 l0 l1 l2 l3 l4 l5 hp else rV hp l0 12 (bN (R 248 [.ref l0, .int s0, .int l2] hp) (fun  hp1 => b_249_103 R k2 k28 l0 l1 l2 l3 l4 l5 hp1))))
theorem t_249_83 {X : mjX} {d C S kc ks : Nat} {R : mjR} (hR : mjC R d) (h1 : kc ≤ C) (h2 : ks ≤ S) {k2 : Nat → Int32 → Int32 → mjH → mjU} (hk2 : P_249_2 X (d + 1) C S kc ks k2) {k28 : Nat → Int32 → Int32 → Int32 → Int32 → Int32 → mjH → mjU} (hk28 : P_249_28 X (d + 1) C S kc ks k28) : P_249_83 X (d + 1) C S kc ks (b_249_83 R k2 k28) := by
  intro l0 l1 l2 l3 l4 l5 s0 hp q h
  unfold b_249_83 at h
  refine mjq_istore (lo' := [some (.ref l0), some (.int l1), some (.int l2), some (.int l3), some (.int l4), some (.int l5), some (.int s0)]) D_249_83 (Nat.le_of_ble_eq_true rfl) rfl ?_
  refine mjr_iload (x := s0) D_249_85 rfl ?_
  refine mjq_if_eq (tgt := 103) D_249_87 rfl h (fun h => ?_) (fun h => ?_)
  · exact mjG.fg (lo' := [some (.ref l0), some (.int l1), some (.int l2), some (.int l3), some (.int l4), some (.int l5), none]) (And.intro rfl (And.intro rfl (And.intro rfl (And.intro rfl (And.intro rfl (And.intro rfl True.intro)))))) ((t_249_103 hR h1 h2 hk2 hk28) _ _ _ _ _ _ _ _ h)
  · refine mjr_iload (x := s0) D_249_90 rfl ?_
    refine mjr_iload_n (x := l1) D_249_92 rfl ?_
    refine mjq_icmp_eq (tgt := 103) D_249_93 rfl h (fun h => ?_) (fun h => ?_)
    · exact mjG.fg (lo' := [some (.ref l0), some (.int l1), some (.int l2), some (.int l3), some (.int l4), some (.int l5), none]) (And.intro rfl (And.intro rfl (And.intro rfl (And.intro rfl (And.intro rfl (And.intro rfl True.intro)))))) ((t_249_103 hR h1 h2 hk2 hk28) _ _ _ _ _ _ _ _ h)
    · refine mjr_aload_n (x := l0) D_249_96 rfl ?_
      refine mjr_iload (x := s0) D_249_97 rfl ?_
      refine mjr_iload_n (x := l2) D_249_99 rfl ?_
      refine mjq_vN (As := [.int s0, .int l2]) (rest := []) D_249_100 mr_12_717 V_248 rfl rfl rfl hR (Nat.le_refl _) h1 h2 h (fun  hp1 h => ?_)
      exact mjG.fg (lo' := [some (.ref l0), some (.int l1), some (.int l2), some (.int l3), some (.int l4), some (.int l5), none]) (And.intro rfl (And.intro rfl (And.intro rfl (And.intro rfl (And.intro rfl (And.intro rfl True.intro)))))) ((t_249_103 hR h1 h2 hk2 hk28) _ _ _ _ _ _ _ _ h)
noncomputable def b_249_28 (R : mjR) (k2 : Nat → Int32 → Int32 → mjH → mjU) (k28 : Nat → Int32 → Int32 → Int32 → Int32 → Int32 → mjH → mjU) (l0 : Nat) (l1 : Int32) (l2 : Int32) (l3 : Int32) (l4 : Int32) (l5 : Int32) (hp : mjH) : mjU := gR hp l0 12 20 (fun v1 => aI hp v1 l4 (fun v2 => (if v2 ≤ l5 then k2 l0 l1 (l2 + (1 : Int32)) hp else gR hp l0 12 131 (fun v3 => aB hp v3 (((400 : Int32) * l4) + l5) (fun v4 => (if v4 = 0 then b_249_83 R k2 k28 l0 l1 l2 l3 l4 l5 (0 : Int32) hp else gR hp l0 12 108 (fun v5 => gR hp l0 12 110 (fun v6 => aI hp v6 l3 (fun v7 => gR hp l0 12 15 (fun v8 => aI hp v8 l4 (fun v9 => aI hp v5 ((v7 + v9) + l5) (fun v10 => b_249_83 R k2 k28 l0 l1 l2 l3 l4 l5 v10 hp))))))))))))
theorem t_249_28 {X : mjX} {d C S kc ks : Nat} {R : mjR} (hR : mjC R d) (h1 : kc ≤ C) (h2 : ks ≤ S) {k2 : Nat → Int32 → Int32 → mjH → mjU} (hk2 : P_249_2 X (d + 1) C S kc ks k2) {k28 : Nat → Int32 → Int32 → Int32 → Int32 → Int32 → mjH → mjU} (hk28 : P_249_28 X (d + 1) C S kc ks k28) : P_249_28 X (d + 1) C S kc ks (b_249_28 R k2 k28) := by
  intro l0 l1 l2 l3 l4 l5 hp q h
  unfold b_249_28 at h
  refine mjr_iload (x := l5) D_249_28 rfl ?_
  refine mjr_aload_n (x := l0) D_249_30 rfl ?_
  refine mjq_gR D_249_31 fr_12_45 h (fun v1 h => ?_)
  refine mjr_iload (x := l4) D_249_34 rfl ?_
  refine mjq_aI D_249_36 h (fun v2 h => ?_)
  refine mjq_icmp_ge (tgt := 109) D_249_37 rfl h (fun h => ?_) (fun h => ?_)
  · refine mjq_iinc (x := l2) (c := (1 : Int32)) (lo' := [some (.ref l0), some (.int l1), some (.int (l2 + (1 : Int32))), some (.int l3), some (.int l4), some (.int l5), none]) D_249_109 rfl (Nat.le_of_ble_eq_true rfl) rfl rfl ?_
    refine mjr_goto (tgt := 2) D_249_112 rfl ?_
    exact mjG.fg (lo' := [some (.ref l0), some (.int l1), some (.int (l2 + (1 : Int32))), none, none, none, none]) (And.intro rfl (And.intro rfl (And.intro rfl True.intro))) (hk2 _ _ _ _ _ h)
  · refine mjr_aload_n (x := l0) D_249_40 rfl ?_
    refine mjq_gR D_249_41 fr_12_278 h (fun v3 h => ?_)
    refine mjq_si (v := (400 : Int32)) D_249_44 rfl ?_
    refine mjr_iload (x := l4) D_249_47 rfl ?_
    refine mjr_imul D_249_49 ?_
    refine mjr_iload (x := l5) D_249_50 rfl ?_
    refine mjr_iadd D_249_52 ?_
    refine mjq_aB D_249_53 h (fun v4 h => ?_)
    refine mjq_if_eq (tgt := 82) D_249_54 rfl h (fun h => ?_) (fun h => ?_)
    · refine mjq_ic (v := (0 : Int32)) D_249_82 rfl ?_
      exact (t_249_83 hR h1 h2 hk2 hk28) _ _ _ _ _ _ _ _ _ h
    · refine mjr_aload_n (x := l0) D_249_57 rfl ?_
      refine mjq_gR D_249_58 fr_12_230 h (fun v5 h => ?_)
      refine mjr_aload_n (x := l0) D_249_61 rfl ?_
      refine mjq_gR D_249_62 fr_12_236 h (fun v6 h => ?_)
      refine mjr_iload_n (x := l3) D_249_65 rfl ?_
      refine mjq_aI D_249_66 h (fun v7 h => ?_)
      refine mjr_aload_n (x := l0) D_249_67 rfl ?_
      refine mjq_gR D_249_68 fr_12_30 h (fun v8 h => ?_)
      refine mjr_iload (x := l4) D_249_71 rfl ?_
      refine mjq_aI D_249_73 h (fun v9 h => ?_)
      refine mjr_iadd D_249_74 ?_
      refine mjr_iload (x := l5) D_249_75 rfl ?_
      refine mjr_iadd D_249_77 ?_
      refine mjq_aI D_249_78 h (fun v10 h => ?_)
      refine mjr_goto (tgt := 83) D_249_79 rfl ?_
      exact (t_249_83 hR h1 h2 hk2 hk28) _ _ _ _ _ _ _ _ _ h
noncomputable def L_249_28 (R : mjR) (k2 : Nat → Int32 → Int32 → mjH → mjU) (n : Nat) : Nat → Int32 → Int32 → Int32 → Int32 → Int32 → mjH → mjU := Nat.rec (motive := fun _ => Nat → Int32 → Int32 → Int32 → Int32 → Int32 → mjH → mjU) (fun _ _ _ _ _ _ _ => none) (fun _ self => b_249_28 R k2 self) n
theorem T_249_28 {X : mjX} {d C S kc ks : Nat} {R : mjR} (hR : mjC R d) (h1 : kc ≤ C) (h2 : ks ≤ S) {k2 : Nat → Int32 → Int32 → mjH → mjU} (hk2 : P_249_2 X (d + 1) C S kc ks k2) (n : Nat) : P_249_28 X (d + 1) C S kc ks (L_249_28 R k2 n) := by
  induction n with
  | zero => intro _ _ _ _ _ _ _ _ h; exact mj_no h
  | succ n ih => exact t_249_28 hR h1 h2 hk2 ih
noncomputable def b_249_2 (R : mjR) (k2 : Nat → Int32 → Int32 → mjH → mjU) (l0 : Nat) (l1 : Int32) (l2 : Int32) (hp : mjH) : mjU := gI hp l0 12 124 (fun v1 => (if v1 ≤ l2 then some (none, hp) else gR hp l0 12 121 (fun v2 => aI hp v2 l2 (fun v3 => gR hp l0 12 109 (fun v4 => aI hp v4 v3 (fun v5 => L_249_28 R k2 mjN l0 l1 l2 v3 v5 (0 : Int32) hp))))))
theorem t_249_2 {X : mjX} {d C S kc ks : Nat} {R : mjR} (hR : mjC R d) (h1 : kc ≤ C) (h2 : ks ≤ S) {k2 : Nat → Int32 → Int32 → mjH → mjU} (hk2 : P_249_2 X (d + 1) C S kc ks k2) : P_249_2 X (d + 1) C S kc ks (b_249_2 R k2) := by
  intro l0 l1 l2 hp q h
  unfold b_249_2 at h
  refine mjr_iload_n (x := l2) D_249_2 rfl ?_
  refine mjr_aload_n (x := l0) D_249_3 rfl ?_
  refine mjq_gI D_249_4 fr_12_714 h (fun v1 h => ?_)
  refine mjq_icmp_ge (tgt := 115) D_249_7 rfl h (fun h => ?_) (fun h => ?_)
  · exact mjq_nret D_249_115 rfl h1 h2 h
  · refine mjr_aload_n (x := l0) D_249_10 rfl ?_
    refine mjq_gR D_249_11 fr_12_260 h (fun v2 h => ?_)
    refine mjr_iload_n (x := l2) D_249_14 rfl ?_
    refine mjq_aI D_249_15 h (fun v3 h => ?_)
    refine mjq_istore_n (lo' := [some (.ref l0), some (.int l1), some (.int l2), some (.int v3), none, none, none]) D_249_16 (Nat.le_of_ble_eq_true rfl) rfl ?_
    refine mjr_aload_n (x := l0) D_249_17 rfl ?_
    refine mjq_gR D_249_18 fr_12_233 h (fun v4 h => ?_)
    refine mjr_iload_n (x := v3) D_249_21 rfl ?_
    refine mjq_aI D_249_22 h (fun v5 h => ?_)
    refine mjq_istore (lo' := [some (.ref l0), some (.int l1), some (.int l2), some (.int v3), some (.int v5), none, none]) D_249_23 (Nat.le_of_ble_eq_true rfl) rfl ?_
    refine mjq_ic (v := (0 : Int32)) D_249_25 rfl ?_
    refine mjq_istore (lo' := [some (.ref l0), some (.int l1), some (.int l2), some (.int v3), some (.int v5), some (.int (0 : Int32)), none]) D_249_26 (Nat.le_of_ble_eq_true rfl) rfl ?_
    exact (T_249_28 hR h1 h2 hk2 mjN) _ _ _ _ _ _ _ _ h
noncomputable def L_249_2 (R : mjR) (n : Nat) : Nat → Int32 → Int32 → mjH → mjU := Nat.rec (motive := fun _ => Nat → Int32 → Int32 → mjH → mjU) (fun _ _ _ _ => none) (fun _ self => b_249_2 R self) n
theorem T_249_2 {X : mjX} {d C S kc ks : Nat} {R : mjR} (hR : mjC R d) (h1 : kc ≤ C) (h2 : ks ≤ S) (n : Nat) : P_249_2 X (d + 1) C S kc ks (L_249_2 R n) := by
  induction n with
  | zero => intro _ _ _ _ _ h; exact mj_no h
  | succ n ih => exact t_249_2 hR h1 h2 ih
noncomputable def b_249_0 (R : mjR) (l0 : Nat) (l1 : Int32) (hp : mjH) : mjU := L_249_2 R mjN l0 l1 (0 : Int32) hp
theorem t_249_0 {X : mjX} {d C S kc ks : Nat} {R : mjR} (hR : mjC R d) (h1 : kc ≤ C) (h2 : ks ≤ S) : P_249_0 X (d + 1) C S kc ks (b_249_0 R) := by
  intro l0 l1 hp q h
  unfold b_249_0 at h
  refine mjq_ic (v := (0 : Int32)) D_249_0 rfl ?_
  refine mjq_istore_n (lo' := [some (.ref l0), some (.int l1), some (.int (0 : Int32)), none, none, none, none]) D_249_1 (Nat.le_of_ble_eq_true rfl) rfl ?_
  exact (T_249_2 hR h1 h2 mjN) _ _ _ _ _ h
noncomputable def f_249 (R : mjR) (a0 : Nat) (a1 : Int32) (hp : mjH) : mjU := b_249_0 R a0 a1 hp
theorem c_249 {R : mjR} {d : Nat} (hR : mjC R d) {a0 : Nat} {a1 : Int32} {hp : mjH} {q : Option Value × mjH} (h : f_249 R a0 a1 hp = some q) : mjM (d + 1) 0 0 249 [.ref a0, .int a1] hp (mjEq q) :=
  mjM_of Ja_249 (Nat.le_of_ble_eq_true rfl) (mjG.fg (lo' := [some (.ref a0), some (.int a1), none, none, none, none, none]) (And.intro rfl (And.intro rfl True.intro)) ((t_249_0 hR (Nat.le_refl 0) (Nat.le_refl 0)) a0 a1 hp q h))
def J_250 : mjI := (⟨"OwnerHeapModel", "placeOf", "(I)I"⟩, 12, prog_14_method_102_code, 3, (some .int), 1, false)
theorem Ja_250 : mjMt 250 = some J_250 := by rfl
theorem D_250_0 : decode J_250.2.2.1 0 = .ok (.iconst 0, 1) := dzq_3 (by decide +kernel)
theorem D_250_1 : decode J_250.2.2.1 1 = .ok (.istore_n 2, 1) := dzq_61 (by decide +kernel)
theorem D_250_2 : decode J_250.2.2.1 2 = .ok (.iload_n 2, 1) := dzq_28 (by decide +kernel)
theorem D_250_3 : decode J_250.2.2.1 3 = .ok (.aload_n 0, 1) := dzq_42 (by decide +kernel)
theorem D_250_4 : decode J_250.2.2.1 4 = .ok (.getfield 714, 3) := dzq_180 (by decide +kernel)
theorem D_250_7 : decode J_250.2.2.1 7 = .ok (.if_icmp .ge 21, 3) := dzq_162 (by decide +kernel)
theorem D_250_10 : decode J_250.2.2.1 10 = .ok (.aload_n 0, 1) := dzq_42 (by decide +kernel)
theorem D_250_11 : decode J_250.2.2.1 11 = .ok (.getfield 260, 3) := dzq_180 (by decide +kernel)
theorem D_250_14 : decode J_250.2.2.1 14 = .ok (.iload_n 2, 1) := dzq_28 (by decide +kernel)
theorem D_250_15 : decode J_250.2.2.1 15 = .ok (.iaload, 1) := dzq_46 (by decide +kernel)
theorem D_250_16 : decode J_250.2.2.1 16 = .ok (.iload_n 1, 1) := dzq_27 (by decide +kernel)
theorem D_250_17 : decode J_250.2.2.1 17 = .ok (.if_icmp .ne 5, 3) := dzq_160 (by decide +kernel)
theorem D_250_20 : decode J_250.2.2.1 20 = .ok (.iload_n 2, 1) := dzq_28 (by decide +kernel)
theorem D_250_21 : decode J_250.2.2.1 21 = .ok (.ireturn, 1) := dzq_172 (by decide +kernel)
theorem D_250_22 : decode J_250.2.2.1 22 = .ok (.iinc 2 1, 3) := dzq_132 (by decide +kernel)
theorem D_250_25 : decode J_250.2.2.1 25 = .ok (.goto (-23), 3) := dzq_167 (by decide +kernel)
theorem D_250_28 : decode J_250.2.2.1 28 = .ok (.iconst (-1), 1) := dzq_2 (by decide +kernel)
theorem D_250_29 : decode J_250.2.2.1 29 = .ok (.ireturn, 1) := dzq_172 (by decide +kernel)
def P_250_2 (X : mjX) (d C S kc ks : Nat) (k : Nat → Int32 → Int32 → mjH → mjU) : Prop := ∀ (l0 : Nat) (l1 : Int32) (l2 : Int32) (hp : mjH) (q : Option Value × mjH), k l0 l1 l2 hp = some q → mjG X d C S J_250 (mjEq q) 2 [some (.ref l0), some (.int l1), some (.int l2)] [] hp kc ks
def P_250_0 (X : mjX) (d C S kc ks : Nat) (k : Nat → Int32 → mjH → mjU) : Prop := ∀ (l0 : Nat) (l1 : Int32) (hp : mjH) (q : Option Value × mjH), k l0 l1 hp = some q → mjG X d C S J_250 (mjEq q) 0 [some (.ref l0), some (.int l1), none] [] hp kc ks
noncomputable def b_250_2 (R : mjR) (k2 : Nat → Int32 → Int32 → mjH → mjU) (l0 : Nat) (l1 : Int32) (l2 : Int32) (hp : mjH) : mjU := gI hp l0 12 124 (fun v1 => (if v1 ≤ l2 then some (some (.int (-1 : Int32)), hp) else gR hp l0 12 121 (fun v2 => aI hp v2 l2 (fun v3 => (if v3 = l1 then some (some (.int l2), hp) else k2 l0 l1 (l2 + (1 : Int32)) hp)))))
theorem t_250_2 {X : mjX} {d C S kc ks : Nat} {R : mjR} (hR : mjC R d) (h1 : kc ≤ C) (h2 : ks ≤ S) {k2 : Nat → Int32 → Int32 → mjH → mjU} (hk2 : P_250_2 X (d + 1) C S kc ks k2) : P_250_2 X (d + 1) C S kc ks (b_250_2 R k2) := by
  intro l0 l1 l2 hp q h
  unfold b_250_2 at h
  refine mjr_iload_n (x := l2) D_250_2 rfl ?_
  refine mjr_aload_n (x := l0) D_250_3 rfl ?_
  refine mjq_gI D_250_4 fr_12_714 h (fun v1 h => ?_)
  refine mjq_icmp_ge (tgt := 28) D_250_7 rfl h (fun h => ?_) (fun h => ?_)
  · refine mjq_ic (v := (-1 : Int32)) D_250_28 rfl ?_
    exact mjq_ret D_250_29 rfl h1 h2 h
  · refine mjr_aload_n (x := l0) D_250_10 rfl ?_
    refine mjq_gR D_250_11 fr_12_260 h (fun v2 h => ?_)
    refine mjr_iload_n (x := l2) D_250_14 rfl ?_
    refine mjq_aI D_250_15 h (fun v3 h => ?_)
    refine mjr_iload_n (x := l1) D_250_16 rfl ?_
    refine mjq_icmp_ne (tgt := 22) D_250_17 rfl h (fun h => ?_) (fun h => ?_)
    · refine mjq_iinc (x := l2) (c := (1 : Int32)) (lo' := [some (.ref l0), some (.int l1), some (.int (l2 + (1 : Int32)))]) D_250_22 rfl (Nat.le_of_ble_eq_true rfl) rfl rfl ?_
      refine mjr_goto (tgt := 2) D_250_25 rfl ?_
      exact hk2 _ _ _ _ _ h
    · refine mjr_iload_n (x := l2) D_250_20 rfl ?_
      exact mjq_ret D_250_21 rfl h1 h2 h
noncomputable def L_250_2 (R : mjR) (n : Nat) : Nat → Int32 → Int32 → mjH → mjU := Nat.rec (motive := fun _ => Nat → Int32 → Int32 → mjH → mjU) (fun _ _ _ _ => none) (fun _ self => b_250_2 R self) n
theorem T_250_2 {X : mjX} {d C S kc ks : Nat} {R : mjR} (hR : mjC R d) (h1 : kc ≤ C) (h2 : ks ≤ S) (n : Nat) : P_250_2 X (d + 1) C S kc ks (L_250_2 R n) := by
  induction n with
  | zero => intro _ _ _ _ _ h; exact mj_no h
  | succ n ih => exact t_250_2 hR h1 h2 ih
noncomputable def b_250_0 (R : mjR) (l0 : Nat) (l1 : Int32) (hp : mjH) : mjU := L_250_2 R mjN l0 l1 (0 : Int32) hp
theorem t_250_0 {X : mjX} {d C S kc ks : Nat} {R : mjR} (hR : mjC R d) (h1 : kc ≤ C) (h2 : ks ≤ S) : P_250_0 X (d + 1) C S kc ks (b_250_0 R) := by
  intro l0 l1 hp q h
  unfold b_250_0 at h
  refine mjq_ic (v := (0 : Int32)) D_250_0 rfl ?_
  refine mjq_istore_n (lo' := [some (.ref l0), some (.int l1), some (.int (0 : Int32))]) D_250_1 (Nat.le_of_ble_eq_true rfl) rfl ?_
  exact (T_250_2 hR h1 h2 mjN) _ _ _ _ _ h
noncomputable def f_250 (R : mjR) (a0 : Nat) (a1 : Int32) (hp : mjH) : mjU := b_250_0 R a0 a1 hp
theorem c_250 {R : mjR} {d : Nat} (hR : mjC R d) {a0 : Nat} {a1 : Int32} {hp : mjH} {q : Option Value × mjH} (h : f_250 R a0 a1 hp = some q) : mjM (d + 1) 0 0 250 [.ref a0, .int a1] hp (mjEq q) :=
  mjM_of Ja_250 (Nat.le_of_ble_eq_true rfl) (mjG.fg (lo' := [some (.ref a0), some (.int a1), none]) (And.intro rfl (And.intro rfl True.intro)) ((t_250_0 hR (Nat.le_refl 0) (Nat.le_refl 0)) a0 a1 hp q h))
def J_251 : mjI := (⟨"OwnerHeapModel", "leaks", "()I"⟩, 12, prog_14_method_104_code, 1, (some .int), 0, false)
theorem Ja_251 : mjMt 251 = some J_251 := by rfl
theorem D_251_0 : decode J_251.2.2.1 0 = .ok (.aload_n 0, 1) := dzq_42 (by decide +kernel)
theorem D_251_1 : decode J_251.2.2.1 1 = .ok (.getfield 636, 3) := dzq_180 (by decide +kernel)
theorem D_251_4 : decode J_251.2.2.1 4 = .ok (.ifCond .ne 5, 3) := dzq_154 (by decide +kernel)
theorem D_251_7 : decode J_251.2.2.1 7 = .ok (.iconst 0, 1) := dzq_3 (by decide +kernel)
theorem D_251_8 : decode J_251.2.2.1 8 = .ok (.ireturn, 1) := dzq_172 (by decide +kernel)
theorem D_251_9 : decode J_251.2.2.1 9 = .ok (.aload_n 0, 1) := dzq_42 (by decide +kernel)
theorem D_251_10 : decode J_251.2.2.1 10 = .ok (.invokevirtual 735, 3) := dzq_182 (by decide +kernel)
theorem D_251_13 : decode J_251.2.2.1 13 = .ok (.aload_n 0, 1) := dzq_42 (by decide +kernel)
theorem D_251_14 : decode J_251.2.2.1 14 = .ok (.getfield 738, 3) := dzq_180 (by decide +kernel)
theorem D_251_17 : decode J_251.2.2.1 17 = .ok (.ireturn, 1) := dzq_172 (by decide +kernel)
def P_251_0 (X : mjX) (d C S kc ks : Nat) (k : Nat → mjH → mjU) : Prop := ∀ (l0 : Nat) (hp : mjH) (q : Option Value × mjH), k l0 hp = some q → mjG X d C S J_251 (mjEq q) 0 [some (.ref l0)] [] hp kc ks
noncomputable def b_251_0 (R : mjR) (l0 : Nat) (hp : mjH) : mjU := gI hp l0 12 96 (fun v1 => (if v1 = 0 then some (some (.int (0 : Int32)), hp) else rV hp l0 12 (bN (R 252 [.ref l0] hp) (fun  hp2 => gI hp2 l0 12 127 (fun v3 => some (some (.int v3), hp2))))))
theorem t_251_0 {X : mjX} {d C S kc ks : Nat} {R : mjR} (hR : mjC R d) (h1 : kc ≤ C) (h2 : ks ≤ S) : P_251_0 X (d + 1) C S kc ks (b_251_0 R) := by
  intro l0 hp q h
  unfold b_251_0 at h
  refine mjr_aload_n (x := l0) D_251_0 rfl ?_
  refine mjq_gI D_251_1 fr_12_636 h (fun v1 h => ?_)
  refine mjq_if_ne (tgt := 9) D_251_4 rfl h (fun h => ?_) (fun h => ?_)
  · refine mjr_aload_n (x := l0) D_251_9 rfl ?_
    refine mjq_vN (As := []) (rest := []) D_251_10 mr_12_735 V_252 rfl rfl rfl hR (Nat.le_refl _) h1 h2 h (fun  hp2 h => ?_)
    refine mjr_aload_n (x := l0) D_251_13 rfl ?_
    refine mjq_gI D_251_14 fr_12_738 h (fun v3 h => ?_)
    exact mjq_ret D_251_17 rfl h1 h2 h
  · refine mjq_ic (v := (0 : Int32)) D_251_7 rfl ?_
    exact mjq_ret D_251_8 rfl h1 h2 h
noncomputable def f_251 (R : mjR) (a0 : Nat) (hp : mjH) : mjU := b_251_0 R a0 hp
theorem c_251 {R : mjR} {d : Nat} (hR : mjC R d) {a0 : Nat} {hp : mjH} {q : Option Value × mjH} (h : f_251 R a0 hp = some q) : mjM (d + 1) 0 0 251 [.ref a0] hp (mjEq q) :=
  mjM_of Ja_251 (Nat.le_of_ble_eq_true rfl) (mjG.fg (lo' := [some (.ref a0)]) (And.intro rfl True.intro) ((t_251_0 hR (Nat.le_refl 0) (Nat.le_refl 0)) a0 hp q h))
def J_252 : mjI := (⟨"OwnerHeapModel", "looks", "()V"⟩, 12, prog_14_method_105_code, 3, none, 0, false)
theorem Ja_252 : mjMt 252 = some J_252 := by rfl
theorem D_252_0 : decode J_252.2.2.1 0 = .ok (.aload_n 0, 1) := dzq_42 (by decide +kernel)
theorem D_252_1 : decode J_252.2.2.1 1 = .ok (.getfield 645, 3) := dzq_180 (by decide +kernel)
theorem D_252_4 : decode J_252.2.2.1 4 = .ok (.ifCond .eq 4, 3) := dzq_153 (by decide +kernel)
theorem D_252_7 : decode J_252.2.2.1 7 = .ok (.return_, 1) := dzq_177 (by decide +kernel)
theorem D_252_8 : decode J_252.2.2.1 8 = .ok (.aload_n 0, 1) := dzq_42 (by decide +kernel)
theorem D_252_9 : decode J_252.2.2.1 9 = .ok (.iconst 1, 1) := dzq_4 (by decide +kernel)
theorem D_252_10 : decode J_252.2.2.1 10 = .ok (.putfield 645, 3) := dzq_181 (by decide +kernel)
theorem D_252_13 : decode J_252.2.2.1 13 = .ok (.aload_n 0, 1) := dzq_42 (by decide +kernel)
theorem D_252_14 : decode J_252.2.2.1 14 = .ok (.iconst 0, 1) := dzq_3 (by decide +kernel)
theorem D_252_15 : decode J_252.2.2.1 15 = .ok (.putfield 738, 3) := dzq_181 (by decide +kernel)
theorem D_252_18 : decode J_252.2.2.1 18 = .ok (.iconst 0, 1) := dzq_3 (by decide +kernel)
theorem D_252_19 : decode J_252.2.2.1 19 = .ok (.istore_n 1, 1) := dzq_60 (by decide +kernel)
theorem D_252_20 : decode J_252.2.2.1 20 = .ok (.iload_n 1, 1) := dzq_27 (by decide +kernel)
theorem D_252_21 : decode J_252.2.2.1 21 = .ok (.aload_n 0, 1) := dzq_42 (by decide +kernel)
theorem D_252_22 : decode J_252.2.2.1 22 = .ok (.getfield 699, 3) := dzq_180 (by decide +kernel)
theorem D_252_25 : decode J_252.2.2.1 25 = .ok (.if_icmp .gt 16, 3) := dzq_163 (by decide +kernel)
theorem D_252_28 : decode J_252.2.2.1 28 = .ok (.aload_n 0, 1) := dzq_42 (by decide +kernel)
theorem D_252_29 : decode J_252.2.2.1 29 = .ok (.getfield 269, 3) := dzq_180 (by decide +kernel)
theorem D_252_32 : decode J_252.2.2.1 32 = .ok (.iload_n 1, 1) := dzq_27 (by decide +kernel)
theorem D_252_33 : decode J_252.2.2.1 33 = .ok (.iconst 0, 1) := dzq_3 (by decide +kernel)
theorem D_252_34 : decode J_252.2.2.1 34 = .ok (.bastore, 1) := by decide +kernel
theorem D_252_35 : decode J_252.2.2.1 35 = .ok (.iinc 1 1, 3) := dzq_132 (by decide +kernel)
theorem D_252_38 : decode J_252.2.2.1 38 = .ok (.goto (-18), 3) := dzq_167 (by decide +kernel)
theorem D_252_41 : decode J_252.2.2.1 41 = .ok (.iconst 0, 1) := dzq_3 (by decide +kernel)
theorem D_252_42 : decode J_252.2.2.1 42 = .ok (.istore_n 1, 1) := dzq_60 (by decide +kernel)
theorem D_252_43 : decode J_252.2.2.1 43 = .ok (.iload_n 1, 1) := dzq_27 (by decide +kernel)
theorem D_252_44 : decode J_252.2.2.1 44 = .ok (.aload_n 0, 1) := dzq_42 (by decide +kernel)
theorem D_252_45 : decode J_252.2.2.1 45 = .ok (.getfield 699, 3) := dzq_180 (by decide +kernel)
theorem D_252_48 : decode J_252.2.2.1 48 = .ok (.if_icmp .gt 16, 3) := dzq_163 (by decide +kernel)
theorem D_252_51 : decode J_252.2.2.1 51 = .ok (.aload_n 0, 1) := dzq_42 (by decide +kernel)
theorem D_252_52 : decode J_252.2.2.1 52 = .ok (.getfield 284, 3) := dzq_180 (by decide +kernel)
theorem D_252_55 : decode J_252.2.2.1 55 = .ok (.iload_n 1, 1) := dzq_27 (by decide +kernel)
theorem D_252_56 : decode J_252.2.2.1 56 = .ok (.iconst 0, 1) := dzq_3 (by decide +kernel)
theorem D_252_57 : decode J_252.2.2.1 57 = .ok (.bastore, 1) := by decide +kernel
theorem D_252_58 : decode J_252.2.2.1 58 = .ok (.iinc 1 1, 3) := dzq_132 (by decide +kernel)
theorem D_252_61 : decode J_252.2.2.1 61 = .ok (.goto (-18), 3) := dzq_167 (by decide +kernel)
theorem D_252_64 : decode J_252.2.2.1 64 = .ok (.iconst 1, 1) := dzq_4 (by decide +kernel)
theorem D_252_65 : decode J_252.2.2.1 65 = .ok (.istore_n 1, 1) := dzq_60 (by decide +kernel)
theorem D_252_66 : decode J_252.2.2.1 66 = .ok (.iload_n 1, 1) := dzq_27 (by decide +kernel)
theorem D_252_67 : decode J_252.2.2.1 67 = .ok (.aload_n 0, 1) := dzq_42 (by decide +kernel)
theorem D_252_68 : decode J_252.2.2.1 68 = .ok (.getfield 699, 3) := dzq_180 (by decide +kernel)
theorem D_252_71 : decode J_252.2.2.1 71 = .ok (.if_icmp .gt 20, 3) := dzq_163 (by decide +kernel)
theorem D_252_74 : decode J_252.2.2.1 74 = .ok (.aload_n 0, 1) := dzq_42 (by decide +kernel)
theorem D_252_75 : decode J_252.2.2.1 75 = .ok (.getfield 284, 3) := dzq_180 (by decide +kernel)
theorem D_252_78 : decode J_252.2.2.1 78 = .ok (.aload_n 0, 1) := dzq_42 (by decide +kernel)
theorem D_252_79 : decode J_252.2.2.1 79 = .ok (.iload_n 1, 1) := dzq_27 (by decide +kernel)
theorem D_252_80 : decode J_252.2.2.1 80 = .ok (.invokevirtual 723, 3) := dzq_182 (by decide +kernel)
theorem D_252_83 : decode J_252.2.2.1 83 = .ok (.iconst 1, 1) := dzq_4 (by decide +kernel)
theorem D_252_84 : decode J_252.2.2.1 84 = .ok (.bastore, 1) := by decide +kernel
theorem D_252_85 : decode J_252.2.2.1 85 = .ok (.iinc 1 1, 3) := dzq_132 (by decide +kernel)
theorem D_252_88 : decode J_252.2.2.1 88 = .ok (.goto (-22), 3) := dzq_167 (by decide +kernel)
theorem D_252_91 : decode J_252.2.2.1 91 = .ok (.iconst 1, 1) := dzq_4 (by decide +kernel)
theorem D_252_92 : decode J_252.2.2.1 92 = .ok (.istore_n 1, 1) := dzq_60 (by decide +kernel)
theorem D_252_93 : decode J_252.2.2.1 93 = .ok (.iload_n 1, 1) := dzq_27 (by decide +kernel)
theorem D_252_94 : decode J_252.2.2.1 94 = .ok (.aload_n 0, 1) := dzq_42 (by decide +kernel)
theorem D_252_95 : decode J_252.2.2.1 95 = .ok (.getfield 699, 3) := dzq_180 (by decide +kernel)
theorem D_252_98 : decode J_252.2.2.1 98 = .ok (.if_icmp .gt 67, 3) := dzq_163 (by decide +kernel)
theorem D_252_101 : decode J_252.2.2.1 101 = .ok (.aload_n 0, 1) := dzq_42 (by decide +kernel)
theorem D_252_102 : decode J_252.2.2.1 102 = .ok (.getfield 284, 3) := dzq_180 (by decide +kernel)
theorem D_252_105 : decode J_252.2.2.1 105 = .ok (.iload_n 1, 1) := dzq_27 (by decide +kernel)
theorem D_252_106 : decode J_252.2.2.1 106 = .ok (.baload, 1) := dzq_51 (by decide +kernel)
theorem D_252_107 : decode J_252.2.2.1 107 = .ok (.ifCond .ne 6, 3) := dzq_154 (by decide +kernel)
theorem D_252_110 : decode J_252.2.2.1 110 = .ok (.goto 49, 3) := dzq_167 (by decide +kernel)
theorem D_252_113 : decode J_252.2.2.1 113 = .ok (.aload_n 0, 1) := dzq_42 (by decide +kernel)
theorem D_252_114 : decode J_252.2.2.1 114 = .ok (.iload_n 1, 1) := dzq_27 (by decide +kernel)
theorem D_252_115 : decode J_252.2.2.1 115 = .ok (.invokevirtual 741, 3) := dzq_182 (by decide +kernel)
theorem D_252_118 : decode J_252.2.2.1 118 = .ok (.iconst 1, 1) := dzq_4 (by decide +kernel)
theorem D_252_119 : decode J_252.2.2.1 119 = .ok (.istore_n 2, 1) := dzq_61 (by decide +kernel)
theorem D_252_120 : decode J_252.2.2.1 120 = .ok (.iload_n 2, 1) := dzq_28 (by decide +kernel)
theorem D_252_121 : decode J_252.2.2.1 121 = .ok (.aload_n 0, 1) := dzq_42 (by decide +kernel)
theorem D_252_122 : decode J_252.2.2.1 122 = .ok (.getfield 699, 3) := dzq_180 (by decide +kernel)
theorem D_252_125 : decode J_252.2.2.1 125 = .ok (.if_icmp .gt 34, 3) := dzq_163 (by decide +kernel)
theorem D_252_128 : decode J_252.2.2.1 128 = .ok (.aload_n 0, 1) := dzq_42 (by decide +kernel)
theorem D_252_129 : decode J_252.2.2.1 129 = .ok (.iload_n 2, 1) := dzq_28 (by decide +kernel)
theorem D_252_130 : decode J_252.2.2.1 130 = .ok (.invokevirtual 723, 3) := dzq_182 (by decide +kernel)
theorem D_252_133 : decode J_252.2.2.1 133 = .ok (.iload_n 1, 1) := dzq_27 (by decide +kernel)
theorem D_252_134 : decode J_252.2.2.1 134 = .ok (.if_icmp .ne 19, 3) := dzq_160 (by decide +kernel)
theorem D_252_137 : decode J_252.2.2.1 137 = .ok (.aload_n 0, 1) := dzq_42 (by decide +kernel)
theorem D_252_138 : decode J_252.2.2.1 138 = .ok (.getfield 257, 3) := dzq_180 (by decide +kernel)
theorem D_252_141 : decode J_252.2.2.1 141 = .ok (.iload_n 2, 1) := dzq_28 (by decide +kernel)
theorem D_252_142 : decode J_252.2.2.1 142 = .ok (.baload, 1) := dzq_51 (by decide +kernel)
theorem D_252_143 : decode J_252.2.2.1 143 = .ok (.ifCond .eq 10, 3) := dzq_153 (by decide +kernel)
theorem D_252_146 : decode J_252.2.2.1 146 = .ok (.aload_n 0, 1) := dzq_42 (by decide +kernel)
theorem D_252_147 : decode J_252.2.2.1 147 = .ok (.getfield 269, 3) := dzq_180 (by decide +kernel)
theorem D_252_150 : decode J_252.2.2.1 150 = .ok (.iload_n 2, 1) := dzq_28 (by decide +kernel)
theorem D_252_151 : decode J_252.2.2.1 151 = .ok (.iconst 1, 1) := dzq_4 (by decide +kernel)
theorem D_252_152 : decode J_252.2.2.1 152 = .ok (.bastore, 1) := by decide +kernel
theorem D_252_153 : decode J_252.2.2.1 153 = .ok (.iinc 2 1, 3) := dzq_132 (by decide +kernel)
theorem D_252_156 : decode J_252.2.2.1 156 = .ok (.goto (-36), 3) := dzq_167 (by decide +kernel)
theorem D_252_159 : decode J_252.2.2.1 159 = .ok (.iinc 1 1, 3) := dzq_132 (by decide +kernel)
theorem D_252_162 : decode J_252.2.2.1 162 = .ok (.goto (-69), 3) := dzq_167 (by decide +kernel)
theorem D_252_165 : decode J_252.2.2.1 165 = .ok (.iconst 1, 1) := dzq_4 (by decide +kernel)
theorem D_252_166 : decode J_252.2.2.1 166 = .ok (.istore_n 1, 1) := dzq_60 (by decide +kernel)
theorem D_252_167 : decode J_252.2.2.1 167 = .ok (.iload_n 1, 1) := dzq_27 (by decide +kernel)
theorem D_252_168 : decode J_252.2.2.1 168 = .ok (.aload_n 0, 1) := dzq_42 (by decide +kernel)
theorem D_252_169 : decode J_252.2.2.1 169 = .ok (.getfield 699, 3) := dzq_180 (by decide +kernel)
theorem D_252_172 : decode J_252.2.2.1 172 = .ok (.if_icmp .gt 32, 3) := dzq_163 (by decide +kernel)
theorem D_252_175 : decode J_252.2.2.1 175 = .ok (.aload_n 0, 1) := dzq_42 (by decide +kernel)
theorem D_252_176 : decode J_252.2.2.1 176 = .ok (.dup, 1) := dzq_89 (by decide +kernel)
theorem D_252_177 : decode J_252.2.2.1 177 = .ok (.getfield 738, 3) := dzq_180 (by decide +kernel)
theorem D_252_180 : decode J_252.2.2.1 180 = .ok (.aload_n 0, 1) := dzq_42 (by decide +kernel)
theorem D_252_181 : decode J_252.2.2.1 181 = .ok (.getfield 269, 3) := dzq_180 (by decide +kernel)
theorem D_252_184 : decode J_252.2.2.1 184 = .ok (.iload_n 1, 1) := dzq_27 (by decide +kernel)
theorem D_252_185 : decode J_252.2.2.1 185 = .ok (.baload, 1) := dzq_51 (by decide +kernel)
theorem D_252_186 : decode J_252.2.2.1 186 = .ok (.ifCond .eq 7, 3) := dzq_153 (by decide +kernel)
theorem D_252_189 : decode J_252.2.2.1 189 = .ok (.iconst 1, 1) := dzq_4 (by decide +kernel)
theorem D_252_190 : decode J_252.2.2.1 190 = .ok (.goto 4, 3) := dzq_167 (by decide +kernel)
theorem D_252_193 : decode J_252.2.2.1 193 = .ok (.iconst 0, 1) := dzq_3 (by decide +kernel)
theorem D_252_194 : decode J_252.2.2.1 194 = .ok (.iadd, 1) := dzq_96 (by decide +kernel)
theorem D_252_195 : decode J_252.2.2.1 195 = .ok (.putfield 738, 3) := dzq_181 (by decide +kernel)
theorem D_252_198 : decode J_252.2.2.1 198 = .ok (.iinc 1 1, 3) := dzq_132 (by decide +kernel)
theorem D_252_201 : decode J_252.2.2.1 201 = .ok (.goto (-34), 3) := dzq_167 (by decide +kernel)
theorem D_252_204 : decode J_252.2.2.1 204 = .ok (.return_, 1) := dzq_177 (by decide +kernel)
def P_252_194 (X : mjX) (d C S kc ks : Nat) (k : Nat → Int32 → Nat → Int32 → Int32 → mjH → mjU) : Prop := ∀ (l0 : Nat) (l1 : Int32) (s0 : Nat) (s1 : Int32) (s2 : Int32) (hp : mjH) (q : Option Value × mjH), k l0 l1 s0 s1 s2 hp = some q → mjG X d C S J_252 (mjEq q) 194 [some (.ref l0), some (.int l1), none] [.int s2, .int s1, .ref s0] hp kc ks
def P_252_167 (X : mjX) (d C S kc ks : Nat) (k : Nat → Int32 → mjH → mjU) : Prop := ∀ (l0 : Nat) (l1 : Int32) (hp : mjH) (q : Option Value × mjH), k l0 l1 hp = some q → mjG X d C S J_252 (mjEq q) 167 [some (.ref l0), some (.int l1), none] [] hp kc ks
def P_252_159 (X : mjX) (d C S kc ks : Nat) (k : Nat → Int32 → mjH → mjU) : Prop := ∀ (l0 : Nat) (l1 : Int32) (hp : mjH) (q : Option Value × mjH), k l0 l1 hp = some q → mjG X d C S J_252 (mjEq q) 159 [some (.ref l0), some (.int l1), none] [] hp kc ks
def P_252_153 (X : mjX) (d C S kc ks : Nat) (k : Nat → Int32 → Int32 → mjH → mjU) : Prop := ∀ (l0 : Nat) (l1 : Int32) (l2 : Int32) (hp : mjH) (q : Option Value × mjH), k l0 l1 l2 hp = some q → mjG X d C S J_252 (mjEq q) 153 [some (.ref l0), some (.int l1), some (.int l2)] [] hp kc ks
def P_252_120 (X : mjX) (d C S kc ks : Nat) (k : Nat → Int32 → Int32 → mjH → mjU) : Prop := ∀ (l0 : Nat) (l1 : Int32) (l2 : Int32) (hp : mjH) (q : Option Value × mjH), k l0 l1 l2 hp = some q → mjG X d C S J_252 (mjEq q) 120 [some (.ref l0), some (.int l1), some (.int l2)] [] hp kc ks
def P_252_93 (X : mjX) (d C S kc ks : Nat) (k : Nat → Int32 → mjH → mjU) : Prop := ∀ (l0 : Nat) (l1 : Int32) (hp : mjH) (q : Option Value × mjH), k l0 l1 hp = some q → mjG X d C S J_252 (mjEq q) 93 [some (.ref l0), some (.int l1), none] [] hp kc ks
def P_252_66 (X : mjX) (d C S kc ks : Nat) (k : Nat → Int32 → mjH → mjU) : Prop := ∀ (l0 : Nat) (l1 : Int32) (hp : mjH) (q : Option Value × mjH), k l0 l1 hp = some q → mjG X d C S J_252 (mjEq q) 66 [some (.ref l0), some (.int l1), none] [] hp kc ks
def P_252_43 (X : mjX) (d C S kc ks : Nat) (k : Nat → Int32 → mjH → mjU) : Prop := ∀ (l0 : Nat) (l1 : Int32) (hp : mjH) (q : Option Value × mjH), k l0 l1 hp = some q → mjG X d C S J_252 (mjEq q) 43 [some (.ref l0), some (.int l1), none] [] hp kc ks
def P_252_20 (X : mjX) (d C S kc ks : Nat) (k : Nat → Int32 → mjH → mjU) : Prop := ∀ (l0 : Nat) (l1 : Int32) (hp : mjH) (q : Option Value × mjH), k l0 l1 hp = some q → mjG X d C S J_252 (mjEq q) 20 [some (.ref l0), some (.int l1), none] [] hp kc ks
def P_252_0 (X : mjX) (d C S kc ks : Nat) (k : Nat → mjH → mjU) : Prop := ∀ (l0 : Nat) (hp : mjH) (q : Option Value × mjH), k l0 hp = some q → mjG X d C S J_252 (mjEq q) 0 [some (.ref l0), none, none] [] hp kc ks
noncomputable def b_252_194 (R : mjR) (k167 : Nat → Int32 → mjH → mjU) (l0 : Nat) (l1 : Int32) (s0 : Nat) (s1 : Int32) (s2 : Int32) (hp : mjH) : mjU := pI hp s0 12 127 (s1 + s2) (fun hp1 => k167 l0 (l1 + (1 : Int32)) hp1)
theorem t_252_194 {X : mjX} {d C S kc ks : Nat} {R : mjR} (hR : mjC R d) (h1 : kc ≤ C) (h2 : ks ≤ S) {k167 : Nat → Int32 → mjH → mjU} (hk167 : P_252_167 X (d + 1) C S kc ks k167) : P_252_194 X (d + 1) C S kc ks (b_252_194 R k167) := by
  intro l0 l1 s0 s1 s2 hp q h
  unfold b_252_194 at h
  refine mjr_iadd D_252_194 ?_
  refine mjq_pI D_252_195 fr_12_738 rfl rfl h (fun hp1 h => ?_)
  refine mjq_iinc (x := l1) (c := (1 : Int32)) (lo' := [some (.ref l0), some (.int (l1 + (1 : Int32))), none]) D_252_198 rfl (Nat.le_of_ble_eq_true rfl) rfl rfl ?_
  refine mjr_goto (tgt := 167) D_252_201 rfl ?_
  exact hk167 _ _ _ _ h
noncomputable def b_252_167 (R : mjR) (k167 : Nat → Int32 → mjH → mjU) (l0 : Nat) (l1 : Int32) (hp : mjH) : mjU := gI hp l0 12 103 (fun v1 => (if v1 < l1 then some (none, hp) else gI hp l0 12 127 (fun v2 => gR hp l0 12 125 (fun v3 => aB hp v3 l1 (fun v4 => (if v4 = 0 then b_252_194 R k167 l0 l1 l0 v2 (0 : Int32) hp else b_252_194 R k167 l0 l1 l0 v2 (1 : Int32) hp))))))
theorem t_252_167 {X : mjX} {d C S kc ks : Nat} {R : mjR} (hR : mjC R d) (h1 : kc ≤ C) (h2 : ks ≤ S) {k167 : Nat → Int32 → mjH → mjU} (hk167 : P_252_167 X (d + 1) C S kc ks k167) : P_252_167 X (d + 1) C S kc ks (b_252_167 R k167) := by
  intro l0 l1 hp q h
  unfold b_252_167 at h
  refine mjr_iload_n (x := l1) D_252_167 rfl ?_
  refine mjr_aload_n (x := l0) D_252_168 rfl ?_
  refine mjq_gI D_252_169 fr_12_699 h (fun v1 h => ?_)
  refine mjq_icmp_gt (tgt := 204) D_252_172 rfl h (fun h => ?_) (fun h => ?_)
  · exact mjq_nret D_252_204 rfl h1 h2 h
  · refine mjr_aload_n (x := l0) D_252_175 rfl ?_
    refine mjr_dup D_252_176 rfl ?_
    refine mjq_gI D_252_177 fr_12_738 h (fun v2 h => ?_)
    refine mjr_aload_n (x := l0) D_252_180 rfl ?_
    refine mjq_gR D_252_181 fr_12_269 h (fun v3 h => ?_)
    refine mjr_iload_n (x := l1) D_252_184 rfl ?_
    refine mjq_aB D_252_185 h (fun v4 h => ?_)
    refine mjq_if_eq (tgt := 193) D_252_186 rfl h (fun h => ?_) (fun h => ?_)
    · refine mjq_ic (v := (0 : Int32)) D_252_193 rfl ?_
      exact (t_252_194 hR h1 h2 hk167) _ _ _ _ _ _ _ h
    · refine mjq_ic (v := (1 : Int32)) D_252_189 rfl ?_
      refine mjr_goto (tgt := 194) D_252_190 rfl ?_
      exact (t_252_194 hR h1 h2 hk167) _ _ _ _ _ _ _ h
noncomputable def L_252_167 (R : mjR) (n : Nat) : Nat → Int32 → mjH → mjU := Nat.rec (motive := fun _ => Nat → Int32 → mjH → mjU) (fun _ _ _ => none) (fun _ self => b_252_167 R self) n
theorem T_252_167 {X : mjX} {d C S kc ks : Nat} {R : mjR} (hR : mjC R d) (h1 : kc ≤ C) (h2 : ks ≤ S) (n : Nat) : P_252_167 X (d + 1) C S kc ks (L_252_167 R n) := by
  induction n with
  | zero => intro _ _ _ _ h; exact mj_no h
  | succ n ih => exact t_252_167 hR h1 h2 ih
noncomputable def b_252_159 (R : mjR) (k93 : Nat → Int32 → mjH → mjU) (l0 : Nat) (l1 : Int32) (hp : mjH) : mjU := k93 l0 (l1 + (1 : Int32)) hp
theorem t_252_159 {X : mjX} {d C S kc ks : Nat} {R : mjR} (hR : mjC R d) (h1 : kc ≤ C) (h2 : ks ≤ S) {k93 : Nat → Int32 → mjH → mjU} (hk93 : P_252_93 X (d + 1) C S kc ks k93) : P_252_159 X (d + 1) C S kc ks (b_252_159 R k93) := by
  intro l0 l1 hp q h
  unfold b_252_159 at h
  refine mjq_iinc (x := l1) (c := (1 : Int32)) (lo' := [some (.ref l0), some (.int (l1 + (1 : Int32))), none]) D_252_159 rfl (Nat.le_of_ble_eq_true rfl) rfl rfl ?_
  refine mjr_goto (tgt := 93) D_252_162 rfl ?_
  exact hk93 _ _ _ _ h
noncomputable def b_252_153 (R : mjR) (k93 : Nat → Int32 → mjH → mjU) (k120 : Nat → Int32 → Int32 → mjH → mjU) (l0 : Nat) (l1 : Int32) (l2 : Int32) (hp : mjH) : mjU := k120 l0 l1 (l2 + (1 : Int32)) hp
theorem t_252_153 {X : mjX} {d C S kc ks : Nat} {R : mjR} (hR : mjC R d) (h1 : kc ≤ C) (h2 : ks ≤ S) {k93 : Nat → Int32 → mjH → mjU} (hk93 : P_252_93 X (d + 1) C S kc ks k93) {k120 : Nat → Int32 → Int32 → mjH → mjU} (hk120 : P_252_120 X (d + 1) C S kc ks k120) : P_252_153 X (d + 1) C S kc ks (b_252_153 R k93 k120) := by
  intro l0 l1 l2 hp q h
  unfold b_252_153 at h
  refine mjq_iinc (x := l2) (c := (1 : Int32)) (lo' := [some (.ref l0), some (.int l1), some (.int (l2 + (1 : Int32)))]) D_252_153 rfl (Nat.le_of_ble_eq_true rfl) rfl rfl ?_
  refine mjr_goto (tgt := 120) D_252_156 rfl ?_
  exact hk120 _ _ _ _ _ h
noncomputable def b_252_120 (R : mjR) (k93 : Nat → Int32 → mjH → mjU) (k120 : Nat → Int32 → Int32 → mjH → mjU) (l0 : Nat) (l1 : Int32) (l2 : Int32) (hp : mjH) : mjU := gI hp l0 12 103 (fun v1 => (if v1 < l2 then b_252_159 R k93 l0 l1 hp else rV hp l0 12 (bI (R 253 [.ref l0, .int l2] hp) (fun v2 hp3 => (if v2 = l1 then gR hp3 l0 12 120 (fun v4 => aB hp3 v4 l2 (fun v5 => (if v5 = 0 then b_252_153 R k93 k120 l0 l1 l2 hp3 else gR hp3 l0 12 125 (fun v6 => sB hp3 v6 l2 (1 : Int32) (fun hp7 => b_252_153 R k93 k120 l0 l1 l2 hp7))))) else b_252_153 R k93 k120 l0 l1 l2 hp3)))))
theorem t_252_120 {X : mjX} {d C S kc ks : Nat} {R : mjR} (hR : mjC R d) (h1 : kc ≤ C) (h2 : ks ≤ S) {k93 : Nat → Int32 → mjH → mjU} (hk93 : P_252_93 X (d + 1) C S kc ks k93) {k120 : Nat → Int32 → Int32 → mjH → mjU} (hk120 : P_252_120 X (d + 1) C S kc ks k120) : P_252_120 X (d + 1) C S kc ks (b_252_120 R k93 k120) := by
  intro l0 l1 l2 hp q h
  unfold b_252_120 at h
  refine mjr_iload_n (x := l2) D_252_120 rfl ?_
  refine mjr_aload_n (x := l0) D_252_121 rfl ?_
  refine mjq_gI D_252_122 fr_12_699 h (fun v1 h => ?_)
  refine mjq_icmp_gt (tgt := 159) D_252_125 rfl h (fun h => ?_) (fun h => ?_)
  · exact mjG.fg (lo' := [some (.ref l0), some (.int l1), none]) (And.intro rfl (And.intro rfl True.intro)) ((t_252_159 hR h1 h2 hk93) _ _ _ _ h)
  · refine mjr_aload_n (x := l0) D_252_128 rfl ?_
    refine mjr_iload_n (x := l2) D_252_129 rfl ?_
    refine mjq_vI (As := [.int l2]) (rest := []) D_252_130 mr_12_723 V_253 rfl rfl rfl hR (Nat.le_refl _) h1 h2 h (fun v2 hp3 h => ?_)
    refine mjr_iload_n (x := l1) D_252_133 rfl ?_
    refine mjq_icmp_ne (tgt := 153) D_252_134 rfl h (fun h => ?_) (fun h => ?_)
    · exact (t_252_153 hR h1 h2 hk93 hk120) _ _ _ _ _ h
    · refine mjr_aload_n (x := l0) D_252_137 rfl ?_
      refine mjq_gR D_252_138 fr_12_257 h (fun v4 h => ?_)
      refine mjr_iload_n (x := l2) D_252_141 rfl ?_
      refine mjq_aB D_252_142 h (fun v5 h => ?_)
      refine mjq_if_eq (tgt := 153) D_252_143 rfl h (fun h => ?_) (fun h => ?_)
      · exact (t_252_153 hR h1 h2 hk93 hk120) _ _ _ _ _ h
      · refine mjr_aload_n (x := l0) D_252_146 rfl ?_
        refine mjq_gR D_252_147 fr_12_269 h (fun v6 h => ?_)
        refine mjr_iload_n (x := l2) D_252_150 rfl ?_
        refine mjq_ic (v := (1 : Int32)) D_252_151 rfl ?_
        refine mjq_sB D_252_152 h (fun hp7 h => ?_)
        exact (t_252_153 hR h1 h2 hk93 hk120) _ _ _ _ _ h
noncomputable def L_252_120 (R : mjR) (k93 : Nat → Int32 → mjH → mjU) (n : Nat) : Nat → Int32 → Int32 → mjH → mjU := Nat.rec (motive := fun _ => Nat → Int32 → Int32 → mjH → mjU) (fun _ _ _ _ => none) (fun _ self => b_252_120 R k93 self) n
theorem T_252_120 {X : mjX} {d C S kc ks : Nat} {R : mjR} (hR : mjC R d) (h1 : kc ≤ C) (h2 : ks ≤ S) {k93 : Nat → Int32 → mjH → mjU} (hk93 : P_252_93 X (d + 1) C S kc ks k93) (n : Nat) : P_252_120 X (d + 1) C S kc ks (L_252_120 R k93 n) := by
  induction n with
  | zero => intro _ _ _ _ _ h; exact mj_no h
  | succ n ih => exact t_252_120 hR h1 h2 hk93 ih
noncomputable def b_252_93 (R : mjR) (k93 : Nat → Int32 → mjH → mjU) (l0 : Nat) (l1 : Int32) (hp : mjH) : mjU := gI hp l0 12 103 (fun v1 => (if v1 < l1 then L_252_167 R mjN l0 (1 : Int32) hp else gR hp l0 12 135 (fun v2 => aB hp v2 l1 (fun v3 => (if v3 = 0 then b_252_159 R k93 l0 l1 hp else rV hp l0 12 (bN (R 254 [.ref l0, .int l1] hp) (fun  hp4 => L_252_120 R k93 mjN l0 l1 (1 : Int32) hp4)))))))
theorem t_252_93 {X : mjX} {d C S kc ks : Nat} {R : mjR} (hR : mjC R d) (h1 : kc ≤ C) (h2 : ks ≤ S) {k93 : Nat → Int32 → mjH → mjU} (hk93 : P_252_93 X (d + 1) C S kc ks k93) : P_252_93 X (d + 1) C S kc ks (b_252_93 R k93) := by
  intro l0 l1 hp q h
  unfold b_252_93 at h
  refine mjr_iload_n (x := l1) D_252_93 rfl ?_
  refine mjr_aload_n (x := l0) D_252_94 rfl ?_
  refine mjq_gI D_252_95 fr_12_699 h (fun v1 h => ?_)
  refine mjq_icmp_gt (tgt := 165) D_252_98 rfl h (fun h => ?_) (fun h => ?_)
  · refine mjq_ic (v := (1 : Int32)) D_252_165 rfl ?_
    refine mjq_istore_n (lo' := [some (.ref l0), some (.int (1 : Int32)), none]) D_252_166 (Nat.le_of_ble_eq_true rfl) rfl ?_
    exact (T_252_167 hR h1 h2 mjN) _ _ _ _ h
  · refine mjr_aload_n (x := l0) D_252_101 rfl ?_
    refine mjq_gR D_252_102 fr_12_284 h (fun v2 h => ?_)
    refine mjr_iload_n (x := l1) D_252_105 rfl ?_
    refine mjq_aB D_252_106 h (fun v3 h => ?_)
    refine mjq_if_ne (tgt := 113) D_252_107 rfl h (fun h => ?_) (fun h => ?_)
    · refine mjr_aload_n (x := l0) D_252_113 rfl ?_
      refine mjr_iload_n (x := l1) D_252_114 rfl ?_
      refine mjq_vN (As := [.int l1]) (rest := []) D_252_115 mr_12_741 V_254 rfl rfl rfl hR (Nat.le_refl _) h1 h2 h (fun  hp4 h => ?_)
      refine mjq_ic (v := (1 : Int32)) D_252_118 rfl ?_
      refine mjq_istore_n (lo' := [some (.ref l0), some (.int l1), some (.int (1 : Int32))]) D_252_119 (Nat.le_of_ble_eq_true rfl) rfl ?_
      exact (T_252_120 hR h1 h2 hk93 mjN) _ _ _ _ _ h
    · refine mjr_goto (tgt := 159) D_252_110 rfl ?_
      exact (t_252_159 hR h1 h2 hk93) _ _ _ _ h
noncomputable def L_252_93 (R : mjR) (n : Nat) : Nat → Int32 → mjH → mjU := Nat.rec (motive := fun _ => Nat → Int32 → mjH → mjU) (fun _ _ _ => none) (fun _ self => b_252_93 R self) n
theorem T_252_93 {X : mjX} {d C S kc ks : Nat} {R : mjR} (hR : mjC R d) (h1 : kc ≤ C) (h2 : ks ≤ S) (n : Nat) : P_252_93 X (d + 1) C S kc ks (L_252_93 R n) := by
  induction n with
  | zero => intro _ _ _ _ h; exact mj_no h
  | succ n ih => exact t_252_93 hR h1 h2 ih
noncomputable def b_252_66 (R : mjR) (k66 : Nat → Int32 → mjH → mjU) (l0 : Nat) (l1 : Int32) (hp : mjH) : mjU := gI hp l0 12 103 (fun v1 => (if v1 < l1 then L_252_93 R mjN l0 (1 : Int32) hp else gR hp l0 12 135 (fun v2 => rV hp l0 12 (bI (R 253 [.ref l0, .int l1] hp) (fun v3 hp4 => sB hp4 v2 v3 (1 : Int32) (fun hp5 => k66 l0 (l1 + (1 : Int32)) hp5))))))
theorem t_252_66 {X : mjX} {d C S kc ks : Nat} {R : mjR} (hR : mjC R d) (h1 : kc ≤ C) (h2 : ks ≤ S) {k66 : Nat → Int32 → mjH → mjU} (hk66 : P_252_66 X (d + 1) C S kc ks k66) : P_252_66 X (d + 1) C S kc ks (b_252_66 R k66) := by
  intro l0 l1 hp q h
  unfold b_252_66 at h
  refine mjr_iload_n (x := l1) D_252_66 rfl ?_
  refine mjr_aload_n (x := l0) D_252_67 rfl ?_
  refine mjq_gI D_252_68 fr_12_699 h (fun v1 h => ?_)
  refine mjq_icmp_gt (tgt := 91) D_252_71 rfl h (fun h => ?_) (fun h => ?_)
  · refine mjq_ic (v := (1 : Int32)) D_252_91 rfl ?_
    refine mjq_istore_n (lo' := [some (.ref l0), some (.int (1 : Int32)), none]) D_252_92 (Nat.le_of_ble_eq_true rfl) rfl ?_
    exact (T_252_93 hR h1 h2 mjN) _ _ _ _ h
  · refine mjr_aload_n (x := l0) D_252_74 rfl ?_
    refine mjq_gR D_252_75 fr_12_284 h (fun v2 h => ?_)
    refine mjr_aload_n (x := l0) D_252_78 rfl ?_
    refine mjr_iload_n (x := l1) D_252_79 rfl ?_
    refine mjq_vI (As := [.int l1]) (rest := [.ref v2]) D_252_80 mr_12_723 V_253 rfl rfl rfl hR (Nat.le_refl _) h1 h2 h (fun v3 hp4 h => ?_)
    refine mjq_ic (v := (1 : Int32)) D_252_83 rfl ?_
    refine mjq_sB D_252_84 h (fun hp5 h => ?_)
    refine mjq_iinc (x := l1) (c := (1 : Int32)) (lo' := [some (.ref l0), some (.int (l1 + (1 : Int32))), none]) D_252_85 rfl (Nat.le_of_ble_eq_true rfl) rfl rfl ?_
    refine mjr_goto (tgt := 66) D_252_88 rfl ?_
    exact hk66 _ _ _ _ h
noncomputable def L_252_66 (R : mjR) (n : Nat) : Nat → Int32 → mjH → mjU := Nat.rec (motive := fun _ => Nat → Int32 → mjH → mjU) (fun _ _ _ => none) (fun _ self => b_252_66 R self) n
theorem T_252_66 {X : mjX} {d C S kc ks : Nat} {R : mjR} (hR : mjC R d) (h1 : kc ≤ C) (h2 : ks ≤ S) (n : Nat) : P_252_66 X (d + 1) C S kc ks (L_252_66 R n) := by
  induction n with
  | zero => intro _ _ _ _ h; exact mj_no h
  | succ n ih => exact t_252_66 hR h1 h2 ih
noncomputable def b_252_43 (R : mjR) (k43 : Nat → Int32 → mjH → mjU) (l0 : Nat) (l1 : Int32) (hp : mjH) : mjU := gI hp l0 12 103 (fun v1 => (if v1 < l1 then L_252_66 R mjN l0 (1 : Int32) hp else gR hp l0 12 135 (fun v2 => sB hp v2 l1 (0 : Int32) (fun hp3 => k43 l0 (l1 + (1 : Int32)) hp3))))
theorem t_252_43 {X : mjX} {d C S kc ks : Nat} {R : mjR} (hR : mjC R d) (h1 : kc ≤ C) (h2 : ks ≤ S) {k43 : Nat → Int32 → mjH → mjU} (hk43 : P_252_43 X (d + 1) C S kc ks k43) : P_252_43 X (d + 1) C S kc ks (b_252_43 R k43) := by
  intro l0 l1 hp q h
  unfold b_252_43 at h
  refine mjr_iload_n (x := l1) D_252_43 rfl ?_
  refine mjr_aload_n (x := l0) D_252_44 rfl ?_
  refine mjq_gI D_252_45 fr_12_699 h (fun v1 h => ?_)
  refine mjq_icmp_gt (tgt := 64) D_252_48 rfl h (fun h => ?_) (fun h => ?_)
  · refine mjq_ic (v := (1 : Int32)) D_252_64 rfl ?_
    refine mjq_istore_n (lo' := [some (.ref l0), some (.int (1 : Int32)), none]) D_252_65 (Nat.le_of_ble_eq_true rfl) rfl ?_
    exact (T_252_66 hR h1 h2 mjN) _ _ _ _ h
  · refine mjr_aload_n (x := l0) D_252_51 rfl ?_
    refine mjq_gR D_252_52 fr_12_284 h (fun v2 h => ?_)
    refine mjr_iload_n (x := l1) D_252_55 rfl ?_
    refine mjq_ic (v := (0 : Int32)) D_252_56 rfl ?_
    refine mjq_sB D_252_57 h (fun hp3 h => ?_)
    refine mjq_iinc (x := l1) (c := (1 : Int32)) (lo' := [some (.ref l0), some (.int (l1 + (1 : Int32))), none]) D_252_58 rfl (Nat.le_of_ble_eq_true rfl) rfl rfl ?_
    refine mjr_goto (tgt := 43) D_252_61 rfl ?_
    exact hk43 _ _ _ _ h
noncomputable def L_252_43 (R : mjR) (n : Nat) : Nat → Int32 → mjH → mjU := Nat.rec (motive := fun _ => Nat → Int32 → mjH → mjU) (fun _ _ _ => none) (fun _ self => b_252_43 R self) n
theorem T_252_43 {X : mjX} {d C S kc ks : Nat} {R : mjR} (hR : mjC R d) (h1 : kc ≤ C) (h2 : ks ≤ S) (n : Nat) : P_252_43 X (d + 1) C S kc ks (L_252_43 R n) := by
  induction n with
  | zero => intro _ _ _ _ h; exact mj_no h
  | succ n ih => exact t_252_43 hR h1 h2 ih
noncomputable def b_252_20 (R : mjR) (k20 : Nat → Int32 → mjH → mjU) (l0 : Nat) (l1 : Int32) (hp : mjH) : mjU := gI hp l0 12 103 (fun v1 => (if v1 < l1 then L_252_43 R mjN l0 (0 : Int32) hp else gR hp l0 12 125 (fun v2 => sB hp v2 l1 (0 : Int32) (fun hp3 => k20 l0 (l1 + (1 : Int32)) hp3))))
theorem t_252_20 {X : mjX} {d C S kc ks : Nat} {R : mjR} (hR : mjC R d) (h1 : kc ≤ C) (h2 : ks ≤ S) {k20 : Nat → Int32 → mjH → mjU} (hk20 : P_252_20 X (d + 1) C S kc ks k20) : P_252_20 X (d + 1) C S kc ks (b_252_20 R k20) := by
  intro l0 l1 hp q h
  unfold b_252_20 at h
  refine mjr_iload_n (x := l1) D_252_20 rfl ?_
  refine mjr_aload_n (x := l0) D_252_21 rfl ?_
  refine mjq_gI D_252_22 fr_12_699 h (fun v1 h => ?_)
  refine mjq_icmp_gt (tgt := 41) D_252_25 rfl h (fun h => ?_) (fun h => ?_)
  · refine mjq_ic (v := (0 : Int32)) D_252_41 rfl ?_
    refine mjq_istore_n (lo' := [some (.ref l0), some (.int (0 : Int32)), none]) D_252_42 (Nat.le_of_ble_eq_true rfl) rfl ?_
    exact (T_252_43 hR h1 h2 mjN) _ _ _ _ h
  · refine mjr_aload_n (x := l0) D_252_28 rfl ?_
    refine mjq_gR D_252_29 fr_12_269 h (fun v2 h => ?_)
    refine mjr_iload_n (x := l1) D_252_32 rfl ?_
    refine mjq_ic (v := (0 : Int32)) D_252_33 rfl ?_
    refine mjq_sB D_252_34 h (fun hp3 h => ?_)
    refine mjq_iinc (x := l1) (c := (1 : Int32)) (lo' := [some (.ref l0), some (.int (l1 + (1 : Int32))), none]) D_252_35 rfl (Nat.le_of_ble_eq_true rfl) rfl rfl ?_
    refine mjr_goto (tgt := 20) D_252_38 rfl ?_
    exact hk20 _ _ _ _ h
noncomputable def L_252_20 (R : mjR) (n : Nat) : Nat → Int32 → mjH → mjU := Nat.rec (motive := fun _ => Nat → Int32 → mjH → mjU) (fun _ _ _ => none) (fun _ self => b_252_20 R self) n
theorem T_252_20 {X : mjX} {d C S kc ks : Nat} {R : mjR} (hR : mjC R d) (h1 : kc ≤ C) (h2 : ks ≤ S) (n : Nat) : P_252_20 X (d + 1) C S kc ks (L_252_20 R n) := by
  induction n with
  | zero => intro _ _ _ _ h; exact mj_no h
  | succ n ih => exact t_252_20 hR h1 h2 ih
noncomputable def b_252_0 (R : mjR) (l0 : Nat) (hp : mjH) : mjU := gI hp l0 12 126 (fun v1 => (if v1 = 0 then pZ hp l0 12 126 (1 : Int32) (fun hp2 => pI hp2 l0 12 127 (0 : Int32) (fun hp3 => L_252_20 R mjN l0 (0 : Int32) hp3)) else some (none, hp)))
theorem t_252_0 {X : mjX} {d C S kc ks : Nat} {R : mjR} (hR : mjC R d) (h1 : kc ≤ C) (h2 : ks ≤ S) : P_252_0 X (d + 1) C S kc ks (b_252_0 R) := by
  intro l0 hp q h
  unfold b_252_0 at h
  refine mjr_aload_n (x := l0) D_252_0 rfl ?_
  refine mjq_gI D_252_1 fr_12_645 h (fun v1 h => ?_)
  refine mjq_if_eq (tgt := 8) D_252_4 rfl h (fun h => ?_) (fun h => ?_)
  · refine mjr_aload_n (x := l0) D_252_8 rfl ?_
    refine mjq_ic (v := (1 : Int32)) D_252_9 rfl ?_
    refine mjq_pZ D_252_10 fr_12_645 rfl rfl h (fun hp2 h => ?_)
    refine mjr_aload_n (x := l0) D_252_13 rfl ?_
    refine mjq_ic (v := (0 : Int32)) D_252_14 rfl ?_
    refine mjq_pI D_252_15 fr_12_738 rfl rfl h (fun hp3 h => ?_)
    refine mjq_ic (v := (0 : Int32)) D_252_18 rfl ?_
    refine mjq_istore_n (lo' := [some (.ref l0), some (.int (0 : Int32)), none]) D_252_19 (Nat.le_of_ble_eq_true rfl) rfl ?_
    exact (T_252_20 hR h1 h2 mjN) _ _ _ _ h
  · exact mjq_nret D_252_7 rfl h1 h2 h
noncomputable def f_252 (R : mjR) (a0 : Nat) (hp : mjH) : mjU := b_252_0 R a0 hp
theorem c_252 {R : mjR} {d : Nat} (hR : mjC R d) {a0 : Nat} {hp : mjH} {q : Option Value × mjH} (h : f_252 R a0 hp = some q) : mjM (d + 1) 0 0 252 [.ref a0] hp (mjEq q) :=
  mjM_of Ja_252 (Nat.le_of_ble_eq_true rfl) (mjG.fg (lo' := [some (.ref a0), none, none]) (And.intro rfl True.intro) ((t_252_0 hR (Nat.le_refl 0) (Nat.le_refl 0)) a0 hp q h))
def J_253 : mjI := (⟨"OwnerHeapModel", "ownerAt", "(I)I"⟩, 12, prog_14_method_97_code, 2, (some .int), 1, false)
theorem Ja_253 : mjMt 253 = some J_253 := by rfl
theorem D_253_0 : decode J_253.2.2.1 0 = .ok (.aload_n 0, 1) := dzq_42 (by decide +kernel)
theorem D_253_1 : decode J_253.2.2.1 1 = .ok (.getfield 230, 3) := dzq_180 (by decide +kernel)
theorem D_253_4 : decode J_253.2.2.1 4 = .ok (.aload_n 0, 1) := dzq_42 (by decide +kernel)
theorem D_253_5 : decode J_253.2.2.1 5 = .ok (.getfield 236, 3) := dzq_180 (by decide +kernel)
theorem D_253_8 : decode J_253.2.2.1 8 = .ok (.iload_n 1, 1) := dzq_27 (by decide +kernel)
theorem D_253_9 : decode J_253.2.2.1 9 = .ok (.iaload, 1) := dzq_46 (by decide +kernel)
theorem D_253_10 : decode J_253.2.2.1 10 = .ok (.iaload, 1) := dzq_46 (by decide +kernel)
theorem D_253_11 : decode J_253.2.2.1 11 = .ok (.ireturn, 1) := dzq_172 (by decide +kernel)
def P_253_0 (X : mjX) (d C S kc ks : Nat) (k : Nat → Int32 → mjH → mjU) : Prop := ∀ (l0 : Nat) (l1 : Int32) (hp : mjH) (q : Option Value × mjH), k l0 l1 hp = some q → mjG X d C S J_253 (mjEq q) 0 [some (.ref l0), some (.int l1)] [] hp kc ks
noncomputable def b_253_0 (R : mjR) (l0 : Nat) (l1 : Int32) (hp : mjH) : mjU := gR hp l0 12 108 (fun v1 => gR hp l0 12 110 (fun v2 => aI hp v2 l1 (fun v3 => aI hp v1 v3 (fun v4 => some (some (.int v4), hp)))))
theorem t_253_0 {X : mjX} {d C S kc ks : Nat} {R : mjR} (hR : mjC R d) (h1 : kc ≤ C) (h2 : ks ≤ S) : P_253_0 X (d + 1) C S kc ks (b_253_0 R) := by
  intro l0 l1 hp q h
  unfold b_253_0 at h
  refine mjr_aload_n (x := l0) D_253_0 rfl ?_
  refine mjq_gR D_253_1 fr_12_230 h (fun v1 h => ?_)
  refine mjr_aload_n (x := l0) D_253_4 rfl ?_
  refine mjq_gR D_253_5 fr_12_236 h (fun v2 h => ?_)
  refine mjr_iload_n (x := l1) D_253_8 rfl ?_
  refine mjq_aI D_253_9 h (fun v3 h => ?_)
  refine mjq_aI D_253_10 h (fun v4 h => ?_)
  exact mjq_ret D_253_11 rfl h1 h2 h
noncomputable def f_253 (R : mjR) (a0 : Nat) (a1 : Int32) (hp : mjH) : mjU := b_253_0 R a0 a1 hp
theorem c_253 {R : mjR} {d : Nat} (hR : mjC R d) {a0 : Nat} {a1 : Int32} {hp : mjH} {q : Option Value × mjH} (h : f_253 R a0 a1 hp = some q) : mjM (d + 1) 0 0 253 [.ref a0, .int a1] hp (mjEq q) :=
  mjM_of Ja_253 (Nat.le_of_ble_eq_true rfl) (mjG.fg (lo' := [some (.ref a0), some (.int a1)]) (And.intro rfl (And.intro rfl True.intro)) ((t_253_0 hR (Nat.le_refl 0) (Nat.le_refl 0)) a0 a1 hp q h))
def J_254 : mjI := (⟨"OwnerHeapModel", "fromRoots", "(I)V"⟩, 12, prog_14_method_101_code, 3, none, 1, false)
theorem Ja_254 : mjMt 254 = some J_254 := by rfl
theorem D_254_0 : decode J_254.2.2.1 0 = .ok (.aload_n 0, 1) := dzq_42 (by decide +kernel)
theorem D_254_1 : decode J_254.2.2.1 1 = .ok (.invokevirtual 720, 3) := dzq_182 (by decide +kernel)
theorem D_254_4 : decode J_254.2.2.1 4 = .ok (.iconst 1, 1) := dzq_4 (by decide +kernel)
theorem D_254_5 : decode J_254.2.2.1 5 = .ok (.istore_n 2, 1) := dzq_61 (by decide +kernel)
theorem D_254_6 : decode J_254.2.2.1 6 = .ok (.iload_n 2, 1) := dzq_28 (by decide +kernel)
theorem D_254_7 : decode J_254.2.2.1 7 = .ok (.aload_n 0, 1) := dzq_42 (by decide +kernel)
theorem D_254_8 : decode J_254.2.2.1 8 = .ok (.getfield 699, 3) := dzq_180 (by decide +kernel)
theorem D_254_11 : decode J_254.2.2.1 11 = .ok (.if_icmp .gt 28, 3) := dzq_163 (by decide +kernel)
theorem D_254_14 : decode J_254.2.2.1 14 = .ok (.aload_n 0, 1) := dzq_42 (by decide +kernel)
theorem D_254_15 : decode J_254.2.2.1 15 = .ok (.iload_n 2, 1) := dzq_28 (by decide +kernel)
theorem D_254_16 : decode J_254.2.2.1 16 = .ok (.invokevirtual 723, 3) := dzq_182 (by decide +kernel)
theorem D_254_19 : decode J_254.2.2.1 19 = .ok (.ifCond .ne 14, 3) := dzq_154 (by decide +kernel)
theorem D_254_22 : decode J_254.2.2.1 22 = .ok (.iload_n 2, 1) := dzq_28 (by decide +kernel)
theorem D_254_23 : decode J_254.2.2.1 23 = .ok (.iload_n 1, 1) := dzq_27 (by decide +kernel)
theorem D_254_24 : decode J_254.2.2.1 24 = .ok (.if_icmp .eq 9, 3) := dzq_159 (by decide +kernel)
theorem D_254_27 : decode J_254.2.2.1 27 = .ok (.aload_n 0, 1) := dzq_42 (by decide +kernel)
theorem D_254_28 : decode J_254.2.2.1 28 = .ok (.iload_n 2, 1) := dzq_28 (by decide +kernel)
theorem D_254_29 : decode J_254.2.2.1 29 = .ok (.iconst (-1), 1) := dzq_2 (by decide +kernel)
theorem D_254_30 : decode J_254.2.2.1 30 = .ok (.invokevirtual 717, 3) := dzq_182 (by decide +kernel)
theorem D_254_33 : decode J_254.2.2.1 33 = .ok (.iinc 2 1, 3) := dzq_132 (by decide +kernel)
theorem D_254_36 : decode J_254.2.2.1 36 = .ok (.goto (-30), 3) := dzq_167 (by decide +kernel)
theorem D_254_39 : decode J_254.2.2.1 39 = .ok (.aload_n 0, 1) := dzq_42 (by decide +kernel)
theorem D_254_40 : decode J_254.2.2.1 40 = .ok (.iload_n 1, 1) := dzq_27 (by decide +kernel)
theorem D_254_41 : decode J_254.2.2.1 41 = .ok (.invokevirtual 726, 3) := dzq_182 (by decide +kernel)
theorem D_254_44 : decode J_254.2.2.1 44 = .ok (.return_, 1) := dzq_177 (by decide +kernel)
def P_254_33 (X : mjX) (d C S kc ks : Nat) (k : Nat → Int32 → Int32 → mjH → mjU) : Prop := ∀ (l0 : Nat) (l1 : Int32) (l2 : Int32) (hp : mjH) (q : Option Value × mjH), k l0 l1 l2 hp = some q → mjG X d C S J_254 (mjEq q) 33 [some (.ref l0), some (.int l1), some (.int l2)] [] hp kc ks
def P_254_6 (X : mjX) (d C S kc ks : Nat) (k : Nat → Int32 → Int32 → mjH → mjU) : Prop := ∀ (l0 : Nat) (l1 : Int32) (l2 : Int32) (hp : mjH) (q : Option Value × mjH), k l0 l1 l2 hp = some q → mjG X d C S J_254 (mjEq q) 6 [some (.ref l0), some (.int l1), some (.int l2)] [] hp kc ks
def P_254_0 (X : mjX) (d C S kc ks : Nat) (k : Nat → Int32 → mjH → mjU) : Prop := ∀ (l0 : Nat) (l1 : Int32) (hp : mjH) (q : Option Value × mjH), k l0 l1 hp = some q → mjG X d C S J_254 (mjEq q) 0 [some (.ref l0), some (.int l1), none] [] hp kc ks
noncomputable def b_254_33 (R : mjR) (k6 : Nat → Int32 → Int32 → mjH → mjU) (l0 : Nat) (l1 : Int32) (l2 : Int32) (hp : mjH) : mjU := k6 l0 l1 (l2 + (1 : Int32)) hp
theorem t_254_33 {X : mjX} {d C S kc ks : Nat} {R : mjR} (hR : mjC R d) (h1 : kc ≤ C) (h2 : ks ≤ S) {k6 : Nat → Int32 → Int32 → mjH → mjU} (hk6 : P_254_6 X (d + 1) C S kc ks k6) : P_254_33 X (d + 1) C S kc ks (b_254_33 R k6) := by
  intro l0 l1 l2 hp q h
  unfold b_254_33 at h
  refine mjq_iinc (x := l2) (c := (1 : Int32)) (lo' := [some (.ref l0), some (.int l1), some (.int (l2 + (1 : Int32)))]) D_254_33 rfl (Nat.le_of_ble_eq_true rfl) rfl rfl ?_
  refine mjr_goto (tgt := 6) D_254_36 rfl ?_
  exact hk6 _ _ _ _ _ h
noncomputable def b_254_6 (R : mjR) (k6 : Nat → Int32 → Int32 → mjH → mjU) (l0 : Nat) (l1 : Int32) (l2 : Int32) (hp : mjH) : mjU := gI hp l0 12 103 (fun v1 => (if v1 < l2 then rV hp l0 12 (bN (R 249 [.ref l0, .int l1] hp) (fun  hp2 => some (none, hp2))) else rV hp l0 12 (bI (R 253 [.ref l0, .int l2] hp) (fun v3 hp4 => (if v3 = 0 then (if l2 = l1 then b_254_33 R k6 l0 l1 l2 hp4 else rV hp4 l0 12 (bN (R 248 [.ref l0, .int l2, .int (-1 : Int32)] hp4) (fun  hp5 => b_254_33 R k6 l0 l1 l2 hp5))) else b_254_33 R k6 l0 l1 l2 hp4)))))
theorem t_254_6 {X : mjX} {d C S kc ks : Nat} {R : mjR} (hR : mjC R d) (h1 : kc ≤ C) (h2 : ks ≤ S) {k6 : Nat → Int32 → Int32 → mjH → mjU} (hk6 : P_254_6 X (d + 1) C S kc ks k6) : P_254_6 X (d + 1) C S kc ks (b_254_6 R k6) := by
  intro l0 l1 l2 hp q h
  unfold b_254_6 at h
  refine mjr_iload_n (x := l2) D_254_6 rfl ?_
  refine mjr_aload_n (x := l0) D_254_7 rfl ?_
  refine mjq_gI D_254_8 fr_12_699 h (fun v1 h => ?_)
  refine mjq_icmp_gt (tgt := 39) D_254_11 rfl h (fun h => ?_) (fun h => ?_)
  · refine mjr_aload_n (x := l0) D_254_39 rfl ?_
    refine mjr_iload_n (x := l1) D_254_40 rfl ?_
    refine mjq_vN (As := [.int l1]) (rest := []) D_254_41 mr_12_726 V_249 rfl rfl rfl hR (Nat.le_refl _) h1 h2 h (fun  hp2 h => ?_)
    exact mjq_nret D_254_44 rfl h1 h2 h
  · refine mjr_aload_n (x := l0) D_254_14 rfl ?_
    refine mjr_iload_n (x := l2) D_254_15 rfl ?_
    refine mjq_vI (As := [.int l2]) (rest := []) D_254_16 mr_12_723 V_253 rfl rfl rfl hR (Nat.le_refl _) h1 h2 h (fun v3 hp4 h => ?_)
    refine mjq_if_ne (tgt := 33) D_254_19 rfl h (fun h => ?_) (fun h => ?_)
    · exact (t_254_33 hR h1 h2 hk6) _ _ _ _ _ h
    · refine mjr_iload_n (x := l2) D_254_22 rfl ?_
      refine mjr_iload_n (x := l1) D_254_23 rfl ?_
      refine mjq_icmp_eq (tgt := 33) D_254_24 rfl h (fun h => ?_) (fun h => ?_)
      · exact (t_254_33 hR h1 h2 hk6) _ _ _ _ _ h
      · refine mjr_aload_n (x := l0) D_254_27 rfl ?_
        refine mjr_iload_n (x := l2) D_254_28 rfl ?_
        refine mjq_ic (v := (-1 : Int32)) D_254_29 rfl ?_
        refine mjq_vN (As := [.int l2, .int (-1 : Int32)]) (rest := []) D_254_30 mr_12_717 V_248 rfl rfl rfl hR (Nat.le_refl _) h1 h2 h (fun  hp5 h => ?_)
        exact (t_254_33 hR h1 h2 hk6) _ _ _ _ _ h
noncomputable def L_254_6 (R : mjR) (n : Nat) : Nat → Int32 → Int32 → mjH → mjU := Nat.rec (motive := fun _ => Nat → Int32 → Int32 → mjH → mjU) (fun _ _ _ _ => none) (fun _ self => b_254_6 R self) n
theorem T_254_6 {X : mjX} {d C S kc ks : Nat} {R : mjR} (hR : mjC R d) (h1 : kc ≤ C) (h2 : ks ≤ S) (n : Nat) : P_254_6 X (d + 1) C S kc ks (L_254_6 R n) := by
  induction n with
  | zero => intro _ _ _ _ _ h; exact mj_no h
  | succ n ih => exact t_254_6 hR h1 h2 ih
noncomputable def b_254_0 (R : mjR) (l0 : Nat) (l1 : Int32) (hp : mjH) : mjU := rV hp l0 12 (bN (R 247 [.ref l0] hp) (fun  hp1 => L_254_6 R mjN l0 l1 (1 : Int32) hp1))
theorem t_254_0 {X : mjX} {d C S kc ks : Nat} {R : mjR} (hR : mjC R d) (h1 : kc ≤ C) (h2 : ks ≤ S) : P_254_0 X (d + 1) C S kc ks (b_254_0 R) := by
  intro l0 l1 hp q h
  unfold b_254_0 at h
  refine mjr_aload_n (x := l0) D_254_0 rfl ?_
  refine mjq_vN (As := []) (rest := []) D_254_1 mr_12_720 V_247 rfl rfl rfl hR (Nat.le_refl _) h1 h2 h (fun  hp1 h => ?_)
  refine mjq_ic (v := (1 : Int32)) D_254_4 rfl ?_
  refine mjq_istore_n (lo' := [some (.ref l0), some (.int l1), some (.int (1 : Int32))]) D_254_5 (Nat.le_of_ble_eq_true rfl) rfl ?_
  exact (T_254_6 hR h1 h2 mjN) _ _ _ _ _ h
noncomputable def f_254 (R : mjR) (a0 : Nat) (a1 : Int32) (hp : mjH) : mjU := b_254_0 R a0 a1 hp
theorem c_254 {R : mjR} {d : Nat} (hR : mjC R d) {a0 : Nat} {a1 : Int32} {hp : mjH} {q : Option Value × mjH} (h : f_254 R a0 a1 hp = some q) : mjM (d + 1) 0 0 254 [.ref a0, .int a1] hp (mjEq q) :=
  mjM_of Ja_254 (Nat.le_of_ble_eq_true rfl) (mjG.fg (lo' := [some (.ref a0), some (.int a1), none]) (And.intro rfl (And.intro rfl True.intro)) ((t_254_0 hR (Nat.le_refl 0) (Nat.le_refl 0)) a0 a1 hp q h))
def J_255 : mjI := (⟨"OwnerHeapModel", "leak", "(I)I"⟩, 12, prog_14_method_106_code, 4, (some .int), 1, false)
theorem Ja_255 : mjMt 255 = some J_255 := by rfl
theorem D_255_0 : decode J_255.2.2.1 0 = .ok (.aload_n 0, 1) := dzq_42 (by decide +kernel)
theorem D_255_1 : decode J_255.2.2.1 1 = .ok (.getfield 636, 3) := dzq_180 (by decide +kernel)
theorem D_255_4 : decode J_255.2.2.1 4 = .ok (.ifCond .eq 7, 3) := dzq_153 (by decide +kernel)
theorem D_255_7 : decode J_255.2.2.1 7 = .ok (.iload_n 1, 1) := dzq_27 (by decide +kernel)
theorem D_255_8 : decode J_255.2.2.1 8 = .ok (.ifCond .ge 5, 3) := dzq_156 (by decide +kernel)
theorem D_255_11 : decode J_255.2.2.1 11 = .ok (.iconst (-1), 1) := dzq_2 (by decide +kernel)
theorem D_255_12 : decode J_255.2.2.1 12 = .ok (.ireturn, 1) := dzq_172 (by decide +kernel)
theorem D_255_13 : decode J_255.2.2.1 13 = .ok (.aload_n 0, 1) := dzq_42 (by decide +kernel)
theorem D_255_14 : decode J_255.2.2.1 14 = .ok (.invokevirtual 735, 3) := dzq_182 (by decide +kernel)
theorem D_255_17 : decode J_255.2.2.1 17 = .ok (.iconst 0, 1) := dzq_3 (by decide +kernel)
theorem D_255_18 : decode J_255.2.2.1 18 = .ok (.istore_n 2, 1) := dzq_61 (by decide +kernel)
theorem D_255_19 : decode J_255.2.2.1 19 = .ok (.iconst 1, 1) := dzq_4 (by decide +kernel)
theorem D_255_20 : decode J_255.2.2.1 20 = .ok (.istore_n 3, 1) := dzq_62 (by decide +kernel)
theorem D_255_21 : decode J_255.2.2.1 21 = .ok (.iload_n 3, 1) := dzq_29 (by decide +kernel)
theorem D_255_22 : decode J_255.2.2.1 22 = .ok (.aload_n 0, 1) := dzq_42 (by decide +kernel)
theorem D_255_23 : decode J_255.2.2.1 23 = .ok (.getfield 699, 3) := dzq_180 (by decide +kernel)
theorem D_255_26 : decode J_255.2.2.1 26 = .ok (.if_icmp .gt 31, 3) := dzq_163 (by decide +kernel)
theorem D_255_29 : decode J_255.2.2.1 29 = .ok (.aload_n 0, 1) := dzq_42 (by decide +kernel)
theorem D_255_30 : decode J_255.2.2.1 30 = .ok (.getfield 269, 3) := dzq_180 (by decide +kernel)
theorem D_255_33 : decode J_255.2.2.1 33 = .ok (.iload_n 3, 1) := dzq_29 (by decide +kernel)
theorem D_255_34 : decode J_255.2.2.1 34 = .ok (.baload, 1) := dzq_51 (by decide +kernel)
theorem D_255_35 : decode J_255.2.2.1 35 = .ok (.ifCond .ne 6, 3) := dzq_154 (by decide +kernel)
theorem D_255_38 : decode J_255.2.2.1 38 = .ok (.goto 13, 3) := dzq_167 (by decide +kernel)
theorem D_255_41 : decode J_255.2.2.1 41 = .ok (.iload_n 2, 1) := dzq_28 (by decide +kernel)
theorem D_255_42 : decode J_255.2.2.1 42 = .ok (.iload_n 1, 1) := dzq_27 (by decide +kernel)
theorem D_255_43 : decode J_255.2.2.1 43 = .ok (.if_icmp .ne 5, 3) := dzq_160 (by decide +kernel)
theorem D_255_46 : decode J_255.2.2.1 46 = .ok (.iload_n 3, 1) := dzq_29 (by decide +kernel)
theorem D_255_47 : decode J_255.2.2.1 47 = .ok (.ireturn, 1) := dzq_172 (by decide +kernel)
theorem D_255_48 : decode J_255.2.2.1 48 = .ok (.iinc 2 1, 3) := dzq_132 (by decide +kernel)
theorem D_255_51 : decode J_255.2.2.1 51 = .ok (.iinc 3 1, 3) := dzq_132 (by decide +kernel)
theorem D_255_54 : decode J_255.2.2.1 54 = .ok (.goto (-33), 3) := dzq_167 (by decide +kernel)
theorem D_255_57 : decode J_255.2.2.1 57 = .ok (.iconst (-1), 1) := dzq_2 (by decide +kernel)
theorem D_255_58 : decode J_255.2.2.1 58 = .ok (.ireturn, 1) := dzq_172 (by decide +kernel)
def P_255_11 (X : mjX) (d C S kc ks : Nat) (k : mjH → mjU) : Prop := ∀  (hp : mjH) (q : Option Value × mjH), k  hp = some q → mjG X d C S J_255 (mjEq q) 11 [none, none, none, none] [] hp kc ks
def P_255_51 (X : mjX) (d C S kc ks : Nat) (k : Nat → Int32 → Int32 → Int32 → mjH → mjU) : Prop := ∀ (l0 : Nat) (l1 : Int32) (l2 : Int32) (l3 : Int32) (hp : mjH) (q : Option Value × mjH), k l0 l1 l2 l3 hp = some q → mjG X d C S J_255 (mjEq q) 51 [some (.ref l0), some (.int l1), some (.int l2), some (.int l3)] [] hp kc ks
def P_255_21 (X : mjX) (d C S kc ks : Nat) (k : Nat → Int32 → Int32 → Int32 → mjH → mjU) : Prop := ∀ (l0 : Nat) (l1 : Int32) (l2 : Int32) (l3 : Int32) (hp : mjH) (q : Option Value × mjH), k l0 l1 l2 l3 hp = some q → mjG X d C S J_255 (mjEq q) 21 [some (.ref l0), some (.int l1), some (.int l2), some (.int l3)] [] hp kc ks
def P_255_0 (X : mjX) (d C S kc ks : Nat) (k : Nat → Int32 → mjH → mjU) : Prop := ∀ (l0 : Nat) (l1 : Int32) (hp : mjH) (q : Option Value × mjH), k l0 l1 hp = some q → mjG X d C S J_255 (mjEq q) 0 [some (.ref l0), some (.int l1), none, none] [] hp kc ks
noncomputable def b_255_11 (R : mjR)  (hp : mjH) : mjU := some (some (.int (-1 : Int32)), hp)
theorem t_255_11 {X : mjX} {d C S kc ks : Nat} {R : mjR} (hR : mjC R d) (h1 : kc ≤ C) (h2 : ks ≤ S) : P_255_11 X (d + 1) C S kc ks (b_255_11 R) := by
  intro  hp q h
  unfold b_255_11 at h
  refine mjq_ic (v := (-1 : Int32)) D_255_11 rfl ?_
  exact mjq_ret D_255_12 rfl h1 h2 h
noncomputable def b_255_51 (R : mjR) (k21 : Nat → Int32 → Int32 → Int32 → mjH → mjU) (l0 : Nat) (l1 : Int32) (l2 : Int32) (l3 : Int32) (hp : mjH) : mjU := k21 l0 l1 l2 (l3 + (1 : Int32)) hp
theorem t_255_51 {X : mjX} {d C S kc ks : Nat} {R : mjR} (hR : mjC R d) (h1 : kc ≤ C) (h2 : ks ≤ S) {k21 : Nat → Int32 → Int32 → Int32 → mjH → mjU} (hk21 : P_255_21 X (d + 1) C S kc ks k21) : P_255_51 X (d + 1) C S kc ks (b_255_51 R k21) := by
  intro l0 l1 l2 l3 hp q h
  unfold b_255_51 at h
  refine mjq_iinc (x := l3) (c := (1 : Int32)) (lo' := [some (.ref l0), some (.int l1), some (.int l2), some (.int (l3 + (1 : Int32)))]) D_255_51 rfl (Nat.le_of_ble_eq_true rfl) rfl rfl ?_
  refine mjr_goto (tgt := 21) D_255_54 rfl ?_
  exact hk21 _ _ _ _ _ _ h
noncomputable def b_255_21 (R : mjR) (k21 : Nat → Int32 → Int32 → Int32 → mjH → mjU) (l0 : Nat) (l1 : Int32) (l2 : Int32) (l3 : Int32) (hp : mjH) : mjU := gI hp l0 12 103 (fun v1 => (if v1 < l3 then some (some (.int (-1 : Int32)), hp) else gR hp l0 12 125 (fun v2 => aB hp v2 l3 (fun v3 => (if v3 = 0 then b_255_51 R k21 l0 l1 l2 l3 hp else (if l2 = l1 then some (some (.int l3), hp) else b_255_51 R k21 l0 l1 (l2 + (1 : Int32)) l3 hp))))))
theorem t_255_21 {X : mjX} {d C S kc ks : Nat} {R : mjR} (hR : mjC R d) (h1 : kc ≤ C) (h2 : ks ≤ S) {k21 : Nat → Int32 → Int32 → Int32 → mjH → mjU} (hk21 : P_255_21 X (d + 1) C S kc ks k21) : P_255_21 X (d + 1) C S kc ks (b_255_21 R k21) := by
  intro l0 l1 l2 l3 hp q h
  unfold b_255_21 at h
  refine mjr_iload_n (x := l3) D_255_21 rfl ?_
  refine mjr_aload_n (x := l0) D_255_22 rfl ?_
  refine mjq_gI D_255_23 fr_12_699 h (fun v1 h => ?_)
  refine mjq_icmp_gt (tgt := 57) D_255_26 rfl h (fun h => ?_) (fun h => ?_)
  · refine mjq_ic (v := (-1 : Int32)) D_255_57 rfl ?_
    exact mjq_ret D_255_58 rfl h1 h2 h
  · refine mjr_aload_n (x := l0) D_255_29 rfl ?_
    refine mjq_gR D_255_30 fr_12_269 h (fun v2 h => ?_)
    refine mjr_iload_n (x := l3) D_255_33 rfl ?_
    refine mjq_aB D_255_34 h (fun v3 h => ?_)
    refine mjq_if_ne (tgt := 41) D_255_35 rfl h (fun h => ?_) (fun h => ?_)
    · refine mjr_iload_n (x := l2) D_255_41 rfl ?_
      refine mjr_iload_n (x := l1) D_255_42 rfl ?_
      refine mjq_icmp_ne (tgt := 48) D_255_43 rfl h (fun h => ?_) (fun h => ?_)
      · refine mjq_iinc (x := l2) (c := (1 : Int32)) (lo' := [some (.ref l0), some (.int l1), some (.int (l2 + (1 : Int32))), some (.int l3)]) D_255_48 rfl (Nat.le_of_ble_eq_true rfl) rfl rfl ?_
        exact (t_255_51 hR h1 h2 hk21) _ _ _ _ _ _ h
      · refine mjr_iload_n (x := l3) D_255_46 rfl ?_
        exact mjq_ret D_255_47 rfl h1 h2 h
    · refine mjr_goto (tgt := 51) D_255_38 rfl ?_
      exact (t_255_51 hR h1 h2 hk21) _ _ _ _ _ _ h
noncomputable def L_255_21 (R : mjR) (n : Nat) : Nat → Int32 → Int32 → Int32 → mjH → mjU := Nat.rec (motive := fun _ => Nat → Int32 → Int32 → Int32 → mjH → mjU) (fun _ _ _ _ _ => none) (fun _ self => b_255_21 R self) n
theorem T_255_21 {X : mjX} {d C S kc ks : Nat} {R : mjR} (hR : mjC R d) (h1 : kc ≤ C) (h2 : ks ≤ S) (n : Nat) : P_255_21 X (d + 1) C S kc ks (L_255_21 R n) := by
  induction n with
  | zero => intro _ _ _ _ _ _ h; exact mj_no h
  | succ n ih => exact t_255_21 hR h1 h2 ih
noncomputable def b_255_0 (R : mjR) (l0 : Nat) (l1 : Int32) (hp : mjH) : mjU := gI hp l0 12 96 (fun v1 => (if v1 = 0 then b_255_11 R hp else (if 0 ≤ l1 then rV hp l0 12 (bN (R 252 [.ref l0] hp) (fun  hp2 => L_255_21 R mjN l0 l1 (0 : Int32) (1 : Int32) hp2)) else b_255_11 R hp)))
theorem t_255_0 {X : mjX} {d C S kc ks : Nat} {R : mjR} (hR : mjC R d) (h1 : kc ≤ C) (h2 : ks ≤ S) : P_255_0 X (d + 1) C S kc ks (b_255_0 R) := by
  intro l0 l1 hp q h
  unfold b_255_0 at h
  refine mjr_aload_n (x := l0) D_255_0 rfl ?_
  refine mjq_gI D_255_1 fr_12_636 h (fun v1 h => ?_)
  refine mjq_if_eq (tgt := 11) D_255_4 rfl h (fun h => ?_) (fun h => ?_)
  · exact mjG.fg (lo' := [none, none, none, none]) True.intro ((t_255_11 hR h1 h2) _ _ h)
  · refine mjr_iload_n (x := l1) D_255_7 rfl ?_
    refine mjq_if_ge (tgt := 13) D_255_8 rfl h (fun h => ?_) (fun h => ?_)
    · refine mjr_aload_n (x := l0) D_255_13 rfl ?_
      refine mjq_vN (As := []) (rest := []) D_255_14 mr_12_735 V_252 rfl rfl rfl hR (Nat.le_refl _) h1 h2 h (fun  hp2 h => ?_)
      refine mjq_ic (v := (0 : Int32)) D_255_17 rfl ?_
      refine mjq_istore_n (lo' := [some (.ref l0), some (.int l1), some (.int (0 : Int32)), none]) D_255_18 (Nat.le_of_ble_eq_true rfl) rfl ?_
      refine mjq_ic (v := (1 : Int32)) D_255_19 rfl ?_
      refine mjq_istore_n (lo' := [some (.ref l0), some (.int l1), some (.int (0 : Int32)), some (.int (1 : Int32))]) D_255_20 (Nat.le_of_ble_eq_true rfl) rfl ?_
      exact (T_255_21 hR h1 h2 mjN) _ _ _ _ _ _ h
    · exact mjG.fg (lo' := [none, none, none, none]) True.intro ((t_255_11 hR h1 h2) _ _ h)
noncomputable def f_255 (R : mjR) (a0 : Nat) (a1 : Int32) (hp : mjH) : mjU := b_255_0 R a0 a1 hp
theorem c_255 {R : mjR} {d : Nat} (hR : mjC R d) {a0 : Nat} {a1 : Int32} {hp : mjH} {q : Option Value × mjH} (h : f_255 R a0 a1 hp = some q) : mjM (d + 1) 0 0 255 [.ref a0, .int a1] hp (mjEq q) :=
  mjM_of Ja_255 (Nat.le_of_ble_eq_true rfl) (mjG.fg (lo' := [some (.ref a0), some (.int a1), none, none]) (And.intro rfl (And.intro rfl True.intro)) ((t_255_0 hR (Nat.le_refl 0) (Nat.le_refl 0)) a0 a1 hp q h))
def J_256 : mjI := (⟨"OwnerHeapModel", "past", "(II)I"⟩, 12, prog_14_method_107_code, 4, (some .int), 2, false)
theorem Ja_256 : mjMt 256 = some J_256 := by rfl
theorem D_256_0 : decode J_256.2.2.1 0 = .ok (.aload_n 0, 1) := dzq_42 (by decide +kernel)
theorem D_256_1 : decode J_256.2.2.1 1 = .ok (.iload_n 1, 1) := dzq_27 (by decide +kernel)
theorem D_256_2 : decode J_256.2.2.1 2 = .ok (.invokevirtual 729, 3) := dzq_182 (by decide +kernel)
theorem D_256_5 : decode J_256.2.2.1 5 = .ok (.ifCond .eq 7, 3) := dzq_153 (by decide +kernel)
theorem D_256_8 : decode J_256.2.2.1 8 = .ok (.iload_n 2, 1) := dzq_28 (by decide +kernel)
theorem D_256_9 : decode J_256.2.2.1 9 = .ok (.ifCond .ge 5, 3) := dzq_156 (by decide +kernel)
theorem D_256_12 : decode J_256.2.2.1 12 = .ok (.iconst (-1), 1) := dzq_2 (by decide +kernel)
theorem D_256_13 : decode J_256.2.2.1 13 = .ok (.ireturn, 1) := dzq_172 (by decide +kernel)
theorem D_256_14 : decode J_256.2.2.1 14 = .ok (.aload_n 0, 1) := dzq_42 (by decide +kernel)
theorem D_256_15 : decode J_256.2.2.1 15 = .ok (.invokevirtual 735, 3) := dzq_182 (by decide +kernel)
theorem D_256_18 : decode J_256.2.2.1 18 = .ok (.aload_n 0, 1) := dzq_42 (by decide +kernel)
theorem D_256_19 : decode J_256.2.2.1 19 = .ok (.getfield 269, 3) := dzq_180 (by decide +kernel)
theorem D_256_22 : decode J_256.2.2.1 22 = .ok (.iload_n 1, 1) := dzq_27 (by decide +kernel)
theorem D_256_23 : decode J_256.2.2.1 23 = .ok (.baload, 1) := dzq_51 (by decide +kernel)
theorem D_256_24 : decode J_256.2.2.1 24 = .ok (.ifCond .ne 5, 3) := dzq_154 (by decide +kernel)
theorem D_256_27 : decode J_256.2.2.1 27 = .ok (.iconst (-1), 1) := dzq_2 (by decide +kernel)
theorem D_256_28 : decode J_256.2.2.1 28 = .ok (.ireturn, 1) := dzq_172 (by decide +kernel)
theorem D_256_29 : decode J_256.2.2.1 29 = .ok (.aload_n 0, 1) := dzq_42 (by decide +kernel)
theorem D_256_30 : decode J_256.2.2.1 30 = .ok (.aload_n 0, 1) := dzq_42 (by decide +kernel)
theorem D_256_31 : decode J_256.2.2.1 31 = .ok (.iload_n 1, 1) := dzq_27 (by decide +kernel)
theorem D_256_32 : decode J_256.2.2.1 32 = .ok (.invokevirtual 723, 3) := dzq_182 (by decide +kernel)
theorem D_256_35 : decode J_256.2.2.1 35 = .ok (.invokevirtual 741, 3) := dzq_182 (by decide +kernel)
theorem D_256_38 : decode J_256.2.2.1 38 = .ok (.aload_n 0, 1) := dzq_42 (by decide +kernel)
theorem D_256_39 : decode J_256.2.2.1 39 = .ok (.iload_n 1, 1) := dzq_27 (by decide +kernel)
theorem D_256_40 : decode J_256.2.2.1 40 = .ok (.invokevirtual 732, 3) := dzq_182 (by decide +kernel)
theorem D_256_43 : decode J_256.2.2.1 43 = .ok (.istore_n 3, 1) := dzq_62 (by decide +kernel)
theorem D_256_44 : decode J_256.2.2.1 44 = .ok (.iload_n 2, 1) := dzq_28 (by decide +kernel)
theorem D_256_45 : decode J_256.2.2.1 45 = .ok (.aload_n 0, 1) := dzq_42 (by decide +kernel)
theorem D_256_46 : decode J_256.2.2.1 46 = .ok (.getfield 266, 3) := dzq_180 (by decide +kernel)
theorem D_256_49 : decode J_256.2.2.1 49 = .ok (.iload_n 3, 1) := dzq_29 (by decide +kernel)
theorem D_256_50 : decode J_256.2.2.1 50 = .ok (.iaload, 1) := dzq_46 (by decide +kernel)
theorem D_256_51 : decode J_256.2.2.1 51 = .ok (.if_icmp .le 5, 3) := dzq_164 (by decide +kernel)
theorem D_256_54 : decode J_256.2.2.1 54 = .ok (.iconst (-1), 1) := dzq_2 (by decide +kernel)
theorem D_256_55 : decode J_256.2.2.1 55 = .ok (.ireturn, 1) := dzq_172 (by decide +kernel)
theorem D_256_56 : decode J_256.2.2.1 56 = .ok (.aload_n 0, 1) := dzq_42 (by decide +kernel)
theorem D_256_57 : decode J_256.2.2.1 57 = .ok (.getfield 266, 3) := dzq_180 (by decide +kernel)
theorem D_256_60 : decode J_256.2.2.1 60 = .ok (.iload_n 3, 1) := dzq_29 (by decide +kernel)
theorem D_256_61 : decode J_256.2.2.1 61 = .ok (.iaload, 1) := dzq_46 (by decide +kernel)
theorem D_256_62 : decode J_256.2.2.1 62 = .ok (.iload_n 2, 1) := dzq_28 (by decide +kernel)
theorem D_256_63 : decode J_256.2.2.1 63 = .ok (.if_icmp .le 13, 3) := dzq_164 (by decide +kernel)
theorem D_256_66 : decode J_256.2.2.1 66 = .ok (.aload_n 0, 1) := dzq_42 (by decide +kernel)
theorem D_256_67 : decode J_256.2.2.1 67 = .ok (.getfield 263, 3) := dzq_180 (by decide +kernel)
theorem D_256_70 : decode J_256.2.2.1 70 = .ok (.iload_n 3, 1) := dzq_29 (by decide +kernel)
theorem D_256_71 : decode J_256.2.2.1 71 = .ok (.iaload, 1) := dzq_46 (by decide +kernel)
theorem D_256_72 : decode J_256.2.2.1 72 = .ok (.istore_n 3, 1) := dzq_62 (by decide +kernel)
theorem D_256_73 : decode J_256.2.2.1 73 = .ok (.goto (-17), 3) := dzq_167 (by decide +kernel)
theorem D_256_76 : decode J_256.2.2.1 76 = .ok (.aload_n 0, 1) := dzq_42 (by decide +kernel)
theorem D_256_77 : decode J_256.2.2.1 77 = .ok (.getfield 260, 3) := dzq_180 (by decide +kernel)
theorem D_256_80 : decode J_256.2.2.1 80 = .ok (.iload_n 3, 1) := dzq_29 (by decide +kernel)
theorem D_256_81 : decode J_256.2.2.1 81 = .ok (.iaload, 1) := dzq_46 (by decide +kernel)
theorem D_256_82 : decode J_256.2.2.1 82 = .ok (.ireturn, 1) := dzq_172 (by decide +kernel)
def P_256_12 (X : mjX) (d C S kc ks : Nat) (k : mjH → mjU) : Prop := ∀  (hp : mjH) (q : Option Value × mjH), k  hp = some q → mjG X d C S J_256 (mjEq q) 12 [none, none, none, none] [] hp kc ks
def P_256_56 (X : mjX) (d C S kc ks : Nat) (k : Nat → Int32 → Int32 → mjH → mjU) : Prop := ∀ (l0 : Nat) (l2 : Int32) (l3 : Int32) (hp : mjH) (q : Option Value × mjH), k l0 l2 l3 hp = some q → mjG X d C S J_256 (mjEq q) 56 [some (.ref l0), none, some (.int l2), some (.int l3)] [] hp kc ks
def P_256_0 (X : mjX) (d C S kc ks : Nat) (k : Nat → Int32 → Int32 → mjH → mjU) : Prop := ∀ (l0 : Nat) (l1 : Int32) (l2 : Int32) (hp : mjH) (q : Option Value × mjH), k l0 l1 l2 hp = some q → mjG X d C S J_256 (mjEq q) 0 [some (.ref l0), some (.int l1), some (.int l2), none] [] hp kc ks
noncomputable def b_256_12 (R : mjR)  (hp : mjH) : mjU := some (some (.int (-1 : Int32)), hp)
theorem t_256_12 {X : mjX} {d C S kc ks : Nat} {R : mjR} (hR : mjC R d) (h1 : kc ≤ C) (h2 : ks ≤ S) : P_256_12 X (d + 1) C S kc ks (b_256_12 R) := by
  intro  hp q h
  unfold b_256_12 at h
  refine mjq_ic (v := (-1 : Int32)) D_256_12 rfl ?_
  exact mjq_ret D_256_13 rfl h1 h2 h
noncomputable def b_256_56 (R : mjR) (k56 : Nat → Int32 → Int32 → mjH → mjU) (l0 : Nat) (l2 : Int32) (l3 : Int32) (hp : mjH) : mjU := gR hp l0 12 123 (fun v1 => aI hp v1 l3 (fun v2 => (if v2 ≤ l2 then gR hp l0 12 121 (fun v3 => aI hp v3 l3 (fun v4 => some (some (.int v4), hp))) else gR hp l0 12 122 (fun v5 => aI hp v5 l3 (fun v6 => k56 l0 l2 v6 hp)))))
theorem t_256_56 {X : mjX} {d C S kc ks : Nat} {R : mjR} (hR : mjC R d) (h1 : kc ≤ C) (h2 : ks ≤ S) {k56 : Nat → Int32 → Int32 → mjH → mjU} (hk56 : P_256_56 X (d + 1) C S kc ks k56) : P_256_56 X (d + 1) C S kc ks (b_256_56 R k56) := by
  intro l0 l2 l3 hp q h
  unfold b_256_56 at h
  refine mjr_aload_n (x := l0) D_256_56 rfl ?_
  refine mjq_gR D_256_57 fr_12_266 h (fun v1 h => ?_)
  refine mjr_iload_n (x := l3) D_256_60 rfl ?_
  refine mjq_aI D_256_61 h (fun v2 h => ?_)
  refine mjr_iload_n (x := l2) D_256_62 rfl ?_
  refine mjq_icmp_le (tgt := 76) D_256_63 rfl h (fun h => ?_) (fun h => ?_)
  · refine mjr_aload_n (x := l0) D_256_76 rfl ?_
    refine mjq_gR D_256_77 fr_12_260 h (fun v3 h => ?_)
    refine mjr_iload_n (x := l3) D_256_80 rfl ?_
    refine mjq_aI D_256_81 h (fun v4 h => ?_)
    exact mjq_ret D_256_82 rfl h1 h2 h
  · refine mjr_aload_n (x := l0) D_256_66 rfl ?_
    refine mjq_gR D_256_67 fr_12_263 h (fun v5 h => ?_)
    refine mjr_iload_n (x := l3) D_256_70 rfl ?_
    refine mjq_aI D_256_71 h (fun v6 h => ?_)
    refine mjq_istore_n (lo' := [some (.ref l0), none, some (.int l2), some (.int v6)]) D_256_72 (Nat.le_of_ble_eq_true rfl) rfl ?_
    refine mjr_goto (tgt := 56) D_256_73 rfl ?_
    exact hk56 _ _ _ _ _ h
noncomputable def L_256_56 (R : mjR) (n : Nat) : Nat → Int32 → Int32 → mjH → mjU := Nat.rec (motive := fun _ => Nat → Int32 → Int32 → mjH → mjU) (fun _ _ _ _ => none) (fun _ self => b_256_56 R self) n
theorem T_256_56 {X : mjX} {d C S kc ks : Nat} {R : mjR} (hR : mjC R d) (h1 : kc ≤ C) (h2 : ks ≤ S) (n : Nat) : P_256_56 X (d + 1) C S kc ks (L_256_56 R n) := by
  induction n with
  | zero => intro _ _ _ _ _ h; exact mj_no h
  | succ n ih => exact t_256_56 hR h1 h2 ih
noncomputable def b_256_0 (R : mjR) (l0 : Nat) (l1 : Int32) (l2 : Int32) (hp : mjH) : mjU := rV hp l0 12 (bI (R 246 [.ref l0, .int l1] hp) (fun v1 hp2 => (if v1 = 0 then b_256_12 R hp2 else (if 0 ≤ l2 then rV hp2 l0 12 (bN (R 252 [.ref l0] hp2) (fun  hp3 => gR hp3 l0 12 125 (fun v4 => aB hp3 v4 l1 (fun v5 => (if v5 = 0 then some (some (.int (-1 : Int32)), hp3) else rV hp3 l0 12 (bI (R 253 [.ref l0, .int l1] hp3) (fun v6 hp7 => rV hp7 l0 12 (bN (R 254 [.ref l0, .int v6] hp7) (fun  hp8 => rV hp8 l0 12 (bI (R 250 [.ref l0, .int l1] hp8) (fun v9 hp10 => gR hp10 l0 12 123 (fun v11 => aI hp10 v11 v9 (fun v12 => (if l2 ≤ v12 then L_256_56 R mjN l0 l2 v9 hp10 else some (some (.int (-1 : Int32)), hp10))))))))))))))) else b_256_12 R hp2))))
theorem t_256_0 {X : mjX} {d C S kc ks : Nat} {R : mjR} (hR : mjC R d) (h1 : kc ≤ C) (h2 : ks ≤ S) : P_256_0 X (d + 1) C S kc ks (b_256_0 R) := by
  intro l0 l1 l2 hp q h
  unfold b_256_0 at h
  refine mjr_aload_n (x := l0) D_256_0 rfl ?_
  refine mjr_iload_n (x := l1) D_256_1 rfl ?_
  refine mjq_vI (As := [.int l1]) (rest := []) D_256_2 mr_12_729 V_246 rfl rfl rfl hR (Nat.le_refl _) h1 h2 h (fun v1 hp2 h => ?_)
  refine mjq_if_eq (tgt := 12) D_256_5 rfl h (fun h => ?_) (fun h => ?_)
  · exact mjG.fg (lo' := [none, none, none, none]) True.intro ((t_256_12 hR h1 h2) _ _ h)
  · refine mjr_iload_n (x := l2) D_256_8 rfl ?_
    refine mjq_if_ge (tgt := 14) D_256_9 rfl h (fun h => ?_) (fun h => ?_)
    · refine mjr_aload_n (x := l0) D_256_14 rfl ?_
      refine mjq_vN (As := []) (rest := []) D_256_15 mr_12_735 V_252 rfl rfl rfl hR (Nat.le_refl _) h1 h2 h (fun  hp3 h => ?_)
      refine mjr_aload_n (x := l0) D_256_18 rfl ?_
      refine mjq_gR D_256_19 fr_12_269 h (fun v4 h => ?_)
      refine mjr_iload_n (x := l1) D_256_22 rfl ?_
      refine mjq_aB D_256_23 h (fun v5 h => ?_)
      refine mjq_if_ne (tgt := 29) D_256_24 rfl h (fun h => ?_) (fun h => ?_)
      · refine mjr_aload_n (x := l0) D_256_29 rfl ?_
        refine mjr_aload_n (x := l0) D_256_30 rfl ?_
        refine mjr_iload_n (x := l1) D_256_31 rfl ?_
        refine mjq_vI (As := [.int l1]) (rest := [.ref l0]) D_256_32 mr_12_723 V_253 rfl rfl rfl hR (Nat.le_refl _) h1 h2 h (fun v6 hp7 h => ?_)
        refine mjq_vN (As := [.int v6]) (rest := []) D_256_35 mr_12_741 V_254 rfl rfl rfl hR (Nat.le_refl _) h1 h2 h (fun  hp8 h => ?_)
        refine mjr_aload_n (x := l0) D_256_38 rfl ?_
        refine mjr_iload_n (x := l1) D_256_39 rfl ?_
        refine mjq_vI (As := [.int l1]) (rest := []) D_256_40 mr_12_732 V_250 rfl rfl rfl hR (Nat.le_refl _) h1 h2 h (fun v9 hp10 h => ?_)
        refine mjq_istore_n (lo' := [some (.ref l0), some (.int l1), some (.int l2), some (.int v9)]) D_256_43 (Nat.le_of_ble_eq_true rfl) rfl ?_
        refine mjr_iload_n (x := l2) D_256_44 rfl ?_
        refine mjr_aload_n (x := l0) D_256_45 rfl ?_
        refine mjq_gR D_256_46 fr_12_266 h (fun v11 h => ?_)
        refine mjr_iload_n (x := v9) D_256_49 rfl ?_
        refine mjq_aI D_256_50 h (fun v12 h => ?_)
        refine mjq_icmp_le (tgt := 56) D_256_51 rfl h (fun h => ?_) (fun h => ?_)
        · exact mjG.fg (lo' := [some (.ref l0), none, some (.int l2), some (.int v9)]) (And.intro rfl (And.intro rfl (And.intro rfl True.intro))) ((T_256_56 hR h1 h2 mjN) _ _ _ _ _ h)
        · refine mjq_ic (v := (-1 : Int32)) D_256_54 rfl ?_
          exact mjq_ret D_256_55 rfl h1 h2 h
      · refine mjq_ic (v := (-1 : Int32)) D_256_27 rfl ?_
        exact mjq_ret D_256_28 rfl h1 h2 h
    · exact mjG.fg (lo' := [none, none, none, none]) True.intro ((t_256_12 hR h1 h2) _ _ h)
noncomputable def f_256 (R : mjR) (a0 : Nat) (a1 : Int32) (a2 : Int32) (hp : mjH) : mjU := b_256_0 R a0 a1 a2 hp
theorem c_256 {R : mjR} {d : Nat} (hR : mjC R d) {a0 : Nat} {a1 : Int32} {a2 : Int32} {hp : mjH} {q : Option Value × mjH} (h : f_256 R a0 a1 a2 hp = some q) : mjM (d + 1) 0 0 256 [.ref a0, .int a1, .int a2] hp (mjEq q) :=
  mjM_of Ja_256 (Nat.le_of_ble_eq_true rfl) (mjG.fg (lo' := [some (.ref a0), some (.int a1), some (.int a2), none]) (And.intro rfl (And.intro rfl (And.intro rfl True.intro))) ((t_256_0 hR (Nat.le_refl 0) (Nat.le_refl 0)) a0 a1 a2 hp q h))
def J_257 : mjI := (⟨"OwnerHeapModel", "above", "(I)I"⟩, 12, prog_14_method_108_code, 5, (some .int), 1, false)
theorem Ja_257 : mjMt 257 = some J_257 := by rfl
theorem D_257_0 : decode J_257.2.2.1 0 = .ok (.aload_n 0, 1) := dzq_42 (by decide +kernel)
theorem D_257_1 : decode J_257.2.2.1 1 = .ok (.iload_n 1, 1) := dzq_27 (by decide +kernel)
theorem D_257_2 : decode J_257.2.2.1 2 = .ok (.invokevirtual 729, 3) := dzq_182 (by decide +kernel)
theorem D_257_5 : decode J_257.2.2.1 5 = .ok (.ifCond .ne 5, 3) := dzq_154 (by decide +kernel)
theorem D_257_8 : decode J_257.2.2.1 8 = .ok (.iconst (-1), 1) := dzq_2 (by decide +kernel)
theorem D_257_9 : decode J_257.2.2.1 9 = .ok (.ireturn, 1) := dzq_172 (by decide +kernel)
theorem D_257_10 : decode J_257.2.2.1 10 = .ok (.aload_n 0, 1) := dzq_42 (by decide +kernel)
theorem D_257_11 : decode J_257.2.2.1 11 = .ok (.iconst 0, 1) := dzq_3 (by decide +kernel)
theorem D_257_12 : decode J_257.2.2.1 12 = .ok (.invokevirtual 741, 3) := dzq_182 (by decide +kernel)
theorem D_257_15 : decode J_257.2.2.1 15 = .ok (.aload_n 0, 1) := dzq_42 (by decide +kernel)
theorem D_257_16 : decode J_257.2.2.1 16 = .ok (.iload_n 1, 1) := dzq_27 (by decide +kernel)
theorem D_257_17 : decode J_257.2.2.1 17 = .ok (.invokevirtual 732, 3) := dzq_182 (by decide +kernel)
theorem D_257_20 : decode J_257.2.2.1 20 = .ok (.istore_n 2, 1) := dzq_61 (by decide +kernel)
theorem D_257_21 : decode J_257.2.2.1 21 = .ok (.iload_n 2, 1) := dzq_28 (by decide +kernel)
theorem D_257_22 : decode J_257.2.2.1 22 = .ok (.ifCond .ge 5, 3) := dzq_156 (by decide +kernel)
theorem D_257_25 : decode J_257.2.2.1 25 = .ok (.iconst (-1), 1) := dzq_2 (by decide +kernel)
theorem D_257_26 : decode J_257.2.2.1 26 = .ok (.ireturn, 1) := dzq_172 (by decide +kernel)
theorem D_257_27 : decode J_257.2.2.1 27 = .ok (.aload_n 0, 1) := dzq_42 (by decide +kernel)
theorem D_257_28 : decode J_257.2.2.1 28 = .ok (.getfield 266, 3) := dzq_180 (by decide +kernel)
theorem D_257_31 : decode J_257.2.2.1 31 = .ok (.iload_n 2, 1) := dzq_28 (by decide +kernel)
theorem D_257_32 : decode J_257.2.2.1 32 = .ok (.iaload, 1) := dzq_46 (by decide +kernel)
theorem D_257_33 : decode J_257.2.2.1 33 = .ok (.istore_n 3, 1) := dzq_62 (by decide +kernel)
theorem D_257_34 : decode J_257.2.2.1 34 = .ok (.iload_n 3, 1) := dzq_29 (by decide +kernel)
theorem D_257_35 : decode J_257.2.2.1 35 = .ok (.iconst 1, 1) := dzq_4 (by decide +kernel)
theorem D_257_36 : decode J_257.2.2.1 36 = .ok (.isub, 1) := dzq_100 (by decide +kernel)
theorem D_257_37 : decode J_257.2.2.1 37 = .ok (.istore 4, 2) := dzq_54 (by decide +kernel)
theorem D_257_39 : decode J_257.2.2.1 39 = .ok (.iload 4, 2) := dzq_21 (by decide +kernel)
theorem D_257_41 : decode J_257.2.2.1 41 = .ok (.ifCond .lt 29, 3) := dzq_155 (by decide +kernel)
theorem D_257_44 : decode J_257.2.2.1 44 = .ok (.aload_n 0, 1) := dzq_42 (by decide +kernel)
theorem D_257_45 : decode J_257.2.2.1 45 = .ok (.getfield 263, 3) := dzq_180 (by decide +kernel)
theorem D_257_48 : decode J_257.2.2.1 48 = .ok (.iload_n 2, 1) := dzq_28 (by decide +kernel)
theorem D_257_49 : decode J_257.2.2.1 49 = .ok (.iaload, 1) := dzq_46 (by decide +kernel)
theorem D_257_50 : decode J_257.2.2.1 50 = .ok (.istore_n 2, 1) := dzq_61 (by decide +kernel)
theorem D_257_51 : decode J_257.2.2.1 51 = .ok (.aload_n 0, 1) := dzq_42 (by decide +kernel)
theorem D_257_52 : decode J_257.2.2.1 52 = .ok (.getfield 287, 3) := dzq_180 (by decide +kernel)
theorem D_257_55 : decode J_257.2.2.1 55 = .ok (.iload 4, 2) := dzq_21 (by decide +kernel)
theorem D_257_57 : decode J_257.2.2.1 57 = .ok (.aload_n 0, 1) := dzq_42 (by decide +kernel)
theorem D_257_58 : decode J_257.2.2.1 58 = .ok (.getfield 260, 3) := dzq_180 (by decide +kernel)
theorem D_257_61 : decode J_257.2.2.1 61 = .ok (.iload_n 2, 1) := dzq_28 (by decide +kernel)
theorem D_257_62 : decode J_257.2.2.1 62 = .ok (.iaload, 1) := dzq_46 (by decide +kernel)
theorem D_257_63 : decode J_257.2.2.1 63 = .ok (.iastore, 1) := dzq_79 (by decide +kernel)
theorem D_257_64 : decode J_257.2.2.1 64 = .ok (.iinc 4 (-1), 3) := dzq_132 (by decide +kernel)
theorem D_257_67 : decode J_257.2.2.1 67 = .ok (.goto (-28), 3) := dzq_167 (by decide +kernel)
theorem D_257_70 : decode J_257.2.2.1 70 = .ok (.iload_n 3, 1) := dzq_29 (by decide +kernel)
theorem D_257_71 : decode J_257.2.2.1 71 = .ok (.iconst 1, 1) := dzq_4 (by decide +kernel)
theorem D_257_72 : decode J_257.2.2.1 72 = .ok (.isub, 1) := dzq_100 (by decide +kernel)
theorem D_257_73 : decode J_257.2.2.1 73 = .ok (.istore 4, 2) := dzq_54 (by decide +kernel)
theorem D_257_75 : decode J_257.2.2.1 75 = .ok (.iload 4, 2) := dzq_21 (by decide +kernel)
theorem D_257_77 : decode J_257.2.2.1 77 = .ok (.ifCond .lt 37, 3) := dzq_155 (by decide +kernel)
theorem D_257_80 : decode J_257.2.2.1 80 = .ok (.aload_n 0, 1) := dzq_42 (by decide +kernel)
theorem D_257_81 : decode J_257.2.2.1 81 = .ok (.aload_n 0, 1) := dzq_42 (by decide +kernel)
theorem D_257_82 : decode J_257.2.2.1 82 = .ok (.getfield 287, 3) := dzq_180 (by decide +kernel)
theorem D_257_85 : decode J_257.2.2.1 85 = .ok (.iload 4, 2) := dzq_21 (by decide +kernel)
theorem D_257_87 : decode J_257.2.2.1 87 = .ok (.iaload, 1) := dzq_46 (by decide +kernel)
theorem D_257_88 : decode J_257.2.2.1 88 = .ok (.invokevirtual 741, 3) := dzq_182 (by decide +kernel)
theorem D_257_91 : decode J_257.2.2.1 91 = .ok (.aload_n 0, 1) := dzq_42 (by decide +kernel)
theorem D_257_92 : decode J_257.2.2.1 92 = .ok (.getfield 257, 3) := dzq_180 (by decide +kernel)
theorem D_257_95 : decode J_257.2.2.1 95 = .ok (.iload_n 1, 1) := dzq_27 (by decide +kernel)
theorem D_257_96 : decode J_257.2.2.1 96 = .ok (.baload, 1) := dzq_51 (by decide +kernel)
theorem D_257_97 : decode J_257.2.2.1 97 = .ok (.ifCond .ne 11, 3) := dzq_154 (by decide +kernel)
theorem D_257_100 : decode J_257.2.2.1 100 = .ok (.aload_n 0, 1) := dzq_42 (by decide +kernel)
theorem D_257_101 : decode J_257.2.2.1 101 = .ok (.getfield 287, 3) := dzq_180 (by decide +kernel)
theorem D_257_104 : decode J_257.2.2.1 104 = .ok (.iload 4, 2) := dzq_21 (by decide +kernel)
theorem D_257_106 : decode J_257.2.2.1 106 = .ok (.iaload, 1) := dzq_46 (by decide +kernel)
theorem D_257_107 : decode J_257.2.2.1 107 = .ok (.ireturn, 1) := dzq_172 (by decide +kernel)
theorem D_257_108 : decode J_257.2.2.1 108 = .ok (.iinc 4 (-1), 3) := dzq_132 (by decide +kernel)
theorem D_257_111 : decode J_257.2.2.1 111 = .ok (.goto (-36), 3) := dzq_167 (by decide +kernel)
theorem D_257_114 : decode J_257.2.2.1 114 = .ok (.iconst 0, 1) := dzq_3 (by decide +kernel)
theorem D_257_115 : decode J_257.2.2.1 115 = .ok (.ireturn, 1) := dzq_172 (by decide +kernel)
def P_257_75 (X : mjX) (d C S kc ks : Nat) (k : Nat → Int32 → Int32 → mjH → mjU) : Prop := ∀ (l0 : Nat) (l1 : Int32) (l4 : Int32) (hp : mjH) (q : Option Value × mjH), k l0 l1 l4 hp = some q → mjG X d C S J_257 (mjEq q) 75 [some (.ref l0), some (.int l1), none, none, some (.int l4)] [] hp kc ks
def P_257_39 (X : mjX) (d C S kc ks : Nat) (k : Nat → Int32 → Int32 → Int32 → Int32 → mjH → mjU) : Prop := ∀ (l0 : Nat) (l1 : Int32) (l2 : Int32) (l3 : Int32) (l4 : Int32) (hp : mjH) (q : Option Value × mjH), k l0 l1 l2 l3 l4 hp = some q → mjG X d C S J_257 (mjEq q) 39 [some (.ref l0), some (.int l1), some (.int l2), some (.int l3), some (.int l4)] [] hp kc ks
def P_257_0 (X : mjX) (d C S kc ks : Nat) (k : Nat → Int32 → mjH → mjU) : Prop := ∀ (l0 : Nat) (l1 : Int32) (hp : mjH) (q : Option Value × mjH), k l0 l1 hp = some q → mjG X d C S J_257 (mjEq q) 0 [some (.ref l0), some (.int l1), none, none, none] [] hp kc ks
noncomputable def b_257_75 (R : mjR) (k75 : Nat → Int32 → Int32 → mjH → mjU) (l0 : Nat) (l1 : Int32) (l4 : Int32) (hp : mjH) : mjU := (if l4 < 0 then some (some (.int (0 : Int32)), hp) else gR hp l0 12 136 (fun v1 => aI hp v1 l4 (fun v2 => rV hp l0 12 (bN (R 254 [.ref l0, .int v2] hp) (fun  hp3 => gR hp3 l0 12 120 (fun v4 => aB hp3 v4 l1 (fun v5 => (if v5 = 0 then gR hp3 l0 12 136 (fun v6 => aI hp3 v6 l4 (fun v7 => some (some (.int v7), hp3))) else k75 l0 l1 (l4 + (-1 : Int32)) hp3))))))))
theorem t_257_75 {X : mjX} {d C S kc ks : Nat} {R : mjR} (hR : mjC R d) (h1 : kc ≤ C) (h2 : ks ≤ S) {k75 : Nat → Int32 → Int32 → mjH → mjU} (hk75 : P_257_75 X (d + 1) C S kc ks k75) : P_257_75 X (d + 1) C S kc ks (b_257_75 R k75) := by
  intro l0 l1 l4 hp q h
  unfold b_257_75 at h
  refine mjr_iload (x := l4) D_257_75 rfl ?_
  refine mjq_if_lt (tgt := 114) D_257_77 rfl h (fun h => ?_) (fun h => ?_)
  · refine mjq_ic (v := (0 : Int32)) D_257_114 rfl ?_
    exact mjq_ret D_257_115 rfl h1 h2 h
  · refine mjr_aload_n (x := l0) D_257_80 rfl ?_
    refine mjr_aload_n (x := l0) D_257_81 rfl ?_
    refine mjq_gR D_257_82 fr_12_287 h (fun v1 h => ?_)
    refine mjr_iload (x := l4) D_257_85 rfl ?_
    refine mjq_aI D_257_87 h (fun v2 h => ?_)
    refine mjq_vN (As := [.int v2]) (rest := []) D_257_88 mr_12_741 V_254 rfl rfl rfl hR (Nat.le_refl _) h1 h2 h (fun  hp3 h => ?_)
    refine mjr_aload_n (x := l0) D_257_91 rfl ?_
    refine mjq_gR D_257_92 fr_12_257 h (fun v4 h => ?_)
    refine mjr_iload_n (x := l1) D_257_95 rfl ?_
    refine mjq_aB D_257_96 h (fun v5 h => ?_)
    refine mjq_if_ne (tgt := 108) D_257_97 rfl h (fun h => ?_) (fun h => ?_)
    · refine mjq_iinc (x := l4) (c := (-1 : Int32)) (lo' := [some (.ref l0), some (.int l1), none, none, some (.int (l4 + (-1 : Int32)))]) D_257_108 rfl (Nat.le_of_ble_eq_true rfl) rfl rfl ?_
      refine mjr_goto (tgt := 75) D_257_111 rfl ?_
      exact hk75 _ _ _ _ _ h
    · refine mjr_aload_n (x := l0) D_257_100 rfl ?_
      refine mjq_gR D_257_101 fr_12_287 h (fun v6 h => ?_)
      refine mjr_iload (x := l4) D_257_104 rfl ?_
      refine mjq_aI D_257_106 h (fun v7 h => ?_)
      exact mjq_ret D_257_107 rfl h1 h2 h
noncomputable def L_257_75 (R : mjR) (n : Nat) : Nat → Int32 → Int32 → mjH → mjU := Nat.rec (motive := fun _ => Nat → Int32 → Int32 → mjH → mjU) (fun _ _ _ _ => none) (fun _ self => b_257_75 R self) n
theorem T_257_75 {X : mjX} {d C S kc ks : Nat} {R : mjR} (hR : mjC R d) (h1 : kc ≤ C) (h2 : ks ≤ S) (n : Nat) : P_257_75 X (d + 1) C S kc ks (L_257_75 R n) := by
  induction n with
  | zero => intro _ _ _ _ _ h; exact mj_no h
  | succ n ih => exact t_257_75 hR h1 h2 ih
noncomputable def b_257_39 (R : mjR) (k39 : Nat → Int32 → Int32 → Int32 → Int32 → mjH → mjU) (l0 : Nat) (l1 : Int32) (l2 : Int32) (l3 : Int32) (l4 : Int32) (hp : mjH) : mjU := (if l4 < 0 then L_257_75 R mjN l0 l1 (l3 - (1 : Int32)) hp else gR hp l0 12 122 (fun v1 => aI hp v1 l2 (fun v2 => gR hp l0 12 136 (fun v3 => gR hp l0 12 121 (fun v4 => aI hp v4 v2 (fun v5 => sI hp v3 l4 v5 (fun hp6 => k39 l0 l1 v2 l3 (l4 + (-1 : Int32)) hp6)))))))
theorem t_257_39 {X : mjX} {d C S kc ks : Nat} {R : mjR} (hR : mjC R d) (h1 : kc ≤ C) (h2 : ks ≤ S) {k39 : Nat → Int32 → Int32 → Int32 → Int32 → mjH → mjU} (hk39 : P_257_39 X (d + 1) C S kc ks k39) : P_257_39 X (d + 1) C S kc ks (b_257_39 R k39) := by
  intro l0 l1 l2 l3 l4 hp q h
  unfold b_257_39 at h
  refine mjr_iload (x := l4) D_257_39 rfl ?_
  refine mjq_if_lt (tgt := 70) D_257_41 rfl h (fun h => ?_) (fun h => ?_)
  · refine mjr_iload_n (x := l3) D_257_70 rfl ?_
    refine mjq_ic (v := (1 : Int32)) D_257_71 rfl ?_
    refine mjr_isub D_257_72 ?_
    refine mjq_istore (lo' := [some (.ref l0), some (.int l1), some (.int l2), some (.int l3), some (.int (l3 - (1 : Int32)))]) D_257_73 (Nat.le_of_ble_eq_true rfl) rfl ?_
    exact mjG.fg (lo' := [some (.ref l0), some (.int l1), none, none, some (.int (l3 - (1 : Int32)))]) (And.intro rfl (And.intro rfl (And.intro rfl True.intro))) ((T_257_75 hR h1 h2 mjN) _ _ _ _ _ h)
  · refine mjr_aload_n (x := l0) D_257_44 rfl ?_
    refine mjq_gR D_257_45 fr_12_263 h (fun v1 h => ?_)
    refine mjr_iload_n (x := l2) D_257_48 rfl ?_
    refine mjq_aI D_257_49 h (fun v2 h => ?_)
    refine mjq_istore_n (lo' := [some (.ref l0), some (.int l1), some (.int v2), some (.int l3), some (.int l4)]) D_257_50 (Nat.le_of_ble_eq_true rfl) rfl ?_
    refine mjr_aload_n (x := l0) D_257_51 rfl ?_
    refine mjq_gR D_257_52 fr_12_287 h (fun v3 h => ?_)
    refine mjr_iload (x := l4) D_257_55 rfl ?_
    refine mjr_aload_n (x := l0) D_257_57 rfl ?_
    refine mjq_gR D_257_58 fr_12_260 h (fun v4 h => ?_)
    refine mjr_iload_n (x := v2) D_257_61 rfl ?_
    refine mjq_aI D_257_62 h (fun v5 h => ?_)
    refine mjq_sI D_257_63 h (fun hp6 h => ?_)
    refine mjq_iinc (x := l4) (c := (-1 : Int32)) (lo' := [some (.ref l0), some (.int l1), some (.int v2), some (.int l3), some (.int (l4 + (-1 : Int32)))]) D_257_64 rfl (Nat.le_of_ble_eq_true rfl) rfl rfl ?_
    refine mjr_goto (tgt := 39) D_257_67 rfl ?_
    exact hk39 _ _ _ _ _ _ _ h
noncomputable def L_257_39 (R : mjR) (n : Nat) : Nat → Int32 → Int32 → Int32 → Int32 → mjH → mjU := Nat.rec (motive := fun _ => Nat → Int32 → Int32 → Int32 → Int32 → mjH → mjU) (fun _ _ _ _ _ _ => none) (fun _ self => b_257_39 R self) n
theorem T_257_39 {X : mjX} {d C S kc ks : Nat} {R : mjR} (hR : mjC R d) (h1 : kc ≤ C) (h2 : ks ≤ S) (n : Nat) : P_257_39 X (d + 1) C S kc ks (L_257_39 R n) := by
  induction n with
  | zero => intro _ _ _ _ _ _ _ h; exact mj_no h
  | succ n ih => exact t_257_39 hR h1 h2 ih
noncomputable def b_257_0 (R : mjR) (l0 : Nat) (l1 : Int32) (hp : mjH) : mjU := rV hp l0 12 (bI (R 246 [.ref l0, .int l1] hp) (fun v1 hp2 => (if v1 = 0 then some (some (.int (-1 : Int32)), hp2) else rV hp2 l0 12 (bN (R 254 [.ref l0, .int (0 : Int32)] hp2) (fun  hp3 => rV hp3 l0 12 (bI (R 250 [.ref l0, .int l1] hp3) (fun v4 hp5 => (if 0 ≤ v4 then gR hp5 l0 12 123 (fun v6 => aI hp5 v6 v4 (fun v7 => L_257_39 R mjN l0 l1 v4 v7 (v7 - (1 : Int32)) hp5)) else some (some (.int (-1 : Int32)), hp5)))))))))
theorem t_257_0 {X : mjX} {d C S kc ks : Nat} {R : mjR} (hR : mjC R d) (h1 : kc ≤ C) (h2 : ks ≤ S) : P_257_0 X (d + 1) C S kc ks (b_257_0 R) := by
  intro l0 l1 hp q h
  unfold b_257_0 at h
  refine mjr_aload_n (x := l0) D_257_0 rfl ?_
  refine mjr_iload_n (x := l1) D_257_1 rfl ?_
  refine mjq_vI (As := [.int l1]) (rest := []) D_257_2 mr_12_729 V_246 rfl rfl rfl hR (Nat.le_refl _) h1 h2 h (fun v1 hp2 h => ?_)
  refine mjq_if_ne (tgt := 10) D_257_5 rfl h (fun h => ?_) (fun h => ?_)
  · refine mjr_aload_n (x := l0) D_257_10 rfl ?_
    refine mjq_ic (v := (0 : Int32)) D_257_11 rfl ?_
    refine mjq_vN (As := [.int (0 : Int32)]) (rest := []) D_257_12 mr_12_741 V_254 rfl rfl rfl hR (Nat.le_refl _) h1 h2 h (fun  hp3 h => ?_)
    refine mjr_aload_n (x := l0) D_257_15 rfl ?_
    refine mjr_iload_n (x := l1) D_257_16 rfl ?_
    refine mjq_vI (As := [.int l1]) (rest := []) D_257_17 mr_12_732 V_250 rfl rfl rfl hR (Nat.le_refl _) h1 h2 h (fun v4 hp5 h => ?_)
    refine mjq_istore_n (lo' := [some (.ref l0), some (.int l1), some (.int v4), none, none]) D_257_20 (Nat.le_of_ble_eq_true rfl) rfl ?_
    refine mjr_iload_n (x := v4) D_257_21 rfl ?_
    refine mjq_if_ge (tgt := 27) D_257_22 rfl h (fun h => ?_) (fun h => ?_)
    · refine mjr_aload_n (x := l0) D_257_27 rfl ?_
      refine mjq_gR D_257_28 fr_12_266 h (fun v6 h => ?_)
      refine mjr_iload_n (x := v4) D_257_31 rfl ?_
      refine mjq_aI D_257_32 h (fun v7 h => ?_)
      refine mjq_istore_n (lo' := [some (.ref l0), some (.int l1), some (.int v4), some (.int v7), none]) D_257_33 (Nat.le_of_ble_eq_true rfl) rfl ?_
      refine mjr_iload_n (x := v7) D_257_34 rfl ?_
      refine mjq_ic (v := (1 : Int32)) D_257_35 rfl ?_
      refine mjr_isub D_257_36 ?_
      refine mjq_istore (lo' := [some (.ref l0), some (.int l1), some (.int v4), some (.int v7), some (.int (v7 - (1 : Int32)))]) D_257_37 (Nat.le_of_ble_eq_true rfl) rfl ?_
      exact (T_257_39 hR h1 h2 mjN) _ _ _ _ _ _ _ h
    · refine mjq_ic (v := (-1 : Int32)) D_257_25 rfl ?_
      exact mjq_ret D_257_26 rfl h1 h2 h
  · refine mjq_ic (v := (-1 : Int32)) D_257_8 rfl ?_
    exact mjq_ret D_257_9 rfl h1 h2 h
noncomputable def f_257 (R : mjR) (a0 : Nat) (a1 : Int32) (hp : mjH) : mjU := b_257_0 R a0 a1 hp
theorem c_257 {R : mjR} {d : Nat} (hR : mjC R d) {a0 : Nat} {a1 : Int32} {hp : mjH} {q : Option Value × mjH} (h : f_257 R a0 a1 hp = some q) : mjM (d + 1) 0 0 257 [.ref a0, .int a1] hp (mjEq q) :=
  mjM_of Ja_257 (Nat.le_of_ble_eq_true rfl) (mjG.fg (lo' := [some (.ref a0), some (.int a1), none, none, none]) (And.intro rfl (And.intro rfl True.intro)) ((t_257_0 hR (Nat.le_refl 0) (Nat.le_refl 0)) a0 a1 hp q h))
def J_258 : mjI := (⟨"OwnerHeapModel", "feed", "(IIIII)I"⟩, 12, prog_14_method_109_code, 6, (some .int), 5, false)
theorem Ja_258 : mjMt 258 = some J_258 := by rfl
theorem D_258_0 : decode J_258.2.2.1 0 = .ok (.aload_n 0, 1) := dzq_42 (by decide +kernel)
theorem D_258_1 : decode J_258.2.2.1 1 = .ok (.getfield 744, 3) := dzq_180 (by decide +kernel)
theorem D_258_4 : decode J_258.2.2.1 4 = .ok (.bipush 20, 2) := dzq_16 (by decide +kernel)
theorem D_258_6 : decode J_258.2.2.1 6 = .ok (.iadd, 1) := dzq_96 (by decide +kernel)
theorem D_258_7 : decode J_258.2.2.1 7 = .ok (.sipush 3000, 3) := dzq_17 (by decide +kernel)
theorem D_258_10 : decode J_258.2.2.1 10 = .ok (.if_icmp .le 5, 3) := dzq_164 (by decide +kernel)
theorem D_258_13 : decode J_258.2.2.1 13 = .ok (.iconst (-1), 1) := dzq_2 (by decide +kernel)
theorem D_258_14 : decode J_258.2.2.1 14 = .ok (.ireturn, 1) := dzq_172 (by decide +kernel)
theorem D_258_15 : decode J_258.2.2.1 15 = .ok (.aload_n 0, 1) := dzq_42 (by decide +kernel)
theorem D_258_16 : decode J_258.2.2.1 16 = .ok (.iload_n 1, 1) := dzq_27 (by decide +kernel)
theorem D_258_17 : decode J_258.2.2.1 17 = .ok (.invokevirtual 747, 3) := dzq_182 (by decide +kernel)
theorem D_258_20 : decode J_258.2.2.1 20 = .ok (.aload_n 0, 1) := dzq_42 (by decide +kernel)
theorem D_258_21 : decode J_258.2.2.1 21 = .ok (.iload_n 2, 1) := dzq_28 (by decide +kernel)
theorem D_258_22 : decode J_258.2.2.1 22 = .ok (.invokevirtual 747, 3) := dzq_182 (by decide +kernel)
theorem D_258_25 : decode J_258.2.2.1 25 = .ok (.aload_n 0, 1) := dzq_42 (by decide +kernel)
theorem D_258_26 : decode J_258.2.2.1 26 = .ok (.iload_n 3, 1) := dzq_29 (by decide +kernel)
theorem D_258_27 : decode J_258.2.2.1 27 = .ok (.invokevirtual 747, 3) := dzq_182 (by decide +kernel)
theorem D_258_30 : decode J_258.2.2.1 30 = .ok (.aload_n 0, 1) := dzq_42 (by decide +kernel)
theorem D_258_31 : decode J_258.2.2.1 31 = .ok (.iload 4, 2) := dzq_21 (by decide +kernel)
theorem D_258_33 : decode J_258.2.2.1 33 = .ok (.invokevirtual 747, 3) := dzq_182 (by decide +kernel)
theorem D_258_36 : decode J_258.2.2.1 36 = .ok (.aload_n 0, 1) := dzq_42 (by decide +kernel)
theorem D_258_37 : decode J_258.2.2.1 37 = .ok (.iload 5, 2) := dzq_21 (by decide +kernel)
theorem D_258_39 : decode J_258.2.2.1 39 = .ok (.invokevirtual 747, 3) := dzq_182 (by decide +kernel)
theorem D_258_42 : decode J_258.2.2.1 42 = .ok (.aload_n 0, 1) := dzq_42 (by decide +kernel)
theorem D_258_43 : decode J_258.2.2.1 43 = .ok (.getfield 744, 3) := dzq_180 (by decide +kernel)
theorem D_258_46 : decode J_258.2.2.1 46 = .ok (.ireturn, 1) := dzq_172 (by decide +kernel)
def P_258_0 (X : mjX) (d C S kc ks : Nat) (k : Nat → Int32 → Int32 → Int32 → Int32 → Int32 → mjH → mjU) : Prop := ∀ (l0 : Nat) (l1 : Int32) (l2 : Int32) (l3 : Int32) (l4 : Int32) (l5 : Int32) (hp : mjH) (q : Option Value × mjH), k l0 l1 l2 l3 l4 l5 hp = some q → mjG X d C S J_258 (mjEq q) 0 [some (.ref l0), some (.int l1), some (.int l2), some (.int l3), some (.int l4), some (.int l5)] [] hp kc ks
noncomputable def b_258_0 (R : mjR) (l0 : Nat) (l1 : Int32) (l2 : Int32) (l3 : Int32) (l4 : Int32) (l5 : Int32) (hp : mjH) : mjU := gI hp l0 12 1 (fun v1 => (if (v1 + (20 : Int32)) ≤ (3000 : Int32) then rV hp l0 12 (bN (R 259 [.ref l0, .int l1] hp) (fun  hp2 => rV hp2 l0 12 (bN (R 259 [.ref l0, .int l2] hp2) (fun  hp3 => rV hp3 l0 12 (bN (R 259 [.ref l0, .int l3] hp3) (fun  hp4 => rV hp4 l0 12 (bN (R 259 [.ref l0, .int l4] hp4) (fun  hp5 => rV hp5 l0 12 (bN (R 259 [.ref l0, .int l5] hp5) (fun  hp6 => gI hp6 l0 12 1 (fun v7 => some (some (.int v7), hp6)))))))))))) else some (some (.int (-1 : Int32)), hp)))
theorem t_258_0 {X : mjX} {d C S kc ks : Nat} {R : mjR} (hR : mjC R d) (h1 : kc ≤ C) (h2 : ks ≤ S) : P_258_0 X (d + 1) C S kc ks (b_258_0 R) := by
  intro l0 l1 l2 l3 l4 l5 hp q h
  unfold b_258_0 at h
  refine mjr_aload_n (x := l0) D_258_0 rfl ?_
  refine mjq_gI D_258_1 fr_12_744 h (fun v1 h => ?_)
  refine mjq_bi (v := (20 : Int32)) D_258_4 rfl ?_
  refine mjr_iadd D_258_6 ?_
  refine mjq_si (v := (3000 : Int32)) D_258_7 rfl ?_
  refine mjq_icmp_le (tgt := 15) D_258_10 rfl h (fun h => ?_) (fun h => ?_)
  · refine mjr_aload_n (x := l0) D_258_15 rfl ?_
    refine mjr_iload_n (x := l1) D_258_16 rfl ?_
    refine mjq_vN (As := [.int l1]) (rest := []) D_258_17 mr_12_747 V_259 rfl rfl rfl hR (Nat.le_refl _) h1 h2 h (fun  hp2 h => ?_)
    refine mjr_aload_n (x := l0) D_258_20 rfl ?_
    refine mjr_iload_n (x := l2) D_258_21 rfl ?_
    refine mjq_vN (As := [.int l2]) (rest := []) D_258_22 mr_12_747 V_259 rfl rfl rfl hR (Nat.le_refl _) h1 h2 h (fun  hp3 h => ?_)
    refine mjr_aload_n (x := l0) D_258_25 rfl ?_
    refine mjr_iload_n (x := l3) D_258_26 rfl ?_
    refine mjq_vN (As := [.int l3]) (rest := []) D_258_27 mr_12_747 V_259 rfl rfl rfl hR (Nat.le_refl _) h1 h2 h (fun  hp4 h => ?_)
    refine mjr_aload_n (x := l0) D_258_30 rfl ?_
    refine mjr_iload (x := l4) D_258_31 rfl ?_
    refine mjq_vN (As := [.int l4]) (rest := []) D_258_33 mr_12_747 V_259 rfl rfl rfl hR (Nat.le_refl _) h1 h2 h (fun  hp5 h => ?_)
    refine mjr_aload_n (x := l0) D_258_36 rfl ?_
    refine mjr_iload (x := l5) D_258_37 rfl ?_
    refine mjq_vN (As := [.int l5]) (rest := []) D_258_39 mr_12_747 V_259 rfl rfl rfl hR (Nat.le_refl _) h1 h2 h (fun  hp6 h => ?_)
    refine mjr_aload_n (x := l0) D_258_42 rfl ?_
    refine mjq_gI D_258_43 fr_12_744 h (fun v7 h => ?_)
    exact mjq_ret D_258_46 rfl h1 h2 h
  · refine mjq_ic (v := (-1 : Int32)) D_258_13 rfl ?_
    exact mjq_ret D_258_14 rfl h1 h2 h
noncomputable def f_258 (R : mjR) (a0 : Nat) (a1 : Int32) (a2 : Int32) (a3 : Int32) (a4 : Int32) (a5 : Int32) (hp : mjH) : mjU := b_258_0 R a0 a1 a2 a3 a4 a5 hp
theorem c_258 {R : mjR} {d : Nat} (hR : mjC R d) {a0 : Nat} {a1 : Int32} {a2 : Int32} {a3 : Int32} {a4 : Int32} {a5 : Int32} {hp : mjH} {q : Option Value × mjH} (h : f_258 R a0 a1 a2 a3 a4 a5 hp = some q) : mjM (d + 1) 0 0 258 [.ref a0, .int a1, .int a2, .int a3, .int a4, .int a5] hp (mjEq q) :=
  mjM_of Ja_258 (Nat.le_of_ble_eq_true rfl) (mjG.fg (lo' := [some (.ref a0), some (.int a1), some (.int a2), some (.int a3), some (.int a4), some (.int a5)]) (And.intro rfl (And.intro rfl (And.intro rfl (And.intro rfl (And.intro rfl (And.intro rfl True.intro)))))) ((t_258_0 hR (Nat.le_refl 0) (Nat.le_refl 0)) a0 a1 a2 a3 a4 a5 hp q h))
def J_259 : mjI := (⟨"OwnerHeapModel", "lay", "(I)V"⟩, 12, prog_14_method_110_code, 3, none, 1, false)
theorem Ja_259 : mjMt 259 = some J_259 := by rfl
theorem D_259_0 : decode J_259.2.2.1 0 = .ok (.iconst 3, 1) := dzq_6 (by decide +kernel)
theorem D_259_1 : decode J_259.2.2.1 1 = .ok (.istore_n 2, 1) := dzq_61 (by decide +kernel)
theorem D_259_2 : decode J_259.2.2.1 2 = .ok (.iload_n 2, 1) := dzq_28 (by decide +kernel)
theorem D_259_3 : decode J_259.2.2.1 3 = .ok (.ifCond .lt 35, 3) := dzq_155 (by decide +kernel)
theorem D_259_6 : decode J_259.2.2.1 6 = .ok (.aload_n 0, 1) := dzq_42 (by decide +kernel)
theorem D_259_7 : decode J_259.2.2.1 7 = .ok (.getfield 7, 3) := dzq_180 (by decide +kernel)
theorem D_259_10 : decode J_259.2.2.1 10 = .ok (.aload_n 0, 1) := dzq_42 (by decide +kernel)
theorem D_259_11 : decode J_259.2.2.1 11 = .ok (.getfield 744, 3) := dzq_180 (by decide +kernel)
theorem D_259_14 : decode J_259.2.2.1 14 = .ok (.iload_n 1, 1) := dzq_27 (by decide +kernel)
theorem D_259_15 : decode J_259.2.2.1 15 = .ok (.bipush 8, 2) := dzq_16 (by decide +kernel)
theorem D_259_17 : decode J_259.2.2.1 17 = .ok (.iload_n 2, 1) := dzq_28 (by decide +kernel)
theorem D_259_18 : decode J_259.2.2.1 18 = .ok (.imul, 1) := dzq_104 (by decide +kernel)
theorem D_259_19 : decode J_259.2.2.1 19 = .ok (.ishr, 1) := by decide +kernel
theorem D_259_20 : decode J_259.2.2.1 20 = .ok (.i2b, 1) := by decide +kernel
theorem D_259_21 : decode J_259.2.2.1 21 = .ok (.bastore, 1) := by decide +kernel
theorem D_259_22 : decode J_259.2.2.1 22 = .ok (.aload_n 0, 1) := dzq_42 (by decide +kernel)
theorem D_259_23 : decode J_259.2.2.1 23 = .ok (.dup, 1) := dzq_89 (by decide +kernel)
theorem D_259_24 : decode J_259.2.2.1 24 = .ok (.getfield 744, 3) := dzq_180 (by decide +kernel)
theorem D_259_27 : decode J_259.2.2.1 27 = .ok (.iconst 1, 1) := dzq_4 (by decide +kernel)
theorem D_259_28 : decode J_259.2.2.1 28 = .ok (.iadd, 1) := dzq_96 (by decide +kernel)
theorem D_259_29 : decode J_259.2.2.1 29 = .ok (.putfield 744, 3) := dzq_181 (by decide +kernel)
theorem D_259_32 : decode J_259.2.2.1 32 = .ok (.iinc 2 (-1), 3) := dzq_132 (by decide +kernel)
theorem D_259_35 : decode J_259.2.2.1 35 = .ok (.goto (-33), 3) := dzq_167 (by decide +kernel)
theorem D_259_38 : decode J_259.2.2.1 38 = .ok (.return_, 1) := dzq_177 (by decide +kernel)
def P_259_2 (X : mjX) (d C S kc ks : Nat) (k : Nat → Int32 → Int32 → mjH → mjU) : Prop := ∀ (l0 : Nat) (l1 : Int32) (l2 : Int32) (hp : mjH) (q : Option Value × mjH), k l0 l1 l2 hp = some q → mjG X d C S J_259 (mjEq q) 2 [some (.ref l0), some (.int l1), some (.int l2)] [] hp kc ks
def P_259_0 (X : mjX) (d C S kc ks : Nat) (k : Nat → Int32 → mjH → mjU) : Prop := ∀ (l0 : Nat) (l1 : Int32) (hp : mjH) (q : Option Value × mjH), k l0 l1 hp = some q → mjG X d C S J_259 (mjEq q) 0 [some (.ref l0), some (.int l1), none] [] hp kc ks
noncomputable def b_259_2 (R : mjR) (k2 : Nat → Int32 → Int32 → mjH → mjU) (l0 : Nat) (l1 : Int32) (l2 : Int32) (hp : mjH) : mjU := (if l2 < 0 then some (none, hp) else gR hp l0 12 0 (fun v1 => gI hp l0 12 1 (fun v2 => sB hp v1 v2 ((l1 >>> (((8 : Int32) * l2) &&& 31))).toInt8.toInt32 (fun hp3 => gI hp3 l0 12 1 (fun v4 => pI hp3 l0 12 1 (v4 + (1 : Int32)) (fun hp5 => k2 l0 l1 (l2 + (-1 : Int32)) hp5))))))
theorem t_259_2 {X : mjX} {d C S kc ks : Nat} {R : mjR} (hR : mjC R d) (h1 : kc ≤ C) (h2 : ks ≤ S) {k2 : Nat → Int32 → Int32 → mjH → mjU} (hk2 : P_259_2 X (d + 1) C S kc ks k2) : P_259_2 X (d + 1) C S kc ks (b_259_2 R k2) := by
  intro l0 l1 l2 hp q h
  unfold b_259_2 at h
  refine mjr_iload_n (x := l2) D_259_2 rfl ?_
  refine mjq_if_lt (tgt := 38) D_259_3 rfl h (fun h => ?_) (fun h => ?_)
  · exact mjq_nret D_259_38 rfl h1 h2 h
  · refine mjr_aload_n (x := l0) D_259_6 rfl ?_
    refine mjq_gR D_259_7 fr_12_7 h (fun v1 h => ?_)
    refine mjr_aload_n (x := l0) D_259_10 rfl ?_
    refine mjq_gI D_259_11 fr_12_744 h (fun v2 h => ?_)
    refine mjr_iload_n (x := l1) D_259_14 rfl ?_
    refine mjq_bi (v := (8 : Int32)) D_259_15 rfl ?_
    refine mjr_iload_n (x := l2) D_259_17 rfl ?_
    refine mjr_imul D_259_18 ?_
    refine mjr_ishr D_259_19 ?_
    refine mjr_i2b D_259_20 ?_
    refine mjq_sB D_259_21 h (fun hp3 h => ?_)
    refine mjr_aload_n (x := l0) D_259_22 rfl ?_
    refine mjr_dup D_259_23 rfl ?_
    refine mjq_gI D_259_24 fr_12_744 h (fun v4 h => ?_)
    refine mjq_ic (v := (1 : Int32)) D_259_27 rfl ?_
    refine mjr_iadd D_259_28 ?_
    refine mjq_pI D_259_29 fr_12_744 rfl rfl h (fun hp5 h => ?_)
    refine mjq_iinc (x := l2) (c := (-1 : Int32)) (lo' := [some (.ref l0), some (.int l1), some (.int (l2 + (-1 : Int32)))]) D_259_32 rfl (Nat.le_of_ble_eq_true rfl) rfl rfl ?_
    refine mjr_goto (tgt := 2) D_259_35 rfl ?_
    exact hk2 _ _ _ _ _ h
noncomputable def L_259_2 (R : mjR) (n : Nat) : Nat → Int32 → Int32 → mjH → mjU := Nat.rec (motive := fun _ => Nat → Int32 → Int32 → mjH → mjU) (fun _ _ _ _ => none) (fun _ self => b_259_2 R self) n
theorem T_259_2 {X : mjX} {d C S kc ks : Nat} {R : mjR} (hR : mjC R d) (h1 : kc ≤ C) (h2 : ks ≤ S) (n : Nat) : P_259_2 X (d + 1) C S kc ks (L_259_2 R n) := by
  induction n with
  | zero => intro _ _ _ _ _ h; exact mj_no h
  | succ n ih => exact t_259_2 hR h1 h2 ih
noncomputable def b_259_0 (R : mjR) (l0 : Nat) (l1 : Int32) (hp : mjH) : mjU := L_259_2 R mjN l0 l1 (3 : Int32) hp
theorem t_259_0 {X : mjX} {d C S kc ks : Nat} {R : mjR} (hR : mjC R d) (h1 : kc ≤ C) (h2 : ks ≤ S) : P_259_0 X (d + 1) C S kc ks (b_259_0 R) := by
  intro l0 l1 hp q h
  unfold b_259_0 at h
  refine mjq_ic (v := (3 : Int32)) D_259_0 rfl ?_
  refine mjq_istore_n (lo' := [some (.ref l0), some (.int l1), some (.int (3 : Int32))]) D_259_1 (Nat.le_of_ble_eq_true rfl) rfl ?_
  exact (T_259_2 hR h1 h2 mjN) _ _ _ _ _ h
noncomputable def f_259 (R : mjR) (a0 : Nat) (a1 : Int32) (hp : mjH) : mjU := b_259_0 R a0 a1 hp
theorem c_259 {R : mjR} {d : Nat} (hR : mjC R d) {a0 : Nat} {a1 : Int32} {hp : mjH} {q : Option Value × mjH} (h : f_259 R a0 a1 hp = some q) : mjM (d + 1) 0 0 259 [.ref a0, .int a1] hp (mjEq q) :=
  mjM_of Ja_259 (Nat.le_of_ble_eq_true rfl) (mjG.fg (lo' := [some (.ref a0), some (.int a1), none]) (And.intro rfl (And.intro rfl True.intro)) ((t_259_0 hR (Nat.le_refl 0) (Nat.le_refl 0)) a0 a1 hp q h))
def J_260 : mjI := (⟨"OwnerHeapModel", "load", "(IZ)I"⟩, 12, prog_14_method_111_code, 3, (some .int), 2, false)
theorem Ja_260 : mjMt 260 = some J_260 := by rfl
theorem D_260_0 : decode J_260.2.2.1 0 = .ok (.iload_n 1, 1) := dzq_27 (by decide +kernel)
theorem D_260_1 : decode J_260.2.2.1 1 = .ok (.ifCond .lt 11, 3) := dzq_155 (by decide +kernel)
theorem D_260_4 : decode J_260.2.2.1 4 = .ok (.iload_n 1, 1) := dzq_27 (by decide +kernel)
theorem D_260_5 : decode J_260.2.2.1 5 = .ok (.aload_n 0, 1) := dzq_42 (by decide +kernel)
theorem D_260_6 : decode J_260.2.2.1 6 = .ok (.getfield 744, 3) := dzq_180 (by decide +kernel)
theorem D_260_9 : decode J_260.2.2.1 9 = .ok (.if_icmp .le 5, 3) := dzq_164 (by decide +kernel)
theorem D_260_12 : decode J_260.2.2.1 12 = .ok (.iconst (-1), 1) := dzq_2 (by decide +kernel)
theorem D_260_13 : decode J_260.2.2.1 13 = .ok (.ireturn, 1) := dzq_172 (by decide +kernel)
theorem D_260_14 : decode J_260.2.2.1 14 = .ok (.aload_n 0, 1) := dzq_42 (by decide +kernel)
theorem D_260_15 : decode J_260.2.2.1 15 = .ok (.iconst 0, 1) := dzq_3 (by decide +kernel)
theorem D_260_16 : decode J_260.2.2.1 16 = .ok (.putfield 744, 3) := dzq_181 (by decide +kernel)
theorem D_260_19 : decode J_260.2.2.1 19 = .ok (.aload_n 0, 1) := dzq_42 (by decide +kernel)
theorem D_260_20 : decode J_260.2.2.1 20 = .ok (.iload_n 1, 1) := dzq_27 (by decide +kernel)
theorem D_260_21 : decode J_260.2.2.1 21 = .ok (.putfield 304, 3) := dzq_181 (by decide +kernel)
theorem D_260_24 : decode J_260.2.2.1 24 = .ok (.aload_n 0, 1) := dzq_42 (by decide +kernel)
theorem D_260_25 : decode J_260.2.2.1 25 = .ok (.iconst 1, 1) := dzq_4 (by decide +kernel)
theorem D_260_26 : decode J_260.2.2.1 26 = .ok (.aload_n 0, 1) := dzq_42 (by decide +kernel)
theorem D_260_27 : decode J_260.2.2.1 27 = .ok (.getfield 648, 3) := dzq_180 (by decide +kernel)
theorem D_260_30 : decode J_260.2.2.1 30 = .ok (.isub, 1) := dzq_100 (by decide +kernel)
theorem D_260_31 : decode J_260.2.2.1 31 = .ok (.putfield 356, 3) := dzq_181 (by decide +kernel)
theorem D_260_34 : decode J_260.2.2.1 34 = .ok (.aload_n 0, 1) := dzq_42 (by decide +kernel)
theorem D_260_35 : decode J_260.2.2.1 35 = .ok (.iconst 0, 1) := dzq_3 (by decide +kernel)
theorem D_260_36 : decode J_260.2.2.1 36 = .ok (.putfield 333, 3) := dzq_181 (by decide +kernel)
theorem D_260_39 : decode J_260.2.2.1 39 = .ok (.aload_n 0, 1) := dzq_42 (by decide +kernel)
theorem D_260_40 : decode J_260.2.2.1 40 = .ok (.iload_n 2, 1) := dzq_28 (by decide +kernel)
theorem D_260_41 : decode J_260.2.2.1 41 = .ok (.putfield 496, 3) := dzq_181 (by decide +kernel)
theorem D_260_44 : decode J_260.2.2.1 44 = .ok (.aload_n 0, 1) := dzq_42 (by decide +kernel)
theorem D_260_45 : decode J_260.2.2.1 45 = .ok (.invokevirtual 750, 3) := dzq_182 (by decide +kernel)
theorem D_260_48 : decode J_260.2.2.1 48 = .ok (.aload_n 0, 1) := dzq_42 (by decide +kernel)
theorem D_260_49 : decode J_260.2.2.1 49 = .ok (.getfield 333, 3) := dzq_180 (by decide +kernel)
theorem D_260_52 : decode J_260.2.2.1 52 = .ok (.ifCond .ne 7, 3) := dzq_154 (by decide +kernel)
theorem D_260_55 : decode J_260.2.2.1 55 = .ok (.aload_n 0, 1) := dzq_42 (by decide +kernel)
theorem D_260_56 : decode J_260.2.2.1 56 = .ok (.invokevirtual 753, 3) := dzq_182 (by decide +kernel)
theorem D_260_59 : decode J_260.2.2.1 59 = .ok (.aload_n 0, 1) := dzq_42 (by decide +kernel)
theorem D_260_60 : decode J_260.2.2.1 60 = .ok (.aload_n 0, 1) := dzq_42 (by decide +kernel)
theorem D_260_61 : decode J_260.2.2.1 61 = .ok (.getfield 333, 3) := dzq_180 (by decide +kernel)
theorem D_260_64 : decode J_260.2.2.1 64 = .ok (.putfield 163, 3) := dzq_181 (by decide +kernel)
theorem D_260_67 : decode J_260.2.2.1 67 = .ok (.aload_n 0, 1) := dzq_42 (by decide +kernel)
theorem D_260_68 : decode J_260.2.2.1 68 = .ok (.aload_n 0, 1) := dzq_42 (by decide +kernel)
theorem D_260_69 : decode J_260.2.2.1 69 = .ok (.getfield 333, 3) := dzq_180 (by decide +kernel)
theorem D_260_72 : decode J_260.2.2.1 72 = .ok (.ifCond .ne 7, 3) := dzq_154 (by decide +kernel)
theorem D_260_75 : decode J_260.2.2.1 75 = .ok (.iconst (-1), 1) := dzq_2 (by decide +kernel)
theorem D_260_76 : decode J_260.2.2.1 76 = .ok (.goto 7, 3) := dzq_167 (by decide +kernel)
theorem D_260_79 : decode J_260.2.2.1 79 = .ok (.aload_n 0, 1) := dzq_42 (by decide +kernel)
theorem D_260_80 : decode J_260.2.2.1 80 = .ok (.getfield 336, 3) := dzq_180 (by decide +kernel)
theorem D_260_83 : decode J_260.2.2.1 83 = .ok (.putfield 167, 3) := dzq_181 (by decide +kernel)
theorem D_260_86 : decode J_260.2.2.1 86 = .ok (.aload_n 0, 1) := dzq_42 (by decide +kernel)
theorem D_260_87 : decode J_260.2.2.1 87 = .ok (.getfield 333, 3) := dzq_180 (by decide +kernel)
theorem D_260_90 : decode J_260.2.2.1 90 = .ok (.ifCond .le 8, 3) := dzq_158 (by decide +kernel)
theorem D_260_93 : decode J_260.2.2.1 93 = .ok (.aload_n 0, 1) := dzq_42 (by decide +kernel)
theorem D_260_94 : decode J_260.2.2.1 94 = .ok (.getfield 333, 3) := dzq_180 (by decide +kernel)
theorem D_260_97 : decode J_260.2.2.1 97 = .ok (.ireturn, 1) := dzq_172 (by decide +kernel)
theorem D_260_98 : decode J_260.2.2.1 98 = .ok (.aload_n 0, 1) := dzq_42 (by decide +kernel)
theorem D_260_99 : decode J_260.2.2.1 99 = .ok (.aload_n 0, 1) := dzq_42 (by decide +kernel)
theorem D_260_100 : decode J_260.2.2.1 100 = .ok (.getfield 356, 3) := dzq_180 (by decide +kernel)
theorem D_260_103 : decode J_260.2.2.1 103 = .ok (.putfield 648, 3) := dzq_181 (by decide +kernel)
theorem D_260_106 : decode J_260.2.2.1 106 = .ok (.aload_n 0, 1) := dzq_42 (by decide +kernel)
theorem D_260_107 : decode J_260.2.2.1 107 = .ok (.iconst 1, 1) := dzq_4 (by decide +kernel)
theorem D_260_108 : decode J_260.2.2.1 108 = .ok (.putfield 756, 3) := dzq_181 (by decide +kernel)
theorem D_260_111 : decode J_260.2.2.1 111 = .ok (.aload_n 0, 1) := dzq_42 (by decide +kernel)
theorem D_260_112 : decode J_260.2.2.1 112 = .ok (.iconst 0, 1) := dzq_3 (by decide +kernel)
theorem D_260_113 : decode J_260.2.2.1 113 = .ok (.putfield 636, 3) := dzq_181 (by decide +kernel)
theorem D_260_116 : decode J_260.2.2.1 116 = .ok (.aload_n 0, 1) := dzq_42 (by decide +kernel)
theorem D_260_117 : decode J_260.2.2.1 117 = .ok (.iconst 0, 1) := dzq_3 (by decide +kernel)
theorem D_260_118 : decode J_260.2.2.1 118 = .ok (.putfield 627, 3) := dzq_181 (by decide +kernel)
theorem D_260_121 : decode J_260.2.2.1 121 = .ok (.iconst 0, 1) := dzq_3 (by decide +kernel)
theorem D_260_122 : decode J_260.2.2.1 122 = .ok (.ireturn, 1) := dzq_172 (by decide +kernel)
def P_260_12 (X : mjX) (d C S kc ks : Nat) (k : mjH → mjU) : Prop := ∀  (hp : mjH) (q : Option Value × mjH), k  hp = some q → mjG X d C S J_260 (mjEq q) 12 [none, none, none] [] hp kc ks
def P_260_83 (X : mjX) (d C S kc ks : Nat) (k : Nat → Nat → Int32 → mjH → mjU) : Prop := ∀ (l0 : Nat) (s0 : Nat) (s1 : Int32) (hp : mjH) (q : Option Value × mjH), k l0 s0 s1 hp = some q → mjG X d C S J_260 (mjEq q) 83 [some (.ref l0), none, none] [.int s1, .ref s0] hp kc ks
def P_260_59 (X : mjX) (d C S kc ks : Nat) (k : Nat → mjH → mjU) : Prop := ∀ (l0 : Nat) (hp : mjH) (q : Option Value × mjH), k l0 hp = some q → mjG X d C S J_260 (mjEq q) 59 [some (.ref l0), none, none] [] hp kc ks
def P_260_0 (X : mjX) (d C S kc ks : Nat) (k : Nat → Int32 → Int32 → mjH → mjU) : Prop := ∀ (l0 : Nat) (l1 : Int32) (l2 : Int32) (hp : mjH) (q : Option Value × mjH), k l0 l1 l2 hp = some q → mjG X d C S J_260 (mjEq q) 0 [some (.ref l0), some (.int l1), some (.int l2)] [] hp kc ks
noncomputable def b_260_12 (R : mjR)  (hp : mjH) : mjU := some (some (.int (-1 : Int32)), hp)
theorem t_260_12 {X : mjX} {d C S kc ks : Nat} {R : mjR} (hR : mjC R d) (h1 : kc ≤ C) (h2 : ks ≤ S) : P_260_12 X (d + 1) C S kc ks (b_260_12 R) := by
  intro  hp q h
  unfold b_260_12 at h
  refine mjq_ic (v := (-1 : Int32)) D_260_12 rfl ?_
  exact mjq_ret D_260_13 rfl h1 h2 h
noncomputable def b_260_83 (R : mjR) (l0 : Nat) (s0 : Nat) (s1 : Int32) (hp : mjH) : mjU := pI hp s0 12 60 s1 (fun hp1 => gI hp1 l0 12 61 (fun v2 => (if v2 ≤ 0 then gI hp1 l0 12 63 (fun v3 => pI hp1 l0 12 9 v3 (fun hp4 => pZ hp4 l0 12 10 (1 : Int32) (fun hp5 => pI hp5 l0 12 96 (0 : Int32) (fun hp6 => pI hp6 l0 12 116 (0 : Int32) (fun hp7 => some (some (.int (0 : Int32)), hp7)))))) else gI hp1 l0 12 61 (fun v8 => some (some (.int v8), hp1)))))
theorem t_260_83 {X : mjX} {d C S kc ks : Nat} {R : mjR} (hR : mjC R d) (h1 : kc ≤ C) (h2 : ks ≤ S) : P_260_83 X (d + 1) C S kc ks (b_260_83 R) := by
  intro l0 s0 s1 hp q h
  unfold b_260_83 at h
  refine mjq_pI D_260_83 fr_12_167 rfl rfl h (fun hp1 h => ?_)
  refine mjr_aload_n (x := l0) D_260_86 rfl ?_
  refine mjq_gI D_260_87 fr_12_333 h (fun v2 h => ?_)
  refine mjq_if_le (tgt := 98) D_260_90 rfl h (fun h => ?_) (fun h => ?_)
  · refine mjr_aload_n (x := l0) D_260_98 rfl ?_
    refine mjr_aload_n (x := l0) D_260_99 rfl ?_
    refine mjq_gI D_260_100 fr_12_356 h (fun v3 h => ?_)
    refine mjq_pI D_260_103 fr_12_648 rfl rfl h (fun hp4 h => ?_)
    refine mjr_aload_n (x := l0) D_260_106 rfl ?_
    refine mjq_ic (v := (1 : Int32)) D_260_107 rfl ?_
    refine mjq_pZ D_260_108 fr_12_756 rfl rfl h (fun hp5 h => ?_)
    refine mjr_aload_n (x := l0) D_260_111 rfl ?_
    refine mjq_ic (v := (0 : Int32)) D_260_112 rfl ?_
    refine mjq_pI D_260_113 fr_12_636 rfl rfl h (fun hp6 h => ?_)
    refine mjr_aload_n (x := l0) D_260_116 rfl ?_
    refine mjq_ic (v := (0 : Int32)) D_260_117 rfl ?_
    refine mjq_pI D_260_118 fr_12_627 rfl rfl h (fun hp7 h => ?_)
    refine mjq_ic (v := (0 : Int32)) D_260_121 rfl ?_
    exact mjq_ret D_260_122 rfl h1 h2 h
  · refine mjr_aload_n (x := l0) D_260_93 rfl ?_
    refine mjq_gI D_260_94 fr_12_333 h (fun v8 h => ?_)
    exact mjq_ret D_260_97 rfl h1 h2 h
noncomputable def b_260_59 (R : mjR) (l0 : Nat) (hp : mjH) : mjU := gI hp l0 12 61 (fun v1 => pI hp l0 12 59 v1 (fun hp2 => gI hp2 l0 12 61 (fun v3 => (if v3 = 0 then b_260_83 R l0 l0 (-1 : Int32) hp2 else gI hp2 l0 12 62 (fun v4 => b_260_83 R l0 l0 v4 hp2)))))
theorem t_260_59 {X : mjX} {d C S kc ks : Nat} {R : mjR} (hR : mjC R d) (h1 : kc ≤ C) (h2 : ks ≤ S) : P_260_59 X (d + 1) C S kc ks (b_260_59 R) := by
  intro l0 hp q h
  unfold b_260_59 at h
  refine mjr_aload_n (x := l0) D_260_59 rfl ?_
  refine mjr_aload_n (x := l0) D_260_60 rfl ?_
  refine mjq_gI D_260_61 fr_12_333 h (fun v1 h => ?_)
  refine mjq_pI D_260_64 fr_12_163 rfl rfl h (fun hp2 h => ?_)
  refine mjr_aload_n (x := l0) D_260_67 rfl ?_
  refine mjr_aload_n (x := l0) D_260_68 rfl ?_
  refine mjq_gI D_260_69 fr_12_333 h (fun v3 h => ?_)
  refine mjq_if_ne (tgt := 79) D_260_72 rfl h (fun h => ?_) (fun h => ?_)
  · refine mjr_aload_n (x := l0) D_260_79 rfl ?_
    refine mjq_gI D_260_80 fr_12_336 h (fun v4 h => ?_)
    exact (t_260_83 hR h1 h2) _ _ _ _ _ h
  · refine mjq_ic (v := (-1 : Int32)) D_260_75 rfl ?_
    refine mjr_goto (tgt := 83) D_260_76 rfl ?_
    exact (t_260_83 hR h1 h2) _ _ _ _ _ h
noncomputable def b_260_0 (R : mjR) (l0 : Nat) (l1 : Int32) (l2 : Int32) (hp : mjH) : mjU := (if l1 < 0 then b_260_12 R hp else gI hp l0 12 1 (fun v1 => (if l1 ≤ v1 then pI hp l0 12 1 (0 : Int32) (fun hp2 => pI hp2 l0 12 2 l1 (fun hp3 => gI hp3 l0 12 9 (fun v4 => pI hp3 l0 12 63 ((1 : Int32) - v4) (fun hp5 => pI hp5 l0 12 61 (0 : Int32) (fun hp6 => pZ hp6 l0 12 129 l2 (fun hp7 => rV hp7 l0 12 (bN (R 261 [.ref l0] hp7) (fun  hp8 => gI hp8 l0 12 61 (fun v9 => (if v9 = 0 then rV hp8 l0 12 (bN (R 299 [.ref l0] hp8) (fun  hp10 => b_260_59 R l0 hp10)) else b_260_59 R l0 hp8)))))))))) else b_260_12 R hp)))
theorem t_260_0 {X : mjX} {d C S kc ks : Nat} {R : mjR} (hR : mjC R d) (h1 : kc ≤ C) (h2 : ks ≤ S) : P_260_0 X (d + 1) C S kc ks (b_260_0 R) := by
  intro l0 l1 l2 hp q h
  unfold b_260_0 at h
  refine mjr_iload_n (x := l1) D_260_0 rfl ?_
  refine mjq_if_lt (tgt := 12) D_260_1 rfl h (fun h => ?_) (fun h => ?_)
  · exact mjG.fg (lo' := [none, none, none]) True.intro ((t_260_12 hR h1 h2) _ _ h)
  · refine mjr_iload_n (x := l1) D_260_4 rfl ?_
    refine mjr_aload_n (x := l0) D_260_5 rfl ?_
    refine mjq_gI D_260_6 fr_12_744 h (fun v1 h => ?_)
    refine mjq_icmp_le (tgt := 14) D_260_9 rfl h (fun h => ?_) (fun h => ?_)
    · refine mjr_aload_n (x := l0) D_260_14 rfl ?_
      refine mjq_ic (v := (0 : Int32)) D_260_15 rfl ?_
      refine mjq_pI D_260_16 fr_12_744 rfl rfl h (fun hp2 h => ?_)
      refine mjr_aload_n (x := l0) D_260_19 rfl ?_
      refine mjr_iload_n (x := l1) D_260_20 rfl ?_
      refine mjq_pI D_260_21 fr_12_304 rfl rfl h (fun hp3 h => ?_)
      refine mjr_aload_n (x := l0) D_260_24 rfl ?_
      refine mjq_ic (v := (1 : Int32)) D_260_25 rfl ?_
      refine mjr_aload_n (x := l0) D_260_26 rfl ?_
      refine mjq_gI D_260_27 fr_12_648 h (fun v4 h => ?_)
      refine mjr_isub D_260_30 ?_
      refine mjq_pI D_260_31 fr_12_356 rfl rfl h (fun hp5 h => ?_)
      refine mjr_aload_n (x := l0) D_260_34 rfl ?_
      refine mjq_ic (v := (0 : Int32)) D_260_35 rfl ?_
      refine mjq_pI D_260_36 fr_12_333 rfl rfl h (fun hp6 h => ?_)
      refine mjr_aload_n (x := l0) D_260_39 rfl ?_
      refine mjr_iload_n (x := l2) D_260_40 rfl ?_
      refine mjq_pZ D_260_41 fr_12_496 rfl rfl h (fun hp7 h => ?_)
      refine mjr_aload_n (x := l0) D_260_44 rfl ?_
      refine mjq_vN (As := []) (rest := []) D_260_45 mr_12_750 V_261 rfl rfl rfl hR (Nat.le_refl _) h1 h2 h (fun  hp8 h => ?_)
      refine mjr_aload_n (x := l0) D_260_48 rfl ?_
      refine mjq_gI D_260_49 fr_12_333 h (fun v9 h => ?_)
      refine mjq_if_ne (tgt := 59) D_260_52 rfl h (fun h => ?_) (fun h => ?_)
      · exact mjG.fg (lo' := [some (.ref l0), none, none]) (And.intro rfl True.intro) ((t_260_59 hR h1 h2) _ _ _ h)
      · refine mjr_aload_n (x := l0) D_260_55 rfl ?_
        refine mjq_vN (As := []) (rest := []) D_260_56 mr_12_753 V_299 rfl rfl rfl hR (Nat.le_refl _) h1 h2 h (fun  hp10 h => ?_)
        exact mjG.fg (lo' := [some (.ref l0), none, none]) (And.intro rfl True.intro) ((t_260_59 hR h1 h2) _ _ _ h)
    · exact mjG.fg (lo' := [none, none, none]) True.intro ((t_260_12 hR h1 h2) _ _ h)
noncomputable def f_260 (R : mjR) (a0 : Nat) (a1 : Int32) (a2 : Int32) (hp : mjH) : mjU := b_260_0 R a0 a1 a2 hp
theorem c_260 {R : mjR} {d : Nat} (hR : mjC R d) {a0 : Nat} {a1 : Int32} {a2 : Int32} {hp : mjH} {q : Option Value × mjH} (h : f_260 R a0 a1 a2 hp = some q) : mjM (d + 1) 0 0 260 [.ref a0, .int a1, .int a2] hp (mjEq q) :=
  mjM_of Ja_260 (Nat.le_of_ble_eq_true rfl) (mjG.fg (lo' := [some (.ref a0), some (.int a1), some (.int a2)]) (And.intro rfl (And.intro rfl (And.intro rfl True.intro))) ((t_260_0 hR (Nat.le_refl 0) (Nat.le_refl 0)) a0 a1 a2 hp q h))
def J_261 : mjI := (⟨"OwnerHeapModel", "readAll", "()V"⟩, 12, prog_14_method_18_code, 1, none, 0, false)
theorem Ja_261 : mjMt 261 = some J_261 := by rfl
theorem D_261_0 : decode J_261.2.2.1 0 = .ok (.aload_n 0, 1) := dzq_42 (by decide +kernel)
theorem D_261_1 : decode J_261.2.2.1 1 = .ok (.getfield 17, 3) := dzq_180 (by decide +kernel)
theorem D_261_4 : decode J_261.2.2.1 4 = .ok (.aload_n 0, 1) := dzq_42 (by decide +kernel)
theorem D_261_5 : decode J_261.2.2.1 5 = .ok (.getfield 356, 3) := dzq_180 (by decide +kernel)
theorem D_261_8 : decode J_261.2.2.1 8 = .ok (.iconst 0, 1) := dzq_3 (by decide +kernel)
theorem D_261_9 : decode J_261.2.2.1 9 = .ok (.iastore, 1) := dzq_79 (by decide +kernel)
theorem D_261_10 : decode J_261.2.2.1 10 = .ok (.aload_n 0, 1) := dzq_42 (by decide +kernel)
theorem D_261_11 : decode J_261.2.2.1 11 = .ok (.getfield 79, 3) := dzq_180 (by decide +kernel)
theorem D_261_14 : decode J_261.2.2.1 14 = .ok (.aload_n 0, 1) := dzq_42 (by decide +kernel)
theorem D_261_15 : decode J_261.2.2.1 15 = .ok (.getfield 356, 3) := dzq_180 (by decide +kernel)
theorem D_261_18 : decode J_261.2.2.1 18 = .ok (.iconst 0, 1) := dzq_3 (by decide +kernel)
theorem D_261_19 : decode J_261.2.2.1 19 = .ok (.iastore, 1) := dzq_79 (by decide +kernel)
theorem D_261_20 : decode J_261.2.2.1 20 = .ok (.aload_n 0, 1) := dzq_42 (by decide +kernel)
theorem D_261_21 : decode J_261.2.2.1 21 = .ok (.getfield 82, 3) := dzq_180 (by decide +kernel)
theorem D_261_24 : decode J_261.2.2.1 24 = .ok (.aload_n 0, 1) := dzq_42 (by decide +kernel)
theorem D_261_25 : decode J_261.2.2.1 25 = .ok (.getfield 356, 3) := dzq_180 (by decide +kernel)
theorem D_261_28 : decode J_261.2.2.1 28 = .ok (.iconst 0, 1) := dzq_3 (by decide +kernel)
theorem D_261_29 : decode J_261.2.2.1 29 = .ok (.iastore, 1) := dzq_79 (by decide +kernel)
theorem D_261_30 : decode J_261.2.2.1 30 = .ok (.aload_n 0, 1) := dzq_42 (by decide +kernel)
theorem D_261_31 : decode J_261.2.2.1 31 = .ok (.getfield 85, 3) := dzq_180 (by decide +kernel)
theorem D_261_34 : decode J_261.2.2.1 34 = .ok (.aload_n 0, 1) := dzq_42 (by decide +kernel)
theorem D_261_35 : decode J_261.2.2.1 35 = .ok (.getfield 356, 3) := dzq_180 (by decide +kernel)
theorem D_261_38 : decode J_261.2.2.1 38 = .ok (.iconst 0, 1) := dzq_3 (by decide +kernel)
theorem D_261_39 : decode J_261.2.2.1 39 = .ok (.iastore, 1) := dzq_79 (by decide +kernel)
theorem D_261_40 : decode J_261.2.2.1 40 = .ok (.aload_n 0, 1) := dzq_42 (by decide +kernel)
theorem D_261_41 : decode J_261.2.2.1 41 = .ok (.iconst 0, 1) := dzq_3 (by decide +kernel)
theorem D_261_42 : decode J_261.2.2.1 42 = .ok (.putfield 353, 3) := dzq_181 (by decide +kernel)
theorem D_261_45 : decode J_261.2.2.1 45 = .ok (.aload_n 0, 1) := dzq_42 (by decide +kernel)
theorem D_261_46 : decode J_261.2.2.1 46 = .ok (.iconst 0, 1) := dzq_3 (by decide +kernel)
theorem D_261_47 : decode J_261.2.2.1 47 = .ok (.putfield 307, 3) := dzq_181 (by decide +kernel)
theorem D_261_50 : decode J_261.2.2.1 50 = .ok (.aload_n 0, 1) := dzq_42 (by decide +kernel)
theorem D_261_51 : decode J_261.2.2.1 51 = .ok (.invokevirtual 350, 3) := dzq_182 (by decide +kernel)
theorem D_261_54 : decode J_261.2.2.1 54 = .ok (.aload_n 0, 1) := dzq_42 (by decide +kernel)
theorem D_261_55 : decode J_261.2.2.1 55 = .ok (.getfield 333, 3) := dzq_180 (by decide +kernel)
theorem D_261_58 : decode J_261.2.2.1 58 = .ok (.ifCond .ne 18, 3) := dzq_154 (by decide +kernel)
theorem D_261_61 : decode J_261.2.2.1 61 = .ok (.aload_n 0, 1) := dzq_42 (by decide +kernel)
theorem D_261_62 : decode J_261.2.2.1 62 = .ok (.iconst 1, 1) := dzq_4 (by decide +kernel)
theorem D_261_63 : decode J_261.2.2.1 63 = .ok (.invokevirtual 363, 3) := dzq_182 (by decide +kernel)
theorem D_261_66 : decode J_261.2.2.1 66 = .ok (.ifCond .eq 10, 3) := dzq_153 (by decide +kernel)
theorem D_261_69 : decode J_261.2.2.1 69 = .ok (.aload_n 0, 1) := dzq_42 (by decide +kernel)
theorem D_261_70 : decode J_261.2.2.1 70 = .ok (.invokevirtual 366, 3) := dzq_182 (by decide +kernel)
theorem D_261_73 : decode J_261.2.2.1 73 = .ok (.goto (-19), 3) := dzq_167 (by decide +kernel)
theorem D_261_76 : decode J_261.2.2.1 76 = .ok (.aload_n 0, 1) := dzq_42 (by decide +kernel)
theorem D_261_77 : decode J_261.2.2.1 77 = .ok (.getfield 333, 3) := dzq_180 (by decide +kernel)
theorem D_261_80 : decode J_261.2.2.1 80 = .ok (.ifCond .le 4, 3) := dzq_158 (by decide +kernel)
theorem D_261_83 : decode J_261.2.2.1 83 = .ok (.return_, 1) := dzq_177 (by decide +kernel)
theorem D_261_84 : decode J_261.2.2.1 84 = .ok (.aload_n 0, 1) := dzq_42 (by decide +kernel)
theorem D_261_85 : decode J_261.2.2.1 85 = .ok (.iconst 5, 1) := dzq_8 (by decide +kernel)
theorem D_261_86 : decode J_261.2.2.1 86 = .ok (.invokevirtual 363, 3) := dzq_182 (by decide +kernel)
theorem D_261_89 : decode J_261.2.2.1 89 = .ok (.ifCond .ne 8, 3) := dzq_154 (by decide +kernel)
theorem D_261_92 : decode J_261.2.2.1 92 = .ok (.aload_n 0, 1) := dzq_42 (by decide +kernel)
theorem D_261_93 : decode J_261.2.2.1 93 = .ok (.invokevirtual 347, 3) := dzq_182 (by decide +kernel)
theorem D_261_96 : decode J_261.2.2.1 96 = .ok (.return_, 1) := dzq_177 (by decide +kernel)
theorem D_261_97 : decode J_261.2.2.1 97 = .ok (.aload_n 0, 1) := dzq_42 (by decide +kernel)
theorem D_261_98 : decode J_261.2.2.1 98 = .ok (.invokevirtual 350, 3) := dzq_182 (by decide +kernel)
theorem D_261_101 : decode J_261.2.2.1 101 = .ok (.aload_n 0, 1) := dzq_42 (by decide +kernel)
theorem D_261_102 : decode J_261.2.2.1 102 = .ok (.iconst (-1), 1) := dzq_2 (by decide +kernel)
theorem D_261_103 : decode J_261.2.2.1 103 = .ok (.putfield 369, 3) := dzq_181 (by decide +kernel)
theorem D_261_106 : decode J_261.2.2.1 106 = .ok (.aload_n 0, 1) := dzq_42 (by decide +kernel)
theorem D_261_107 : decode J_261.2.2.1 107 = .ok (.iconst 0, 1) := dzq_3 (by decide +kernel)
theorem D_261_108 : decode J_261.2.2.1 108 = .ok (.putfield 372, 3) := dzq_181 (by decide +kernel)
theorem D_261_111 : decode J_261.2.2.1 111 = .ok (.aload_n 0, 1) := dzq_42 (by decide +kernel)
theorem D_261_112 : decode J_261.2.2.1 112 = .ok (.getfield 88, 3) := dzq_180 (by decide +kernel)
theorem D_261_115 : decode J_261.2.2.1 115 = .ok (.aload_n 0, 1) := dzq_42 (by decide +kernel)
theorem D_261_116 : decode J_261.2.2.1 116 = .ok (.getfield 356, 3) := dzq_180 (by decide +kernel)
theorem D_261_119 : decode J_261.2.2.1 119 = .ok (.aload_n 0, 1) := dzq_42 (by decide +kernel)
theorem D_261_120 : decode J_261.2.2.1 120 = .ok (.getfield 85, 3) := dzq_180 (by decide +kernel)
theorem D_261_123 : decode J_261.2.2.1 123 = .ok (.aload_n 0, 1) := dzq_42 (by decide +kernel)
theorem D_261_124 : decode J_261.2.2.1 124 = .ok (.getfield 356, 3) := dzq_180 (by decide +kernel)
theorem D_261_127 : decode J_261.2.2.1 127 = .ok (.iaload, 1) := dzq_46 (by decide +kernel)
theorem D_261_128 : decode J_261.2.2.1 128 = .ok (.iastore, 1) := dzq_79 (by decide +kernel)
theorem D_261_129 : decode J_261.2.2.1 129 = .ok (.aload_n 0, 1) := dzq_42 (by decide +kernel)
theorem D_261_130 : decode J_261.2.2.1 130 = .ok (.invokevirtual 375, 3) := dzq_182 (by decide +kernel)
theorem D_261_133 : decode J_261.2.2.1 133 = .ok (.aload_n 0, 1) := dzq_42 (by decide +kernel)
theorem D_261_134 : decode J_261.2.2.1 134 = .ok (.getfield 333, 3) := dzq_180 (by decide +kernel)
theorem D_261_137 : decode J_261.2.2.1 137 = .ok (.ifCond .ne 14, 3) := dzq_154 (by decide +kernel)
theorem D_261_140 : decode J_261.2.2.1 140 = .ok (.aload_n 0, 1) := dzq_42 (by decide +kernel)
theorem D_261_141 : decode J_261.2.2.1 141 = .ok (.getfield 316, 3) := dzq_180 (by decide +kernel)
theorem D_261_144 : decode J_261.2.2.1 144 = .ok (.ifCond .eq 7, 3) := dzq_153 (by decide +kernel)
theorem D_261_147 : decode J_261.2.2.1 147 = .ok (.aload_n 0, 1) := dzq_42 (by decide +kernel)
theorem D_261_148 : decode J_261.2.2.1 148 = .ok (.invokevirtual 347, 3) := dzq_182 (by decide +kernel)
theorem D_261_151 : decode J_261.2.2.1 151 = .ok (.return_, 1) := dzq_177 (by decide +kernel)
def P_261_76 (X : mjX) (d C S kc ks : Nat) (k : Nat → mjH → mjU) : Prop := ∀ (l0 : Nat) (hp : mjH) (q : Option Value × mjH), k l0 hp = some q → mjG X d C S J_261 (mjEq q) 76 [some (.ref l0)] [] hp kc ks
def P_261_54 (X : mjX) (d C S kc ks : Nat) (k : Nat → mjH → mjU) : Prop := ∀ (l0 : Nat) (hp : mjH) (q : Option Value × mjH), k l0 hp = some q → mjG X d C S J_261 (mjEq q) 54 [some (.ref l0)] [] hp kc ks
def P_261_0 (X : mjX) (d C S kc ks : Nat) (k : Nat → mjH → mjU) : Prop := ∀ (l0 : Nat) (hp : mjH) (q : Option Value × mjH), k l0 hp = some q → mjG X d C S J_261 (mjEq q) 0 [some (.ref l0)] [] hp kc ks
noncomputable def b_261_76 (R : mjR) (l0 : Nat) (hp : mjH) : mjU := gI hp l0 12 61 (fun v1 => (if v1 ≤ 0 then rV hp l0 12 (bI (R 266 [.ref l0, .int (5 : Int32)] hp) (fun v2 hp3 => (if v2 = 0 then rV hp3 l0 12 (bN (R 269 [.ref l0] hp3) (fun  hp17 => some (none, hp17))) else rV hp3 l0 12 (bN (R 262 [.ref l0] hp3) (fun  hp4 => pI hp4 l0 12 66 (-1 : Int32) (fun hp5 => pI hp5 l0 12 67 (0 : Int32) (fun hp6 => gR hp6 l0 12 34 (fun v7 => gI hp6 l0 12 63 (fun v8 => gR hp6 l0 12 33 (fun v9 => gI hp6 l0 12 63 (fun v10 => aI hp6 v9 v10 (fun v11 => sI hp6 v7 v8 v11 (fun hp12 => rV hp12 l0 12 (bN (R 279 [.ref l0] hp12) (fun  hp13 => gI hp13 l0 12 61 (fun v14 => (if v14 = 0 then gI hp13 l0 12 3 (fun v15 => (if v15 = 0 then some (none, hp13) else rV hp13 l0 12 (bN (R 269 [.ref l0] hp13) (fun  hp16 => some (none, hp16))))) else some (none, hp13)))))))))))))))))) else some (none, hp)))
theorem t_261_76 {X : mjX} {d C S kc ks : Nat} {R : mjR} (hR : mjC R d) (h1 : kc ≤ C) (h2 : ks ≤ S) : P_261_76 X (d + 1) C S kc ks (b_261_76 R) := by
  intro l0 hp q h
  unfold b_261_76 at h
  refine mjr_aload_n (x := l0) D_261_76 rfl ?_
  refine mjq_gI D_261_77 fr_12_333 h (fun v1 h => ?_)
  refine mjq_if_le (tgt := 84) D_261_80 rfl h (fun h => ?_) (fun h => ?_)
  · refine mjr_aload_n (x := l0) D_261_84 rfl ?_
    refine mjq_ic (v := (5 : Int32)) D_261_85 rfl ?_
    refine mjq_vI (As := [.int (5 : Int32)]) (rest := []) D_261_86 mr_12_363 V_266 rfl rfl rfl hR (Nat.le_refl _) h1 h2 h (fun v2 hp3 h => ?_)
    refine mjq_if_ne (tgt := 97) D_261_89 rfl h (fun h => ?_) (fun h => ?_)
    · refine mjr_aload_n (x := l0) D_261_97 rfl ?_
      refine mjq_vN (As := []) (rest := []) D_261_98 mr_12_350 V_262 rfl rfl rfl hR (Nat.le_refl _) h1 h2 h (fun  hp4 h => ?_)
      refine mjr_aload_n (x := l0) D_261_101 rfl ?_
      refine mjq_ic (v := (-1 : Int32)) D_261_102 rfl ?_
      refine mjq_pI D_261_103 fr_12_369 rfl rfl h (fun hp5 h => ?_)
      refine mjr_aload_n (x := l0) D_261_106 rfl ?_
      refine mjq_ic (v := (0 : Int32)) D_261_107 rfl ?_
      refine mjq_pI D_261_108 fr_12_372 rfl rfl h (fun hp6 h => ?_)
      refine mjr_aload_n (x := l0) D_261_111 rfl ?_
      refine mjq_gR D_261_112 fr_12_88 h (fun v7 h => ?_)
      refine mjr_aload_n (x := l0) D_261_115 rfl ?_
      refine mjq_gI D_261_116 fr_12_356 h (fun v8 h => ?_)
      refine mjr_aload_n (x := l0) D_261_119 rfl ?_
      refine mjq_gR D_261_120 fr_12_85 h (fun v9 h => ?_)
      refine mjr_aload_n (x := l0) D_261_123 rfl ?_
      refine mjq_gI D_261_124 fr_12_356 h (fun v10 h => ?_)
      refine mjq_aI D_261_127 h (fun v11 h => ?_)
      refine mjq_sI D_261_128 h (fun hp12 h => ?_)
      refine mjr_aload_n (x := l0) D_261_129 rfl ?_
      refine mjq_vN (As := []) (rest := []) D_261_130 mr_12_375 V_279 rfl rfl rfl hR (Nat.le_refl _) h1 h2 h (fun  hp13 h => ?_)
      refine mjr_aload_n (x := l0) D_261_133 rfl ?_
      refine mjq_gI D_261_134 fr_12_333 h (fun v14 h => ?_)
      refine mjq_if_ne (tgt := 151) D_261_137 rfl h (fun h => ?_) (fun h => ?_)
      · exact mjq_nret D_261_151 rfl h1 h2 h
      · refine mjr_aload_n (x := l0) D_261_140 rfl ?_
        refine mjq_gI D_261_141 fr_12_316 h (fun v15 h => ?_)
        refine mjq_if_eq (tgt := 151) D_261_144 rfl h (fun h => ?_) (fun h => ?_)
        · exact mjq_nret D_261_151 rfl h1 h2 h
        · refine mjr_aload_n (x := l0) D_261_147 rfl ?_
          refine mjq_vN (As := []) (rest := []) D_261_148 mr_12_347 V_269 rfl rfl rfl hR (Nat.le_refl _) h1 h2 h (fun  hp16 h => ?_)
          exact mjq_nret D_261_151 rfl h1 h2 h
    · refine mjr_aload_n (x := l0) D_261_92 rfl ?_
      refine mjq_vN (As := []) (rest := []) D_261_93 mr_12_347 V_269 rfl rfl rfl hR (Nat.le_refl _) h1 h2 h (fun  hp17 h => ?_)
      exact mjq_nret D_261_96 rfl h1 h2 h
  · exact mjq_nret D_261_83 rfl h1 h2 h
noncomputable def b_261_54 (R : mjR) (k54 : Nat → mjH → mjU) (l0 : Nat) (hp : mjH) : mjU := gI hp l0 12 61 (fun v1 => (if v1 = 0 then rV hp l0 12 (bI (R 266 [.ref l0, .int (1 : Int32)] hp) (fun v2 hp3 => (if v2 = 0 then b_261_76 R l0 hp3 else rV hp3 l0 12 (bN (R 267 [.ref l0] hp3) (fun  hp4 => k54 l0 hp4))))) else b_261_76 R l0 hp))
theorem t_261_54 {X : mjX} {d C S kc ks : Nat} {R : mjR} (hR : mjC R d) (h1 : kc ≤ C) (h2 : ks ≤ S) {k54 : Nat → mjH → mjU} (hk54 : P_261_54 X (d + 1) C S kc ks k54) : P_261_54 X (d + 1) C S kc ks (b_261_54 R k54) := by
  intro l0 hp q h
  unfold b_261_54 at h
  refine mjr_aload_n (x := l0) D_261_54 rfl ?_
  refine mjq_gI D_261_55 fr_12_333 h (fun v1 h => ?_)
  refine mjq_if_ne (tgt := 76) D_261_58 rfl h (fun h => ?_) (fun h => ?_)
  · exact (t_261_76 hR h1 h2) _ _ _ h
  · refine mjr_aload_n (x := l0) D_261_61 rfl ?_
    refine mjq_ic (v := (1 : Int32)) D_261_62 rfl ?_
    refine mjq_vI (As := [.int (1 : Int32)]) (rest := []) D_261_63 mr_12_363 V_266 rfl rfl rfl hR (Nat.le_refl _) h1 h2 h (fun v2 hp3 h => ?_)
    refine mjq_if_eq (tgt := 76) D_261_66 rfl h (fun h => ?_) (fun h => ?_)
    · exact (t_261_76 hR h1 h2) _ _ _ h
    · refine mjr_aload_n (x := l0) D_261_69 rfl ?_
      refine mjq_vN (As := []) (rest := []) D_261_70 mr_12_366 V_267 rfl rfl rfl hR (Nat.le_refl _) h1 h2 h (fun  hp4 h => ?_)
      refine mjr_goto (tgt := 54) D_261_73 rfl ?_
      exact hk54 _ _ _ h
noncomputable def L_261_54 (R : mjR) (n : Nat) : Nat → mjH → mjU := Nat.rec (motive := fun _ => Nat → mjH → mjU) (fun _ _ => none) (fun _ self => b_261_54 R self) n
theorem T_261_54 {X : mjX} {d C S kc ks : Nat} {R : mjR} (hR : mjC R d) (h1 : kc ≤ C) (h2 : ks ≤ S) (n : Nat) : P_261_54 X (d + 1) C S kc ks (L_261_54 R n) := by
  induction n with
  | zero => intro _ _ _ h; exact mj_no h
  | succ n ih => exact t_261_54 hR h1 h2 ih
noncomputable def b_261_0 (R : mjR) (l0 : Nat) (hp : mjH) : mjU := gR hp l0 12 11 (fun v1 => gI hp l0 12 63 (fun v2 => sI hp v1 v2 (0 : Int32) (fun hp3 => gR hp3 l0 12 31 (fun v4 => gI hp3 l0 12 63 (fun v5 => sI hp3 v4 v5 (0 : Int32) (fun hp6 => gR hp6 l0 12 32 (fun v7 => gI hp6 l0 12 63 (fun v8 => sI hp6 v7 v8 (0 : Int32) (fun hp9 => gR hp9 l0 12 33 (fun v10 => gI hp9 l0 12 63 (fun v11 => sI hp9 v10 v11 (0 : Int32) (fun hp12 => pI hp12 l0 12 64 (0 : Int32) (fun hp13 => pI hp13 l0 12 5 (0 : Int32) (fun hp14 => rV hp14 l0 12 (bN (R 262 [.ref l0] hp14) (fun  hp15 => L_261_54 R mjN l0 hp15))))))))))))))))
theorem t_261_0 {X : mjX} {d C S kc ks : Nat} {R : mjR} (hR : mjC R d) (h1 : kc ≤ C) (h2 : ks ≤ S) : P_261_0 X (d + 1) C S kc ks (b_261_0 R) := by
  intro l0 hp q h
  unfold b_261_0 at h
  refine mjr_aload_n (x := l0) D_261_0 rfl ?_
  refine mjq_gR D_261_1 fr_12_17 h (fun v1 h => ?_)
  refine mjr_aload_n (x := l0) D_261_4 rfl ?_
  refine mjq_gI D_261_5 fr_12_356 h (fun v2 h => ?_)
  refine mjq_ic (v := (0 : Int32)) D_261_8 rfl ?_
  refine mjq_sI D_261_9 h (fun hp3 h => ?_)
  refine mjr_aload_n (x := l0) D_261_10 rfl ?_
  refine mjq_gR D_261_11 fr_12_79 h (fun v4 h => ?_)
  refine mjr_aload_n (x := l0) D_261_14 rfl ?_
  refine mjq_gI D_261_15 fr_12_356 h (fun v5 h => ?_)
  refine mjq_ic (v := (0 : Int32)) D_261_18 rfl ?_
  refine mjq_sI D_261_19 h (fun hp6 h => ?_)
  refine mjr_aload_n (x := l0) D_261_20 rfl ?_
  refine mjq_gR D_261_21 fr_12_82 h (fun v7 h => ?_)
  refine mjr_aload_n (x := l0) D_261_24 rfl ?_
  refine mjq_gI D_261_25 fr_12_356 h (fun v8 h => ?_)
  refine mjq_ic (v := (0 : Int32)) D_261_28 rfl ?_
  refine mjq_sI D_261_29 h (fun hp9 h => ?_)
  refine mjr_aload_n (x := l0) D_261_30 rfl ?_
  refine mjq_gR D_261_31 fr_12_85 h (fun v10 h => ?_)
  refine mjr_aload_n (x := l0) D_261_34 rfl ?_
  refine mjq_gI D_261_35 fr_12_356 h (fun v11 h => ?_)
  refine mjq_ic (v := (0 : Int32)) D_261_38 rfl ?_
  refine mjq_sI D_261_39 h (fun hp12 h => ?_)
  refine mjr_aload_n (x := l0) D_261_40 rfl ?_
  refine mjq_ic (v := (0 : Int32)) D_261_41 rfl ?_
  refine mjq_pI D_261_42 fr_12_353 rfl rfl h (fun hp13 h => ?_)
  refine mjr_aload_n (x := l0) D_261_45 rfl ?_
  refine mjq_ic (v := (0 : Int32)) D_261_46 rfl ?_
  refine mjq_pI D_261_47 fr_12_307 rfl rfl h (fun hp14 h => ?_)
  refine mjr_aload_n (x := l0) D_261_50 rfl ?_
  refine mjq_vN (As := []) (rest := []) D_261_51 mr_12_350 V_262 rfl rfl rfl hR (Nat.le_refl _) h1 h2 h (fun  hp15 h => ?_)
  exact (T_261_54 hR h1 h2 mjN) _ _ _ h
noncomputable def f_261 (R : mjR) (a0 : Nat) (hp : mjH) : mjU := b_261_0 R a0 hp
theorem c_261 {R : mjR} {d : Nat} (hR : mjC R d) {a0 : Nat} {hp : mjH} {q : Option Value × mjH} (h : f_261 R a0 hp = some q) : mjM (d + 1) 0 0 261 [.ref a0] hp (mjEq q) :=
  mjM_of Ja_261 (Nat.le_of_ble_eq_true rfl) (mjG.fg (lo' := [some (.ref a0)]) (And.intro rfl True.intro) ((t_261_0 hR (Nat.le_refl 0) (Nat.le_refl 0)) a0 hp q h))
