def J_218 : mjI := (⟨"OwnerHeap", "field", "(II)I"⟩, 11, prog_1_method_18_code, 4, (some .int), 2, false)
theorem Ja_218 : mjMt 218 = some J_218 := by rfl
theorem D_218_0 : decode J_218.2.2.1 0 = .ok (.aload_n 0, 1) := by decide +kernel
theorem D_218_1 : decode J_218.2.2.1 1 = .ok (.getfield 67, 3) := by decide +kernel
theorem D_218_4 : decode J_218.2.2.1 4 = .ok (.iload_n 1, 1) := by decide +kernel
theorem D_218_5 : decode J_218.2.2.1 5 = .ok (.invokevirtual 238, 3) := by decide +kernel
theorem D_218_8 : decode J_218.2.2.1 8 = .ok (.ifCond .eq 31, 3) := by decide +kernel
theorem D_218_11 : decode J_218.2.2.1 11 = .ok (.iload_n 2, 1) := by decide +kernel
theorem D_218_12 : decode J_218.2.2.1 12 = .ok (.ifCond .lt 27, 3) := by decide +kernel
theorem D_218_15 : decode J_218.2.2.1 15 = .ok (.iload_n 2, 1) := by decide +kernel
theorem D_218_16 : decode J_218.2.2.1 16 = .ok (.aload_n 0, 1) := by decide +kernel
theorem D_218_17 : decode J_218.2.2.1 17 = .ok (.getfield 16, 3) := by decide +kernel
theorem D_218_20 : decode J_218.2.2.1 20 = .ok (.getfield 142, 3) := by decide +kernel
theorem D_218_23 : decode J_218.2.2.1 23 = .ok (.aload_n 0, 1) := by decide +kernel
theorem D_218_24 : decode J_218.2.2.1 24 = .ok (.getfield 67, 3) := by decide +kernel
theorem D_218_27 : decode J_218.2.2.1 27 = .ok (.iload_n 1, 1) := by decide +kernel
theorem D_218_28 : decode J_218.2.2.1 28 = .ok (.invokevirtual 242, 3) := by decide +kernel
theorem D_218_31 : decode J_218.2.2.1 31 = .ok (.iaload, 1) := by decide +kernel
theorem D_218_32 : decode J_218.2.2.1 32 = .ok (.if_icmp .ge 7, 3) := by decide +kernel
theorem D_218_35 : decode J_218.2.2.1 35 = .ok (.iconst 1, 1) := by decide +kernel
theorem D_218_36 : decode J_218.2.2.1 36 = .ok (.goto 4, 3) := by decide +kernel
theorem D_218_39 : decode J_218.2.2.1 39 = .ok (.iconst 0, 1) := by decide +kernel
theorem D_218_40 : decode J_218.2.2.1 40 = .ok (.istore_n 3, 1) := by decide +kernel
theorem D_218_41 : decode J_218.2.2.1 41 = .ok (.iload_n 3, 1) := by decide +kernel
theorem D_218_42 : decode J_218.2.2.1 42 = .ok (.ifCond .eq 15, 3) := by decide +kernel
theorem D_218_45 : decode J_218.2.2.1 45 = .ok (.aload_n 0, 1) := by decide +kernel
theorem D_218_46 : decode J_218.2.2.1 46 = .ok (.getfield 67, 3) := by decide +kernel
theorem D_218_49 : decode J_218.2.2.1 49 = .ok (.iload_n 1, 1) := by decide +kernel
theorem D_218_50 : decode J_218.2.2.1 50 = .ok (.iload_n 2, 1) := by decide +kernel
theorem D_218_51 : decode J_218.2.2.1 51 = .ok (.invokevirtual 254, 3) := by decide +kernel
theorem D_218_54 : decode J_218.2.2.1 54 = .ok (.goto 4, 3) := by decide +kernel
theorem D_218_57 : decode J_218.2.2.1 57 = .ok (.iconst 0, 1) := by decide +kernel
theorem D_218_58 : decode J_218.2.2.1 58 = .ok (.ireturn, 1) := by decide +kernel
def P_218_40 (X : mjX) (d C S kc ks : Nat) (k : Nat → Int32 → Int32 → Int32 → mjH → mjU) : Prop := ∀ (l0 : Nat) (l1 : Int32) (l2 : Int32) (s0 : Int32) (hp : mjH) (q : Option Value × mjH), k l0 l1 l2 s0 hp = some q → mjG X d C S J_218 (mjEq q) 40 [some (.ref l0), some (.int l1), some (.int l2), none] [.int s0] hp kc ks
def P_218_39 (X : mjX) (d C S kc ks : Nat) (k : Nat → Int32 → Int32 → mjH → mjU) : Prop := ∀ (l0 : Nat) (l1 : Int32) (l2 : Int32) (hp : mjH) (q : Option Value × mjH), k l0 l1 l2 hp = some q → mjG X d C S J_218 (mjEq q) 39 [some (.ref l0), some (.int l1), some (.int l2), none] [] hp kc ks
def P_218_0 (X : mjX) (d C S kc ks : Nat) (k : Nat → Int32 → Int32 → mjH → mjU) : Prop := ∀ (l0 : Nat) (l1 : Int32) (l2 : Int32) (hp : mjH) (q : Option Value × mjH), k l0 l1 l2 hp = some q → mjG X d C S J_218 (mjEq q) 0 [some (.ref l0), some (.int l1), some (.int l2), none] [] hp kc ks
noncomputable def b_218_40 (R : mjR) (l0 : Nat) (l1 : Int32) (l2 : Int32) (s0 : Int32) (hp : mjH) : mjU := (if s0 = 0 then some (some (.int (0 : Int32)), hp) else gR hp l0 11 11 (fun v1 => rV hp v1 3 (bI (R 45 [.ref v1, .int l1, .int l2] hp) (fun v2 hp3 => some (some (.int v2), hp3)))))
theorem t_218_40 {X : mjX} {d C S kc ks : Nat} {R : mjR} (hR : mjC R d) (h1 : kc ≤ C) (h2 : ks ≤ S) : P_218_40 X (d + 1) C S kc ks (b_218_40 R) := by
  intro l0 l1 l2 s0 hp q h
  unfold b_218_40 at h
  refine mjq_istore_n (lo' := [some (.ref l0), some (.int l1), some (.int l2), some (.int s0)]) D_218_40 (Nat.le_of_ble_eq_true rfl) rfl ?_
  refine mjr_iload_n (x := s0) D_218_41 rfl ?_
  refine mjq_if_eq (tgt := 57) D_218_42 rfl h (fun h => ?_) (fun h => ?_)
  · refine mjq_ic (v := (0 : Int32)) D_218_57 rfl ?_
    exact mjq_ret D_218_58 rfl h1 h2 h
  · refine mjr_aload_n (x := l0) D_218_45 rfl ?_
    refine mjq_gR D_218_46 fr_11_67 h (fun v1 h => ?_)
    refine mjr_iload_n (x := l1) D_218_49 rfl ?_
    refine mjr_iload_n (x := l2) D_218_50 rfl ?_
    refine mjq_vI (As := [.int l1, .int l2]) (rest := []) D_218_51 mr_11_254 V_45 rfl rfl rfl hR (Nat.le_refl _) h1 h2 h (fun v2 hp3 h => ?_)
    refine mjr_goto (tgt := 58) D_218_54 rfl ?_
    exact mjq_ret D_218_58 rfl h1 h2 h
noncomputable def b_218_39 (R : mjR) (l0 : Nat) (l1 : Int32) (l2 : Int32) (hp : mjH) : mjU := b_218_40 R l0 l1 l2 (0 : Int32) hp
theorem t_218_39 {X : mjX} {d C S kc ks : Nat} {R : mjR} (hR : mjC R d) (h1 : kc ≤ C) (h2 : ks ≤ S) : P_218_39 X (d + 1) C S kc ks (b_218_39 R) := by
  intro l0 l1 l2 hp q h
  unfold b_218_39 at h
  refine mjq_ic (v := (0 : Int32)) D_218_39 rfl ?_
  exact (t_218_40 hR h1 h2) _ _ _ _ _ _ h
noncomputable def b_218_0 (R : mjR) (l0 : Nat) (l1 : Int32) (l2 : Int32) (hp : mjH) : mjU := gR hp l0 11 11 (fun v1 => rV hp v1 3 (bI (R 43 [.ref v1, .int l1] hp) (fun v2 hp3 => (if v2 = 0 then b_218_39 R l0 l1 l2 hp3 else (if l2 < 0 then b_218_39 R l0 l1 l2 hp3 else gR hp3 l0 11 6 (fun v4 => gR hp3 v4 7 8 (fun v5 => gR hp3 l0 11 11 (fun v6 => rV hp3 v6 3 (bI (R 46 [.ref v6, .int l1] hp3) (fun v7 hp8 => aI hp8 v5 v7 (fun v9 => (if v9 ≤ l2 then b_218_39 R l0 l1 l2 hp8 else b_218_40 R l0 l1 l2 (1 : Int32) hp8))))))))))))
theorem t_218_0 {X : mjX} {d C S kc ks : Nat} {R : mjR} (hR : mjC R d) (h1 : kc ≤ C) (h2 : ks ≤ S) : P_218_0 X (d + 1) C S kc ks (b_218_0 R) := by
  intro l0 l1 l2 hp q h
  unfold b_218_0 at h
  refine mjr_aload_n (x := l0) D_218_0 rfl ?_
  refine mjq_gR D_218_1 fr_11_67 h (fun v1 h => ?_)
  refine mjr_iload_n (x := l1) D_218_4 rfl ?_
  refine mjq_vI (As := [.int l1]) (rest := []) D_218_5 mr_11_238 V_43 rfl rfl rfl hR (Nat.le_refl _) h1 h2 h (fun v2 hp3 h => ?_)
  refine mjq_if_eq (tgt := 39) D_218_8 rfl h (fun h => ?_) (fun h => ?_)
  · exact (t_218_39 hR h1 h2) _ _ _ _ _ h
  · refine mjr_iload_n (x := l2) D_218_11 rfl ?_
    refine mjq_if_lt (tgt := 39) D_218_12 rfl h (fun h => ?_) (fun h => ?_)
    · exact (t_218_39 hR h1 h2) _ _ _ _ _ h
    · refine mjr_iload_n (x := l2) D_218_15 rfl ?_
      refine mjr_aload_n (x := l0) D_218_16 rfl ?_
      refine mjq_gR D_218_17 fr_11_16 h (fun v4 h => ?_)
      refine mjq_gR D_218_20 fr_11_142 h (fun v5 h => ?_)
      refine mjr_aload_n (x := l0) D_218_23 rfl ?_
      refine mjq_gR D_218_24 fr_11_67 h (fun v6 h => ?_)
      refine mjr_iload_n (x := l1) D_218_27 rfl ?_
      refine mjq_vI (As := [.int l1]) (rest := [.ref v5, .int l2]) D_218_28 mr_11_242 V_46 rfl rfl rfl hR (Nat.le_refl _) h1 h2 h (fun v7 hp8 h => ?_)
      refine mjq_aI D_218_31 h (fun v9 h => ?_)
      refine mjq_icmp_ge (tgt := 39) D_218_32 rfl h (fun h => ?_) (fun h => ?_)
      · exact (t_218_39 hR h1 h2) _ _ _ _ _ h
      · refine mjq_ic (v := (1 : Int32)) D_218_35 rfl ?_
        refine mjr_goto (tgt := 40) D_218_36 rfl ?_
        exact (t_218_40 hR h1 h2) _ _ _ _ _ _ h
noncomputable def f_218 (R : mjR) (a0 : Nat) (a1 : Int32) (a2 : Int32) (hp : mjH) : mjU := b_218_0 R a0 a1 a2 hp
theorem c_218 {R : mjR} {d : Nat} (hR : mjC R d) {a0 : Nat} {a1 : Int32} {a2 : Int32} {hp : mjH} {q : Option Value × mjH} (h : f_218 R a0 a1 a2 hp = some q) : mjM (d + 1) 0 0 218 [.ref a0, .int a1, .int a2] hp (mjEq q) :=
  mjM_of Ja_218 (Nat.le_of_ble_eq_true rfl) (mjG.fg (lo' := [some (.ref a0), some (.int a1), some (.int a2), none]) (And.intro rfl (And.intro rfl (And.intro rfl True.intro))) ((t_218_0 hR (Nat.le_refl 0) (Nat.le_refl 0)) a0 a1 a2 hp q h))
def J_219 : mjI := (⟨"OwnerHeap", "isInside", "(II)Z"⟩, 11, prog_1_method_19_code, 3, (some .boolean), 2, false)
theorem Ja_219 : mjMt 219 = some J_219 := by rfl
theorem D_219_0 : decode J_219.2.2.1 0 = .ok (.aload_n 0, 1) := by decide +kernel
theorem D_219_1 : decode J_219.2.2.1 1 = .ok (.getfield 67, 3) := by decide +kernel
theorem D_219_4 : decode J_219.2.2.1 4 = .ok (.iload_n 1, 1) := by decide +kernel
theorem D_219_5 : decode J_219.2.2.1 5 = .ok (.invokevirtual 238, 3) := by decide +kernel
theorem D_219_8 : decode J_219.2.2.1 8 = .ok (.ifCond .eq 34, 3) := by decide +kernel
theorem D_219_11 : decode J_219.2.2.1 11 = .ok (.iload_n 2, 1) := by decide +kernel
theorem D_219_12 : decode J_219.2.2.1 12 = .ok (.ifCond .eq 14, 3) := by decide +kernel
theorem D_219_15 : decode J_219.2.2.1 15 = .ok (.aload_n 0, 1) := by decide +kernel
theorem D_219_16 : decode J_219.2.2.1 16 = .ok (.getfield 67, 3) := by decide +kernel
theorem D_219_19 : decode J_219.2.2.1 19 = .ok (.iload_n 2, 1) := by decide +kernel
theorem D_219_20 : decode J_219.2.2.1 20 = .ok (.invokevirtual 238, 3) := by decide +kernel
theorem D_219_23 : decode J_219.2.2.1 23 = .ok (.ifCond .eq 19, 3) := by decide +kernel
theorem D_219_26 : decode J_219.2.2.1 26 = .ok (.aload_n 0, 1) := by decide +kernel
theorem D_219_27 : decode J_219.2.2.1 27 = .ok (.getfield 67, 3) := by decide +kernel
theorem D_219_30 : decode J_219.2.2.1 30 = .ok (.iload_n 1, 1) := by decide +kernel
theorem D_219_31 : decode J_219.2.2.1 31 = .ok (.iload_n 2, 1) := by decide +kernel
theorem D_219_32 : decode J_219.2.2.1 32 = .ok (.invokevirtual 257, 3) := by decide +kernel
theorem D_219_35 : decode J_219.2.2.1 35 = .ok (.ifCond .eq 7, 3) := by decide +kernel
theorem D_219_38 : decode J_219.2.2.1 38 = .ok (.iconst 1, 1) := by decide +kernel
theorem D_219_39 : decode J_219.2.2.1 39 = .ok (.goto 4, 3) := by decide +kernel
theorem D_219_42 : decode J_219.2.2.1 42 = .ok (.iconst 0, 1) := by decide +kernel
theorem D_219_43 : decode J_219.2.2.1 43 = .ok (.ireturn, 1) := by decide +kernel
def P_219_42 (X : mjX) (d C S kc ks : Nat) (k : mjH → mjU) : Prop := ∀  (hp : mjH) (q : Option Value × mjH), k  hp = some q → mjG X d C S J_219 (mjEq q) 42 [none, none, none] [] hp kc ks
def P_219_26 (X : mjX) (d C S kc ks : Nat) (k : Nat → Int32 → Int32 → mjH → mjU) : Prop := ∀ (l0 : Nat) (l1 : Int32) (l2 : Int32) (hp : mjH) (q : Option Value × mjH), k l0 l1 l2 hp = some q → mjG X d C S J_219 (mjEq q) 26 [some (.ref l0), some (.int l1), some (.int l2)] [] hp kc ks
def P_219_0 (X : mjX) (d C S kc ks : Nat) (k : Nat → Int32 → Int32 → mjH → mjU) : Prop := ∀ (l0 : Nat) (l1 : Int32) (l2 : Int32) (hp : mjH) (q : Option Value × mjH), k l0 l1 l2 hp = some q → mjG X d C S J_219 (mjEq q) 0 [some (.ref l0), some (.int l1), some (.int l2)] [] hp kc ks
noncomputable def b_219_42 (R : mjR)  (hp : mjH) : mjU := some (some (.int (0 : Int32)), hp)
theorem t_219_42 {X : mjX} {d C S kc ks : Nat} {R : mjR} (hR : mjC R d) (h1 : kc ≤ C) (h2 : ks ≤ S) : P_219_42 X (d + 1) C S kc ks (b_219_42 R) := by
  intro  hp q h
  unfold b_219_42 at h
  refine mjq_ic (v := (0 : Int32)) D_219_42 rfl ?_
  exact mjr_ireturn D_219_43 rfl rfl h1 h2 (Option.some.inj h)
noncomputable def b_219_26 (R : mjR) (l0 : Nat) (l1 : Int32) (l2 : Int32) (hp : mjH) : mjU := gR hp l0 11 11 (fun v1 => rV hp v1 3 (bI (R 52 [.ref v1, .int l1, .int l2] hp) (fun v2 hp3 => (if v2 = 0 then b_219_42 R hp3 else some (some (.int (1 : Int32)), hp3)))))
theorem t_219_26 {X : mjX} {d C S kc ks : Nat} {R : mjR} (hR : mjC R d) (h1 : kc ≤ C) (h2 : ks ≤ S) : P_219_26 X (d + 1) C S kc ks (b_219_26 R) := by
  intro l0 l1 l2 hp q h
  unfold b_219_26 at h
  refine mjr_aload_n (x := l0) D_219_26 rfl ?_
  refine mjq_gR D_219_27 fr_11_67 h (fun v1 h => ?_)
  refine mjr_iload_n (x := l1) D_219_30 rfl ?_
  refine mjr_iload_n (x := l2) D_219_31 rfl ?_
  refine mjq_vI (As := [.int l1, .int l2]) (rest := []) D_219_32 mr_11_257 V_52 rfl rfl rfl hR (Nat.le_refl _) h1 h2 h (fun v2 hp3 h => ?_)
  refine mjq_if_eq (tgt := 42) D_219_35 rfl h (fun h => ?_) (fun h => ?_)
  · exact mjG.fg (lo' := [none, none, none]) True.intro ((t_219_42 hR h1 h2) _ _ h)
  · refine mjq_ic (v := (1 : Int32)) D_219_38 rfl ?_
    refine mjr_goto (tgt := 43) D_219_39 rfl ?_
    exact mjr_ireturn D_219_43 rfl rfl h1 h2 (Option.some.inj h)
noncomputable def b_219_0 (R : mjR) (l0 : Nat) (l1 : Int32) (l2 : Int32) (hp : mjH) : mjU := gR hp l0 11 11 (fun v1 => rV hp v1 3 (bI (R 43 [.ref v1, .int l1] hp) (fun v2 hp3 => (if v2 = 0 then b_219_42 R hp3 else (if l2 = 0 then b_219_26 R l0 l1 l2 hp3 else gR hp3 l0 11 11 (fun v4 => rV hp3 v4 3 (bI (R 43 [.ref v4, .int l2] hp3) (fun v5 hp6 => (if v5 = 0 then b_219_42 R hp6 else b_219_26 R l0 l1 l2 hp6)))))))))
theorem t_219_0 {X : mjX} {d C S kc ks : Nat} {R : mjR} (hR : mjC R d) (h1 : kc ≤ C) (h2 : ks ≤ S) : P_219_0 X (d + 1) C S kc ks (b_219_0 R) := by
  intro l0 l1 l2 hp q h
  unfold b_219_0 at h
  refine mjr_aload_n (x := l0) D_219_0 rfl ?_
  refine mjq_gR D_219_1 fr_11_67 h (fun v1 h => ?_)
  refine mjr_iload_n (x := l1) D_219_4 rfl ?_
  refine mjq_vI (As := [.int l1]) (rest := []) D_219_5 mr_11_238 V_43 rfl rfl rfl hR (Nat.le_refl _) h1 h2 h (fun v2 hp3 h => ?_)
  refine mjq_if_eq (tgt := 42) D_219_8 rfl h (fun h => ?_) (fun h => ?_)
  · exact mjG.fg (lo' := [none, none, none]) True.intro ((t_219_42 hR h1 h2) _ _ h)
  · refine mjr_iload_n (x := l2) D_219_11 rfl ?_
    refine mjq_if_eq (tgt := 26) D_219_12 rfl h (fun h => ?_) (fun h => ?_)
    · exact (t_219_26 hR h1 h2) _ _ _ _ _ h
    · refine mjr_aload_n (x := l0) D_219_15 rfl ?_
      refine mjq_gR D_219_16 fr_11_67 h (fun v4 h => ?_)
      refine mjr_iload_n (x := l2) D_219_19 rfl ?_
      refine mjq_vI (As := [.int l2]) (rest := []) D_219_20 mr_11_238 V_43 rfl rfl rfl hR (Nat.le_refl _) h1 h2 h (fun v5 hp6 h => ?_)
      refine mjq_if_eq (tgt := 42) D_219_23 rfl h (fun h => ?_) (fun h => ?_)
      · exact mjG.fg (lo' := [none, none, none]) True.intro ((t_219_42 hR h1 h2) _ _ h)
      · exact (t_219_26 hR h1 h2) _ _ _ _ _ h
noncomputable def f_219 (R : mjR) (a0 : Nat) (a1 : Int32) (a2 : Int32) (hp : mjH) : mjU := b_219_0 R a0 a1 a2 hp
theorem c_219 {R : mjR} {d : Nat} (hR : mjC R d) {a0 : Nat} {a1 : Int32} {a2 : Int32} {hp : mjH} {q : Option Value × mjH} (h : f_219 R a0 a1 a2 hp = some q) : mjM (d + 1) 0 0 219 [.ref a0, .int a1, .int a2] hp (mjEq q) :=
  mjM_of Ja_219 (Nat.le_of_ble_eq_true rfl) (mjG.fg (lo' := [some (.ref a0), some (.int a1), some (.int a2)]) (And.intro rfl (And.intro rfl (And.intro rfl True.intro))) ((t_219_0 hR (Nat.le_refl 0) (Nat.le_refl 0)) a0 a1 a2 hp q h))
def J_220 : mjI := (⟨"OwnerHeap", "way", "(II)I"⟩, 11, prog_1_method_20_code, 3, (some .int), 2, false)
theorem Ja_220 : mjMt 220 = some J_220 := by rfl
theorem D_220_0 : decode J_220.2.2.1 0 = .ok (.aload_n 0, 1) := by decide +kernel
theorem D_220_1 : decode J_220.2.2.1 1 = .ok (.getfield 67, 3) := by decide +kernel
theorem D_220_4 : decode J_220.2.2.1 4 = .ok (.iload_n 1, 1) := by decide +kernel
theorem D_220_5 : decode J_220.2.2.1 5 = .ok (.invokevirtual 238, 3) := by decide +kernel
theorem D_220_8 : decode J_220.2.2.1 8 = .ok (.ifCond .eq 26, 3) := by decide +kernel
theorem D_220_11 : decode J_220.2.2.1 11 = .ok (.aload_n 0, 1) := by decide +kernel
theorem D_220_12 : decode J_220.2.2.1 12 = .ok (.getfield 67, 3) := by decide +kernel
theorem D_220_15 : decode J_220.2.2.1 15 = .ok (.iload_n 2, 1) := by decide +kernel
theorem D_220_16 : decode J_220.2.2.1 16 = .ok (.invokevirtual 238, 3) := by decide +kernel
theorem D_220_19 : decode J_220.2.2.1 19 = .ok (.ifCond .eq 15, 3) := by decide +kernel
theorem D_220_22 : decode J_220.2.2.1 22 = .ok (.aload_n 0, 1) := by decide +kernel
theorem D_220_23 : decode J_220.2.2.1 23 = .ok (.getfield 83, 3) := by decide +kernel
theorem D_220_26 : decode J_220.2.2.1 26 = .ok (.iload_n 1, 1) := by decide +kernel
theorem D_220_27 : decode J_220.2.2.1 27 = .ok (.iload_n 2, 1) := by decide +kernel
theorem D_220_28 : decode J_220.2.2.1 28 = .ok (.invokevirtual 261, 3) := by decide +kernel
theorem D_220_31 : decode J_220.2.2.1 31 = .ok (.goto 4, 3) := by decide +kernel
theorem D_220_34 : decode J_220.2.2.1 34 = .ok (.iconst (-1), 1) := by decide +kernel
theorem D_220_35 : decode J_220.2.2.1 35 = .ok (.ireturn, 1) := by decide +kernel
def P_220_34 (X : mjX) (d C S kc ks : Nat) (k : mjH → mjU) : Prop := ∀  (hp : mjH) (q : Option Value × mjH), k  hp = some q → mjG X d C S J_220 (mjEq q) 34 [none, none, none] [] hp kc ks
def P_220_0 (X : mjX) (d C S kc ks : Nat) (k : Nat → Int32 → Int32 → mjH → mjU) : Prop := ∀ (l0 : Nat) (l1 : Int32) (l2 : Int32) (hp : mjH) (q : Option Value × mjH), k l0 l1 l2 hp = some q → mjG X d C S J_220 (mjEq q) 0 [some (.ref l0), some (.int l1), some (.int l2)] [] hp kc ks
noncomputable def b_220_34 (R : mjR)  (hp : mjH) : mjU := some (some (.int (-1 : Int32)), hp)
theorem t_220_34 {X : mjX} {d C S kc ks : Nat} {R : mjR} (hR : mjC R d) (h1 : kc ≤ C) (h2 : ks ≤ S) : P_220_34 X (d + 1) C S kc ks (b_220_34 R) := by
  intro  hp q h
  unfold b_220_34 at h
  refine mjq_ic (v := (-1 : Int32)) D_220_34 rfl ?_
  exact mjq_ret D_220_35 rfl h1 h2 h
noncomputable def b_220_0 (R : mjR) (l0 : Nat) (l1 : Int32) (l2 : Int32) (hp : mjH) : mjU := gR hp l0 11 11 (fun v1 => rV hp v1 3 (bI (R 43 [.ref v1, .int l1] hp) (fun v2 hp3 => (if v2 = 0 then b_220_34 R hp3 else gR hp3 l0 11 11 (fun v4 => rV hp3 v4 3 (bI (R 43 [.ref v4, .int l2] hp3) (fun v5 hp6 => (if v5 = 0 then b_220_34 R hp6 else gR hp6 l0 11 13 (fun v7 => rV hp6 v7 10 (bI (R 185 [.ref v7, .int l1, .int l2] hp6) (fun v8 hp9 => some (some (.int v8), hp9))))))))))))
theorem t_220_0 {X : mjX} {d C S kc ks : Nat} {R : mjR} (hR : mjC R d) (h1 : kc ≤ C) (h2 : ks ≤ S) : P_220_0 X (d + 1) C S kc ks (b_220_0 R) := by
  intro l0 l1 l2 hp q h
  unfold b_220_0 at h
  refine mjr_aload_n (x := l0) D_220_0 rfl ?_
  refine mjq_gR D_220_1 fr_11_67 h (fun v1 h => ?_)
  refine mjr_iload_n (x := l1) D_220_4 rfl ?_
  refine mjq_vI (As := [.int l1]) (rest := []) D_220_5 mr_11_238 V_43 rfl rfl rfl hR (Nat.le_refl _) h1 h2 h (fun v2 hp3 h => ?_)
  refine mjq_if_eq (tgt := 34) D_220_8 rfl h (fun h => ?_) (fun h => ?_)
  · exact mjG.fg (lo' := [none, none, none]) True.intro ((t_220_34 hR h1 h2) _ _ h)
  · refine mjr_aload_n (x := l0) D_220_11 rfl ?_
    refine mjq_gR D_220_12 fr_11_67 h (fun v4 h => ?_)
    refine mjr_iload_n (x := l2) D_220_15 rfl ?_
    refine mjq_vI (As := [.int l2]) (rest := []) D_220_16 mr_11_238 V_43 rfl rfl rfl hR (Nat.le_refl _) h1 h2 h (fun v5 hp6 h => ?_)
    refine mjq_if_eq (tgt := 34) D_220_19 rfl h (fun h => ?_) (fun h => ?_)
    · exact mjG.fg (lo' := [none, none, none]) True.intro ((t_220_34 hR h1 h2) _ _ h)
    · refine mjr_aload_n (x := l0) D_220_22 rfl ?_
      refine mjq_gR D_220_23 fr_11_83 h (fun v7 h => ?_)
      refine mjr_iload_n (x := l1) D_220_26 rfl ?_
      refine mjr_iload_n (x := l2) D_220_27 rfl ?_
      refine mjq_vI (As := [.int l1, .int l2]) (rest := []) D_220_28 mr_11_261 V_185 rfl rfl rfl hR (Nat.le_refl _) h1 h2 h (fun v8 hp9 h => ?_)
      refine mjr_goto (tgt := 35) D_220_31 rfl ?_
      exact mjq_ret D_220_35 rfl h1 h2 h
noncomputable def f_220 (R : mjR) (a0 : Nat) (a1 : Int32) (a2 : Int32) (hp : mjH) : mjU := b_220_0 R a0 a1 a2 hp
theorem c_220 {R : mjR} {d : Nat} (hR : mjC R d) {a0 : Nat} {a1 : Int32} {a2 : Int32} {hp : mjH} {q : Option Value × mjH} (h : f_220 R a0 a1 a2 hp = some q) : mjM (d + 1) 0 0 220 [.ref a0, .int a1, .int a2] hp (mjEq q) :=
  mjM_of Ja_220 (Nat.le_of_ble_eq_true rfl) (mjG.fg (lo' := [some (.ref a0), some (.int a1), some (.int a2)]) (And.intro rfl (And.intro rfl (And.intro rfl True.intro))) ((t_220_0 hR (Nat.le_refl 0) (Nat.le_refl 0)) a0 a1 a2 hp q h))
def J_221 : mjI := (⟨"OwnerHeap", "above", "(I)I"⟩, 11, prog_1_method_21_code, 2, (some .int), 1, false)
theorem Ja_221 : mjMt 221 = some J_221 := by rfl
theorem D_221_0 : decode J_221.2.2.1 0 = .ok (.aload_n 0, 1) := by decide +kernel
theorem D_221_1 : decode J_221.2.2.1 1 = .ok (.getfield 67, 3) := by decide +kernel
theorem D_221_4 : decode J_221.2.2.1 4 = .ok (.iload_n 1, 1) := by decide +kernel
theorem D_221_5 : decode J_221.2.2.1 5 = .ok (.invokevirtual 238, 3) := by decide +kernel
theorem D_221_8 : decode J_221.2.2.1 8 = .ok (.ifCond .eq 14, 3) := by decide +kernel
theorem D_221_11 : decode J_221.2.2.1 11 = .ok (.aload_n 0, 1) := by decide +kernel
theorem D_221_12 : decode J_221.2.2.1 12 = .ok (.getfield 83, 3) := by decide +kernel
theorem D_221_15 : decode J_221.2.2.1 15 = .ok (.iload_n 1, 1) := by decide +kernel
theorem D_221_16 : decode J_221.2.2.1 16 = .ok (.invokevirtual 264, 3) := by decide +kernel
theorem D_221_19 : decode J_221.2.2.1 19 = .ok (.goto 4, 3) := by decide +kernel
theorem D_221_22 : decode J_221.2.2.1 22 = .ok (.iconst (-1), 1) := by decide +kernel
theorem D_221_23 : decode J_221.2.2.1 23 = .ok (.ireturn, 1) := by decide +kernel
def P_221_0 (X : mjX) (d C S kc ks : Nat) (k : Nat → Int32 → mjH → mjU) : Prop := ∀ (l0 : Nat) (l1 : Int32) (hp : mjH) (q : Option Value × mjH), k l0 l1 hp = some q → mjG X d C S J_221 (mjEq q) 0 [some (.ref l0), some (.int l1)] [] hp kc ks
noncomputable def b_221_0 (R : mjR) (l0 : Nat) (l1 : Int32) (hp : mjH) : mjU := gR hp l0 11 11 (fun v1 => rV hp v1 3 (bI (R 43 [.ref v1, .int l1] hp) (fun v2 hp3 => (if v2 = 0 then some (some (.int (-1 : Int32)), hp3) else gR hp3 l0 11 13 (fun v4 => rV hp3 v4 10 (bI (R 192 [.ref v4, .int l1] hp3) (fun v5 hp6 => some (some (.int v5), hp6))))))))
theorem t_221_0 {X : mjX} {d C S kc ks : Nat} {R : mjR} (hR : mjC R d) (h1 : kc ≤ C) (h2 : ks ≤ S) : P_221_0 X (d + 1) C S kc ks (b_221_0 R) := by
  intro l0 l1 hp q h
  unfold b_221_0 at h
  refine mjr_aload_n (x := l0) D_221_0 rfl ?_
  refine mjq_gR D_221_1 fr_11_67 h (fun v1 h => ?_)
  refine mjr_iload_n (x := l1) D_221_4 rfl ?_
  refine mjq_vI (As := [.int l1]) (rest := []) D_221_5 mr_11_238 V_43 rfl rfl rfl hR (Nat.le_refl _) h1 h2 h (fun v2 hp3 h => ?_)
  refine mjq_if_eq (tgt := 22) D_221_8 rfl h (fun h => ?_) (fun h => ?_)
  · refine mjq_ic (v := (-1 : Int32)) D_221_22 rfl ?_
    exact mjq_ret D_221_23 rfl h1 h2 h
  · refine mjr_aload_n (x := l0) D_221_11 rfl ?_
    refine mjq_gR D_221_12 fr_11_83 h (fun v4 h => ?_)
    refine mjr_iload_n (x := l1) D_221_15 rfl ?_
    refine mjq_vI (As := [.int l1]) (rest := []) D_221_16 mr_11_264 V_192 rfl rfl rfl hR (Nat.le_refl _) h1 h2 h (fun v5 hp6 h => ?_)
    refine mjr_goto (tgt := 23) D_221_19 rfl ?_
    exact mjq_ret D_221_23 rfl h1 h2 h
noncomputable def f_221 (R : mjR) (a0 : Nat) (a1 : Int32) (hp : mjH) : mjU := b_221_0 R a0 a1 hp
theorem c_221 {R : mjR} {d : Nat} (hR : mjC R d) {a0 : Nat} {a1 : Int32} {hp : mjH} {q : Option Value × mjH} (h : f_221 R a0 a1 hp = some q) : mjM (d + 1) 0 0 221 [.ref a0, .int a1] hp (mjEq q) :=
  mjM_of Ja_221 (Nat.le_of_ble_eq_true rfl) (mjG.fg (lo' := [some (.ref a0), some (.int a1)]) (And.intro rfl (And.intro rfl True.intro)) ((t_221_0 hR (Nat.le_refl 0) (Nat.le_refl 0)) a0 a1 hp q h))
def J_222 : mjI := (⟨"OwnerHeap", "leaks", "()I"⟩, 11, prog_1_method_22_code, 1, (some .int), 0, false)
theorem Ja_222 : mjMt 222 = some J_222 := by rfl
theorem D_222_0 : decode J_222.2.2.1 0 = .ok (.aload_n 0, 1) := by decide +kernel
theorem D_222_1 : decode J_222.2.2.1 1 = .ok (.getfield 83, 3) := by decide +kernel
theorem D_222_4 : decode J_222.2.2.1 4 = .ok (.invokevirtual 267, 3) := by decide +kernel
theorem D_222_7 : decode J_222.2.2.1 7 = .ok (.ireturn, 1) := by decide +kernel
def P_222_0 (X : mjX) (d C S kc ks : Nat) (k : Nat → mjH → mjU) : Prop := ∀ (l0 : Nat) (hp : mjH) (q : Option Value × mjH), k l0 hp = some q → mjG X d C S J_222 (mjEq q) 0 [some (.ref l0)] [] hp kc ks
noncomputable def b_222_0 (R : mjR) (l0 : Nat) (hp : mjH) : mjU := gR hp l0 11 13 (fun v1 => rV hp v1 10 (bI (R 198 [.ref v1] hp) (fun v2 hp3 => some (some (.int v2), hp3))))
theorem t_222_0 {X : mjX} {d C S kc ks : Nat} {R : mjR} (hR : mjC R d) (h1 : kc ≤ C) (h2 : ks ≤ S) : P_222_0 X (d + 1) C S kc ks (b_222_0 R) := by
  intro l0 hp q h
  unfold b_222_0 at h
  refine mjr_aload_n (x := l0) D_222_0 rfl ?_
  refine mjq_gR D_222_1 fr_11_83 h (fun v1 h => ?_)
  refine mjq_vI (As := []) (rest := []) D_222_4 mr_11_267 V_198 rfl rfl rfl hR (Nat.le_refl _) h1 h2 h (fun v2 hp3 h => ?_)
  exact mjq_ret D_222_7 rfl h1 h2 h
noncomputable def f_222 (R : mjR) (a0 : Nat) (hp : mjH) : mjU := b_222_0 R a0 hp
theorem c_222 {R : mjR} {d : Nat} (hR : mjC R d) {a0 : Nat} {hp : mjH} {q : Option Value × mjH} (h : f_222 R a0 hp = some q) : mjM (d + 1) 0 0 222 [.ref a0] hp (mjEq q) :=
  mjM_of Ja_222 (Nat.le_of_ble_eq_true rfl) (mjG.fg (lo' := [some (.ref a0)]) (And.intro rfl True.intro) ((t_222_0 hR (Nat.le_refl 0) (Nat.le_refl 0)) a0 hp q h))
def J_223 : mjI := (⟨"OwnerHeap", "leak", "(I)I"⟩, 11, prog_1_method_23_code, 2, (some .int), 1, false)
theorem Ja_223 : mjMt 223 = some J_223 := by rfl
theorem D_223_0 : decode J_223.2.2.1 0 = .ok (.aload_n 0, 1) := by decide +kernel
theorem D_223_1 : decode J_223.2.2.1 1 = .ok (.getfield 83, 3) := by decide +kernel
theorem D_223_4 : decode J_223.2.2.1 4 = .ok (.iload_n 1, 1) := by decide +kernel
theorem D_223_5 : decode J_223.2.2.1 5 = .ok (.invokevirtual 271, 3) := by decide +kernel
theorem D_223_8 : decode J_223.2.2.1 8 = .ok (.ireturn, 1) := by decide +kernel
def P_223_0 (X : mjX) (d C S kc ks : Nat) (k : Nat → Int32 → mjH → mjU) : Prop := ∀ (l0 : Nat) (l1 : Int32) (hp : mjH) (q : Option Value × mjH), k l0 l1 hp = some q → mjG X d C S J_223 (mjEq q) 0 [some (.ref l0), some (.int l1)] [] hp kc ks
noncomputable def b_223_0 (R : mjR) (l0 : Nat) (l1 : Int32) (hp : mjH) : mjU := gR hp l0 11 13 (fun v1 => rV hp v1 10 (bI (R 199 [.ref v1, .int l1] hp) (fun v2 hp3 => some (some (.int v2), hp3))))
theorem t_223_0 {X : mjX} {d C S kc ks : Nat} {R : mjR} (hR : mjC R d) (h1 : kc ≤ C) (h2 : ks ≤ S) : P_223_0 X (d + 1) C S kc ks (b_223_0 R) := by
  intro l0 l1 hp q h
  unfold b_223_0 at h
  refine mjr_aload_n (x := l0) D_223_0 rfl ?_
  refine mjq_gR D_223_1 fr_11_83 h (fun v1 h => ?_)
  refine mjr_iload_n (x := l1) D_223_4 rfl ?_
  refine mjq_vI (As := [.int l1]) (rest := []) D_223_5 mr_11_271 V_199 rfl rfl rfl hR (Nat.le_refl _) h1 h2 h (fun v2 hp3 h => ?_)
  exact mjq_ret D_223_8 rfl h1 h2 h
noncomputable def f_223 (R : mjR) (a0 : Nat) (a1 : Int32) (hp : mjH) : mjU := b_223_0 R a0 a1 hp
theorem c_223 {R : mjR} {d : Nat} (hR : mjC R d) {a0 : Nat} {a1 : Int32} {hp : mjH} {q : Option Value × mjH} (h : f_223 R a0 a1 hp = some q) : mjM (d + 1) 0 0 223 [.ref a0, .int a1] hp (mjEq q) :=
  mjM_of Ja_223 (Nat.le_of_ble_eq_true rfl) (mjG.fg (lo' := [some (.ref a0), some (.int a1)]) (And.intro rfl (And.intro rfl True.intro)) ((t_223_0 hR (Nat.le_refl 0) (Nat.le_refl 0)) a0 a1 hp q h))
def J_224 : mjI := (⟨"OwnerHeap", "past", "(II)I"⟩, 11, prog_1_method_24_code, 3, (some .int), 2, false)
theorem Ja_224 : mjMt 224 = some J_224 := by rfl
theorem D_224_0 : decode J_224.2.2.1 0 = .ok (.aload_n 0, 1) := by decide +kernel
theorem D_224_1 : decode J_224.2.2.1 1 = .ok (.getfield 67, 3) := by decide +kernel
theorem D_224_4 : decode J_224.2.2.1 4 = .ok (.iload_n 1, 1) := by decide +kernel
theorem D_224_5 : decode J_224.2.2.1 5 = .ok (.invokevirtual 238, 3) := by decide +kernel
theorem D_224_8 : decode J_224.2.2.1 8 = .ok (.ifCond .eq 15, 3) := by decide +kernel
theorem D_224_11 : decode J_224.2.2.1 11 = .ok (.aload_n 0, 1) := by decide +kernel
theorem D_224_12 : decode J_224.2.2.1 12 = .ok (.getfield 83, 3) := by decide +kernel
theorem D_224_15 : decode J_224.2.2.1 15 = .ok (.iload_n 1, 1) := by decide +kernel
theorem D_224_16 : decode J_224.2.2.1 16 = .ok (.iload_n 2, 1) := by decide +kernel
theorem D_224_17 : decode J_224.2.2.1 17 = .ok (.invokevirtual 274, 3) := by decide +kernel
theorem D_224_20 : decode J_224.2.2.1 20 = .ok (.goto 4, 3) := by decide +kernel
theorem D_224_23 : decode J_224.2.2.1 23 = .ok (.iconst (-1), 1) := by decide +kernel
theorem D_224_24 : decode J_224.2.2.1 24 = .ok (.ireturn, 1) := by decide +kernel
def P_224_0 (X : mjX) (d C S kc ks : Nat) (k : Nat → Int32 → Int32 → mjH → mjU) : Prop := ∀ (l0 : Nat) (l1 : Int32) (l2 : Int32) (hp : mjH) (q : Option Value × mjH), k l0 l1 l2 hp = some q → mjG X d C S J_224 (mjEq q) 0 [some (.ref l0), some (.int l1), some (.int l2)] [] hp kc ks
noncomputable def b_224_0 (R : mjR) (l0 : Nat) (l1 : Int32) (l2 : Int32) (hp : mjH) : mjU := gR hp l0 11 11 (fun v1 => rV hp v1 3 (bI (R 43 [.ref v1, .int l1] hp) (fun v2 hp3 => (if v2 = 0 then some (some (.int (-1 : Int32)), hp3) else gR hp3 l0 11 13 (fun v4 => rV hp3 v4 10 (bI (R 200 [.ref v4, .int l1, .int l2] hp3) (fun v5 hp6 => some (some (.int v5), hp6))))))))
theorem t_224_0 {X : mjX} {d C S kc ks : Nat} {R : mjR} (hR : mjC R d) (h1 : kc ≤ C) (h2 : ks ≤ S) : P_224_0 X (d + 1) C S kc ks (b_224_0 R) := by
  intro l0 l1 l2 hp q h
  unfold b_224_0 at h
  refine mjr_aload_n (x := l0) D_224_0 rfl ?_
  refine mjq_gR D_224_1 fr_11_67 h (fun v1 h => ?_)
  refine mjr_iload_n (x := l1) D_224_4 rfl ?_
  refine mjq_vI (As := [.int l1]) (rest := []) D_224_5 mr_11_238 V_43 rfl rfl rfl hR (Nat.le_refl _) h1 h2 h (fun v2 hp3 h => ?_)
  refine mjq_if_eq (tgt := 23) D_224_8 rfl h (fun h => ?_) (fun h => ?_)
  · refine mjq_ic (v := (-1 : Int32)) D_224_23 rfl ?_
    exact mjq_ret D_224_24 rfl h1 h2 h
  · refine mjr_aload_n (x := l0) D_224_11 rfl ?_
    refine mjq_gR D_224_12 fr_11_83 h (fun v4 h => ?_)
    refine mjr_iload_n (x := l1) D_224_15 rfl ?_
    refine mjr_iload_n (x := l2) D_224_16 rfl ?_
    refine mjq_vI (As := [.int l1, .int l2]) (rest := []) D_224_17 mr_11_274 V_200 rfl rfl rfl hR (Nat.le_refl _) h1 h2 h (fun v5 hp6 h => ?_)
    refine mjr_goto (tgt := 24) D_224_20 rfl ?_
    exact mjq_ret D_224_24 rfl h1 h2 h
noncomputable def f_224 (R : mjR) (a0 : Nat) (a1 : Int32) (a2 : Int32) (hp : mjH) : mjU := b_224_0 R a0 a1 a2 hp
theorem c_224 {R : mjR} {d : Nat} (hR : mjC R d) {a0 : Nat} {a1 : Int32} {a2 : Int32} {hp : mjH} {q : Option Value × mjH} (h : f_224 R a0 a1 a2 hp = some q) : mjM (d + 1) 0 0 224 [.ref a0, .int a1, .int a2] hp (mjEq q) :=
  mjM_of Ja_224 (Nat.le_of_ble_eq_true rfl) (mjG.fg (lo' := [some (.ref a0), some (.int a1), some (.int a2)]) (And.intro rfl (And.intro rfl (And.intro rfl True.intro))) ((t_224_0 hR (Nat.le_refl 0) (Nat.le_refl 0)) a0 a1 a2 hp q h))
def J_225 : mjI := (⟨"OwnerHeapModel", "<init>", "()V"⟩, 12, prog_14_method_1_code, 1, none, 0, false)
theorem Ja_225 : mjMt 225 = some J_225 := by rfl
theorem D_225_778 : decode J_225.2.2.1 778 = .ok (.aload_n 0, 1) := by decide +kernel
theorem D_225_779 : decode J_225.2.2.1 779 = .ok (.iconst 1, 1) := by decide +kernel
theorem D_225_780 : decode J_225.2.2.1 780 = .ok (.bipush 99, 2) := by decide +kernel
theorem D_225_782 : decode J_225.2.2.1 782 = .ok (.bipush 108, 2) := by decide +kernel
theorem D_225_784 : decode J_225.2.2.1 784 = .ok (.bipush 97, 2) := by decide +kernel
theorem D_225_786 : decode J_225.2.2.1 786 = .ok (.bipush 115, 2) := by decide +kernel
theorem D_225_788 : decode J_225.2.2.1 788 = .ok (.bipush 115, 2) := by decide +kernel
theorem D_225_790 : decode J_225.2.2.1 790 = .ok (.iconst 0, 1) := by decide +kernel
theorem D_225_791 : decode J_225.2.2.1 791 = .ok (.invokevirtual 290, 3) := by decide +kernel
theorem D_225_794 : decode J_225.2.2.1 794 = .ok (.aload_n 0, 1) := by decide +kernel
theorem D_225_795 : decode J_225.2.2.1 795 = .ok (.iconst 2, 1) := by decide +kernel
theorem D_225_796 : decode J_225.2.2.1 796 = .ok (.bipush 105, 2) := by decide +kernel
theorem D_225_798 : decode J_225.2.2.1 798 = .ok (.bipush 115, 2) := by decide +kernel
theorem D_225_800 : decode J_225.2.2.1 800 = .ok (.iconst 0, 1) := by decide +kernel
theorem D_225_801 : decode J_225.2.2.1 801 = .ok (.iconst 0, 1) := by decide +kernel
theorem D_225_802 : decode J_225.2.2.1 802 = .ok (.iconst 0, 1) := by decide +kernel
theorem D_225_803 : decode J_225.2.2.1 803 = .ok (.iconst 0, 1) := by decide +kernel
theorem D_225_804 : decode J_225.2.2.1 804 = .ok (.invokevirtual 290, 3) := by decide +kernel
theorem D_225_807 : decode J_225.2.2.1 807 = .ok (.aload_n 0, 1) := by decide +kernel
theorem D_225_808 : decode J_225.2.2.1 808 = .ok (.iconst 3, 1) := by decide +kernel
theorem D_225_809 : decode J_225.2.2.1 809 = .ok (.bipush 119, 2) := by decide +kernel
theorem D_225_811 : decode J_225.2.2.1 811 = .ok (.bipush 104, 2) := by decide +kernel
theorem D_225_813 : decode J_225.2.2.1 813 = .ok (.bipush 101, 2) := by decide +kernel
theorem D_225_815 : decode J_225.2.2.1 815 = .ok (.bipush 114, 2) := by decide +kernel
theorem D_225_817 : decode J_225.2.2.1 817 = .ok (.bipush 101, 2) := by decide +kernel
theorem D_225_819 : decode J_225.2.2.1 819 = .ok (.iconst 0, 1) := by decide +kernel
theorem D_225_820 : decode J_225.2.2.1 820 = .ok (.invokevirtual 290, 3) := by decide +kernel
theorem D_225_823 : decode J_225.2.2.1 823 = .ok (.aload_n 0, 1) := by decide +kernel
theorem D_225_824 : decode J_225.2.2.1 824 = .ok (.iconst 4, 1) := by decide +kernel
theorem D_225_825 : decode J_225.2.2.1 825 = .ok (.bipush 105, 2) := by decide +kernel
theorem D_225_827 : decode J_225.2.2.1 827 = .ok (.bipush 110, 2) := by decide +kernel
theorem D_225_829 : decode J_225.2.2.1 829 = .ok (.iconst 0, 1) := by decide +kernel
theorem D_225_830 : decode J_225.2.2.1 830 = .ok (.iconst 0, 1) := by decide +kernel
theorem D_225_831 : decode J_225.2.2.1 831 = .ok (.iconst 0, 1) := by decide +kernel
theorem D_225_832 : decode J_225.2.2.1 832 = .ok (.iconst 0, 1) := by decide +kernel
theorem D_225_833 : decode J_225.2.2.1 833 = .ok (.invokevirtual 290, 3) := by decide +kernel
theorem D_225_836 : decode J_225.2.2.1 836 = .ok (.aload_n 0, 1) := by decide +kernel
theorem D_225_837 : decode J_225.2.2.1 837 = .ok (.iconst 5, 1) := by decide +kernel
theorem D_225_838 : decode J_225.2.2.1 838 = .ok (.bipush 109, 2) := by decide +kernel
theorem D_225_840 : decode J_225.2.2.1 840 = .ok (.bipush 97, 2) := by decide +kernel
theorem D_225_842 : decode J_225.2.2.1 842 = .ok (.bipush 105, 2) := by decide +kernel
theorem D_225_844 : decode J_225.2.2.1 844 = .ok (.bipush 110, 2) := by decide +kernel
theorem D_225_846 : decode J_225.2.2.1 846 = .ok (.iconst 0, 1) := by decide +kernel
theorem D_225_847 : decode J_225.2.2.1 847 = .ok (.iconst 0, 1) := by decide +kernel
theorem D_225_848 : decode J_225.2.2.1 848 = .ok (.invokevirtual 290, 3) := by decide +kernel
theorem D_225_851 : decode J_225.2.2.1 851 = .ok (.aload_n 0, 1) := by decide +kernel
theorem D_225_852 : decode J_225.2.2.1 852 = .ok (.bipush 6, 2) := by decide +kernel
theorem D_225_854 : decode J_225.2.2.1 854 = .ok (.bipush 105, 2) := by decide +kernel
theorem D_225_856 : decode J_225.2.2.1 856 = .ok (.bipush 110, 2) := by decide +kernel
theorem D_225_858 : decode J_225.2.2.1 858 = .ok (.bipush 116, 2) := by decide +kernel
theorem D_225_860 : decode J_225.2.2.1 860 = .ok (.iconst 0, 1) := by decide +kernel
theorem D_225_861 : decode J_225.2.2.1 861 = .ok (.iconst 0, 1) := by decide +kernel
theorem D_225_862 : decode J_225.2.2.1 862 = .ok (.iconst 0, 1) := by decide +kernel
theorem D_225_863 : decode J_225.2.2.1 863 = .ok (.invokevirtual 290, 3) := by decide +kernel
theorem D_225_866 : decode J_225.2.2.1 866 = .ok (.aload_n 0, 1) := by decide +kernel
theorem D_225_867 : decode J_225.2.2.1 867 = .ok (.bipush 7, 2) := by decide +kernel
theorem D_225_869 : decode J_225.2.2.1 869 = .ok (.bipush 110, 2) := by decide +kernel
theorem D_225_871 : decode J_225.2.2.1 871 = .ok (.bipush 117, 2) := by decide +kernel
theorem D_225_873 : decode J_225.2.2.1 873 = .ok (.bipush 108, 2) := by decide +kernel
theorem D_225_875 : decode J_225.2.2.1 875 = .ok (.bipush 108, 2) := by decide +kernel
theorem D_225_877 : decode J_225.2.2.1 877 = .ok (.iconst 0, 1) := by decide +kernel
theorem D_225_878 : decode J_225.2.2.1 878 = .ok (.iconst 0, 1) := by decide +kernel
theorem D_225_879 : decode J_225.2.2.1 879 = .ok (.invokevirtual 290, 3) := by decide +kernel
theorem D_225_882 : decode J_225.2.2.1 882 = .ok (.aload_n 0, 1) := by decide +kernel
theorem D_225_883 : decode J_225.2.2.1 883 = .ok (.bipush 8, 2) := by decide +kernel
theorem D_225_885 : decode J_225.2.2.1 885 = .ok (.bipush 116, 2) := by decide +kernel
theorem D_225_887 : decode J_225.2.2.1 887 = .ok (.bipush 104, 2) := by decide +kernel
theorem D_225_889 : decode J_225.2.2.1 889 = .ok (.bipush 105, 2) := by decide +kernel
theorem D_225_891 : decode J_225.2.2.1 891 = .ok (.bipush 115, 2) := by decide +kernel
theorem D_225_893 : decode J_225.2.2.1 893 = .ok (.iconst 0, 1) := by decide +kernel
theorem D_225_894 : decode J_225.2.2.1 894 = .ok (.iconst 0, 1) := by decide +kernel
theorem D_225_895 : decode J_225.2.2.1 895 = .ok (.invokevirtual 290, 3) := by decide +kernel
theorem D_225_898 : decode J_225.2.2.1 898 = .ok (.aload_n 0, 1) := by decide +kernel
theorem D_225_899 : decode J_225.2.2.1 899 = .ok (.bipush 9, 2) := by decide +kernel
theorem D_225_901 : decode J_225.2.2.1 901 = .ok (.bipush 119, 2) := by decide +kernel
theorem D_225_903 : decode J_225.2.2.1 903 = .ok (.bipush 111, 2) := by decide +kernel
theorem D_225_905 : decode J_225.2.2.1 905 = .ok (.bipush 114, 2) := by decide +kernel
theorem D_225_907 : decode J_225.2.2.1 907 = .ok (.bipush 108, 2) := by decide +kernel
theorem D_225_909 : decode J_225.2.2.1 909 = .ok (.bipush 100, 2) := by decide +kernel
theorem D_225_911 : decode J_225.2.2.1 911 = .ok (.iconst 0, 1) := by decide +kernel
theorem D_225_912 : decode J_225.2.2.1 912 = .ok (.invokevirtual 290, 3) := by decide +kernel
theorem D_225_915 : decode J_225.2.2.1 915 = .ok (.aload_n 0, 1) := by decide +kernel
theorem D_225_916 : decode J_225.2.2.1 916 = .ok (.bipush 10, 2) := by decide +kernel
theorem D_225_918 : decode J_225.2.2.1 918 = .ok (.bipush 110, 2) := by decide +kernel
theorem D_225_920 : decode J_225.2.2.1 920 = .ok (.bipush 101, 2) := by decide +kernel
theorem D_225_922 : decode J_225.2.2.1 922 = .ok (.bipush 119, 2) := by decide +kernel
theorem D_225_924 : decode J_225.2.2.1 924 = .ok (.iconst 0, 1) := by decide +kernel
theorem D_225_925 : decode J_225.2.2.1 925 = .ok (.iconst 0, 1) := by decide +kernel
theorem D_225_926 : decode J_225.2.2.1 926 = .ok (.iconst 0, 1) := by decide +kernel
theorem D_225_927 : decode J_225.2.2.1 927 = .ok (.invokevirtual 290, 3) := by decide +kernel
theorem D_225_930 : decode J_225.2.2.1 930 = .ok (.aload_n 0, 1) := by decide +kernel
theorem D_225_931 : decode J_225.2.2.1 931 = .ok (.bipush 11, 2) := by decide +kernel
theorem D_225_933 : decode J_225.2.2.1 933 = .ok (.bipush 105, 2) := by decide +kernel
theorem D_225_935 : decode J_225.2.2.1 935 = .ok (.bipush 102, 2) := by decide +kernel
theorem D_225_937 : decode J_225.2.2.1 937 = .ok (.iconst 0, 1) := by decide +kernel
theorem D_225_938 : decode J_225.2.2.1 938 = .ok (.iconst 0, 1) := by decide +kernel
theorem D_225_939 : decode J_225.2.2.1 939 = .ok (.iconst 0, 1) := by decide +kernel
theorem D_225_940 : decode J_225.2.2.1 940 = .ok (.iconst 0, 1) := by decide +kernel
theorem D_225_941 : decode J_225.2.2.1 941 = .ok (.invokevirtual 290, 3) := by decide +kernel
theorem D_225_944 : decode J_225.2.2.1 944 = .ok (.aload_n 0, 1) := by decide +kernel
theorem D_225_945 : decode J_225.2.2.1 945 = .ok (.bipush 12, 2) := by decide +kernel
theorem D_225_947 : decode J_225.2.2.1 947 = .ok (.bipush 101, 2) := by decide +kernel
theorem D_225_949 : decode J_225.2.2.1 949 = .ok (.bipush 108, 2) := by decide +kernel
theorem D_225_951 : decode J_225.2.2.1 951 = .ok (.bipush 115, 2) := by decide +kernel
theorem D_225_953 : decode J_225.2.2.1 953 = .ok (.bipush 101, 2) := by decide +kernel
theorem D_225_955 : decode J_225.2.2.1 955 = .ok (.iconst 0, 1) := by decide +kernel
theorem D_225_956 : decode J_225.2.2.1 956 = .ok (.iconst 0, 1) := by decide +kernel
theorem D_225_957 : decode J_225.2.2.1 957 = .ok (.invokevirtual 290, 3) := by decide +kernel
theorem D_225_960 : decode J_225.2.2.1 960 = .ok (.aload_n 0, 1) := by decide +kernel
theorem D_225_961 : decode J_225.2.2.1 961 = .ok (.bipush 13, 2) := by decide +kernel
theorem D_225_963 : decode J_225.2.2.1 963 = .ok (.bipush 119, 2) := by decide +kernel
theorem D_225_965 : decode J_225.2.2.1 965 = .ok (.bipush 104, 2) := by decide +kernel
theorem D_225_967 : decode J_225.2.2.1 967 = .ok (.bipush 105, 2) := by decide +kernel
theorem D_225_969 : decode J_225.2.2.1 969 = .ok (.bipush 108, 2) := by decide +kernel
theorem D_225_971 : decode J_225.2.2.1 971 = .ok (.bipush 101, 2) := by decide +kernel
theorem D_225_973 : decode J_225.2.2.1 973 = .ok (.iconst 0, 1) := by decide +kernel
theorem D_225_974 : decode J_225.2.2.1 974 = .ok (.invokevirtual 290, 3) := by decide +kernel
theorem D_225_977 : decode J_225.2.2.1 977 = .ok (.aload_n 0, 1) := by decide +kernel
theorem D_225_978 : decode J_225.2.2.1 978 = .ok (.bipush 14, 2) := by decide +kernel
theorem D_225_980 : decode J_225.2.2.1 980 = .ok (.bipush 114, 2) := by decide +kernel
theorem D_225_982 : decode J_225.2.2.1 982 = .ok (.bipush 101, 2) := by decide +kernel
theorem D_225_984 : decode J_225.2.2.1 984 = .ok (.bipush 116, 2) := by decide +kernel
theorem D_225_986 : decode J_225.2.2.1 986 = .ok (.bipush 117, 2) := by decide +kernel
theorem D_225_988 : decode J_225.2.2.1 988 = .ok (.bipush 114, 2) := by decide +kernel
theorem D_225_990 : decode J_225.2.2.1 990 = .ok (.bipush 110, 2) := by decide +kernel
theorem D_225_992 : decode J_225.2.2.1 992 = .ok (.invokevirtual 290, 3) := by decide +kernel
theorem D_225_995 : decode J_225.2.2.1 995 = .ok (.aload_n 0, 1) := by decide +kernel
theorem D_225_996 : decode J_225.2.2.1 996 = .ok (.bipush 15, 2) := by decide +kernel
theorem D_225_998 : decode J_225.2.2.1 998 = .ok (.bipush 115, 2) := by decide +kernel
theorem D_225_1000 : decode J_225.2.2.1 1000 = .ok (.bipush 97, 2) := by decide +kernel
theorem D_225_1002 : decode J_225.2.2.1 1002 = .ok (.bipush 121, 2) := by decide +kernel
theorem D_225_1004 : decode J_225.2.2.1 1004 = .ok (.iconst 0, 1) := by decide +kernel
theorem D_225_1005 : decode J_225.2.2.1 1005 = .ok (.iconst 0, 1) := by decide +kernel
theorem D_225_1006 : decode J_225.2.2.1 1006 = .ok (.iconst 0, 1) := by decide +kernel
theorem D_225_1007 : decode J_225.2.2.1 1007 = .ok (.invokevirtual 290, 3) := by decide +kernel
theorem D_225_1010 : decode J_225.2.2.1 1010 = .ok (.aload_n 0, 1) := by decide +kernel
theorem D_225_1011 : decode J_225.2.2.1 1011 = .ok (.bipush 16, 2) := by decide +kernel
theorem D_225_1013 : decode J_225.2.2.1 1013 = .ok (.bipush 97, 2) := by decide +kernel
theorem D_225_1015 : decode J_225.2.2.1 1015 = .ok (.bipush 115, 2) := by decide +kernel
theorem D_225_1017 : decode J_225.2.2.1 1017 = .ok (.iconst 0, 1) := by decide +kernel
theorem D_225_1018 : decode J_225.2.2.1 1018 = .ok (.iconst 0, 1) := by decide +kernel
theorem D_225_1019 : decode J_225.2.2.1 1019 = .ok (.iconst 0, 1) := by decide +kernel
theorem D_225_1020 : decode J_225.2.2.1 1020 = .ok (.iconst 0, 1) := by decide +kernel
theorem D_225_1021 : decode J_225.2.2.1 1021 = .ok (.invokevirtual 290, 3) := by decide +kernel
theorem D_225_1024 : decode J_225.2.2.1 1024 = .ok (.return_, 1) := by decide +kernel
def P_225_778 (X : mjX) (d C S kc ks : Nat) (k : Nat → mjH → mjU) : Prop := ∀ (l0 : Nat) (hp : mjH) (q : Option Value × mjH), k l0 hp = some q → mjG X d C S J_225 (mjEq q) 778 [some (.ref l0)] [] hp kc ks
noncomputable def b_225_778 (R : mjR) (l0 : Nat) (hp : mjH) : mjU := rV hp l0 12 (bN (R 226 [.ref l0, .int (1 : Int32), .int (99 : Int32), .int (108 : Int32), .int (97 : Int32), .int (115 : Int32), .int (115 : Int32), .int (0 : Int32)] hp) (fun  hp1 => rV hp1 l0 12 (bN (R 226 [.ref l0, .int (2 : Int32), .int (105 : Int32), .int (115 : Int32), .int (0 : Int32), .int (0 : Int32), .int (0 : Int32), .int (0 : Int32)] hp1) (fun  hp2 => rV hp2 l0 12 (bN (R 226 [.ref l0, .int (3 : Int32), .int (119 : Int32), .int (104 : Int32), .int (101 : Int32), .int (114 : Int32), .int (101 : Int32), .int (0 : Int32)] hp2) (fun  hp3 => rV hp3 l0 12 (bN (R 226 [.ref l0, .int (4 : Int32), .int (105 : Int32), .int (110 : Int32), .int (0 : Int32), .int (0 : Int32), .int (0 : Int32), .int (0 : Int32)] hp3) (fun  hp4 => rV hp4 l0 12 (bN (R 226 [.ref l0, .int (5 : Int32), .int (109 : Int32), .int (97 : Int32), .int (105 : Int32), .int (110 : Int32), .int (0 : Int32), .int (0 : Int32)] hp4) (fun  hp5 => rV hp5 l0 12 (bN (R 226 [.ref l0, .int (6 : Int32), .int (105 : Int32), .int (110 : Int32), .int (116 : Int32), .int (0 : Int32), .int (0 : Int32), .int (0 : Int32)] hp5) (fun  hp6 => rV hp6 l0 12 (bN (R 226 [.ref l0, .int (7 : Int32), .int (110 : Int32), .int (117 : Int32), .int (108 : Int32), .int (108 : Int32), .int (0 : Int32), .int (0 : Int32)] hp6) (fun  hp7 => rV hp7 l0 12 (bN (R 226 [.ref l0, .int (8 : Int32), .int (116 : Int32), .int (104 : Int32), .int (105 : Int32), .int (115 : Int32), .int (0 : Int32), .int (0 : Int32)] hp7) (fun  hp8 => rV hp8 l0 12 (bN (R 226 [.ref l0, .int (9 : Int32), .int (119 : Int32), .int (111 : Int32), .int (114 : Int32), .int (108 : Int32), .int (100 : Int32), .int (0 : Int32)] hp8) (fun  hp9 => rV hp9 l0 12 (bN (R 226 [.ref l0, .int (10 : Int32), .int (110 : Int32), .int (101 : Int32), .int (119 : Int32), .int (0 : Int32), .int (0 : Int32), .int (0 : Int32)] hp9) (fun  hp10 => rV hp10 l0 12 (bN (R 226 [.ref l0, .int (11 : Int32), .int (105 : Int32), .int (102 : Int32), .int (0 : Int32), .int (0 : Int32), .int (0 : Int32), .int (0 : Int32)] hp10) (fun  hp11 => rV hp11 l0 12 (bN (R 226 [.ref l0, .int (12 : Int32), .int (101 : Int32), .int (108 : Int32), .int (115 : Int32), .int (101 : Int32), .int (0 : Int32), .int (0 : Int32)] hp11) (fun  hp12 => rV hp12 l0 12 (bN (R 226 [.ref l0, .int (13 : Int32), .int (119 : Int32), .int (104 : Int32), .int (105 : Int32), .int (108 : Int32), .int (101 : Int32), .int (0 : Int32)] hp12) (fun  hp13 => rV hp13 l0 12 (bN (R 226 [.ref l0, .int (14 : Int32), .int (114 : Int32), .int (101 : Int32), .int (116 : Int32), .int (117 : Int32), .int (114 : Int32), .int (110 : Int32)] hp13) (fun  hp14 => rV hp14 l0 12 (bN (R 226 [.ref l0, .int (15 : Int32), .int (115 : Int32), .int (97 : Int32), .int (121 : Int32), .int (0 : Int32), .int (0 : Int32), .int (0 : Int32)] hp14) (fun  hp15 => rV hp15 l0 12 (bN (R 226 [.ref l0, .int (16 : Int32), .int (97 : Int32), .int (115 : Int32), .int (0 : Int32), .int (0 : Int32), .int (0 : Int32), .int (0 : Int32)] hp15) (fun  hp16 => some (none, hp16)))))))))))))))))))))))))))))))))
theorem t_225_778 {X : mjX} {d C S kc ks : Nat} {R : mjR} (hR : mjC R d) (h1 : kc ≤ C) (h2 : ks ≤ S) : P_225_778 X (d + 1) C S kc ks (b_225_778 R) := by
  intro l0 hp q h
  unfold b_225_778 at h
  refine mjr_aload_n (x := l0) D_225_778 rfl ?_
  refine mjq_ic (v := (1 : Int32)) D_225_779 rfl ?_
  refine mjq_bi (v := (99 : Int32)) D_225_780 rfl ?_
  refine mjq_bi (v := (108 : Int32)) D_225_782 rfl ?_
  refine mjq_bi (v := (97 : Int32)) D_225_784 rfl ?_
  refine mjq_bi (v := (115 : Int32)) D_225_786 rfl ?_
  refine mjq_bi (v := (115 : Int32)) D_225_788 rfl ?_
  refine mjq_ic (v := (0 : Int32)) D_225_790 rfl ?_
  refine mjq_vN (As := [.int (1 : Int32), .int (99 : Int32), .int (108 : Int32), .int (97 : Int32), .int (115 : Int32), .int (115 : Int32), .int (0 : Int32)]) (rest := []) D_225_791 mr_12_290 V_226 rfl rfl rfl hR (Nat.le_refl _) h1 h2 h (fun  hp1 h => ?_)
  refine mjr_aload_n (x := l0) D_225_794 rfl ?_
  refine mjq_ic (v := (2 : Int32)) D_225_795 rfl ?_
  refine mjq_bi (v := (105 : Int32)) D_225_796 rfl ?_
  refine mjq_bi (v := (115 : Int32)) D_225_798 rfl ?_
  refine mjq_ic (v := (0 : Int32)) D_225_800 rfl ?_
  refine mjq_ic (v := (0 : Int32)) D_225_801 rfl ?_
  refine mjq_ic (v := (0 : Int32)) D_225_802 rfl ?_
  refine mjq_ic (v := (0 : Int32)) D_225_803 rfl ?_
  refine mjq_vN (As := [.int (2 : Int32), .int (105 : Int32), .int (115 : Int32), .int (0 : Int32), .int (0 : Int32), .int (0 : Int32), .int (0 : Int32)]) (rest := []) D_225_804 mr_12_290 V_226 rfl rfl rfl hR (Nat.le_refl _) h1 h2 h (fun  hp2 h => ?_)
  refine mjr_aload_n (x := l0) D_225_807 rfl ?_
  refine mjq_ic (v := (3 : Int32)) D_225_808 rfl ?_
  refine mjq_bi (v := (119 : Int32)) D_225_809 rfl ?_
  refine mjq_bi (v := (104 : Int32)) D_225_811 rfl ?_
  refine mjq_bi (v := (101 : Int32)) D_225_813 rfl ?_
  refine mjq_bi (v := (114 : Int32)) D_225_815 rfl ?_
  refine mjq_bi (v := (101 : Int32)) D_225_817 rfl ?_
  refine mjq_ic (v := (0 : Int32)) D_225_819 rfl ?_
  refine mjq_vN (As := [.int (3 : Int32), .int (119 : Int32), .int (104 : Int32), .int (101 : Int32), .int (114 : Int32), .int (101 : Int32), .int (0 : Int32)]) (rest := []) D_225_820 mr_12_290 V_226 rfl rfl rfl hR (Nat.le_refl _) h1 h2 h (fun  hp3 h => ?_)
  refine mjr_aload_n (x := l0) D_225_823 rfl ?_
  refine mjq_ic (v := (4 : Int32)) D_225_824 rfl ?_
  refine mjq_bi (v := (105 : Int32)) D_225_825 rfl ?_
  refine mjq_bi (v := (110 : Int32)) D_225_827 rfl ?_
  refine mjq_ic (v := (0 : Int32)) D_225_829 rfl ?_
  refine mjq_ic (v := (0 : Int32)) D_225_830 rfl ?_
  refine mjq_ic (v := (0 : Int32)) D_225_831 rfl ?_
  refine mjq_ic (v := (0 : Int32)) D_225_832 rfl ?_
  refine mjq_vN (As := [.int (4 : Int32), .int (105 : Int32), .int (110 : Int32), .int (0 : Int32), .int (0 : Int32), .int (0 : Int32), .int (0 : Int32)]) (rest := []) D_225_833 mr_12_290 V_226 rfl rfl rfl hR (Nat.le_refl _) h1 h2 h (fun  hp4 h => ?_)
  refine mjr_aload_n (x := l0) D_225_836 rfl ?_
  refine mjq_ic (v := (5 : Int32)) D_225_837 rfl ?_
  refine mjq_bi (v := (109 : Int32)) D_225_838 rfl ?_
  refine mjq_bi (v := (97 : Int32)) D_225_840 rfl ?_
  refine mjq_bi (v := (105 : Int32)) D_225_842 rfl ?_
  refine mjq_bi (v := (110 : Int32)) D_225_844 rfl ?_
  refine mjq_ic (v := (0 : Int32)) D_225_846 rfl ?_
  refine mjq_ic (v := (0 : Int32)) D_225_847 rfl ?_
  refine mjq_vN (As := [.int (5 : Int32), .int (109 : Int32), .int (97 : Int32), .int (105 : Int32), .int (110 : Int32), .int (0 : Int32), .int (0 : Int32)]) (rest := []) D_225_848 mr_12_290 V_226 rfl rfl rfl hR (Nat.le_refl _) h1 h2 h (fun  hp5 h => ?_)
  refine mjr_aload_n (x := l0) D_225_851 rfl ?_
  refine mjq_bi (v := (6 : Int32)) D_225_852 rfl ?_
  refine mjq_bi (v := (105 : Int32)) D_225_854 rfl ?_
  refine mjq_bi (v := (110 : Int32)) D_225_856 rfl ?_
  refine mjq_bi (v := (116 : Int32)) D_225_858 rfl ?_
  refine mjq_ic (v := (0 : Int32)) D_225_860 rfl ?_
  refine mjq_ic (v := (0 : Int32)) D_225_861 rfl ?_
  refine mjq_ic (v := (0 : Int32)) D_225_862 rfl ?_
  refine mjq_vN (As := [.int (6 : Int32), .int (105 : Int32), .int (110 : Int32), .int (116 : Int32), .int (0 : Int32), .int (0 : Int32), .int (0 : Int32)]) (rest := []) D_225_863 mr_12_290 V_226 rfl rfl rfl hR (Nat.le_refl _) h1 h2 h (fun  hp6 h => ?_)
  refine mjr_aload_n (x := l0) D_225_866 rfl ?_
  refine mjq_bi (v := (7 : Int32)) D_225_867 rfl ?_
  refine mjq_bi (v := (110 : Int32)) D_225_869 rfl ?_
  refine mjq_bi (v := (117 : Int32)) D_225_871 rfl ?_
  refine mjq_bi (v := (108 : Int32)) D_225_873 rfl ?_
  refine mjq_bi (v := (108 : Int32)) D_225_875 rfl ?_
  refine mjq_ic (v := (0 : Int32)) D_225_877 rfl ?_
  refine mjq_ic (v := (0 : Int32)) D_225_878 rfl ?_
  refine mjq_vN (As := [.int (7 : Int32), .int (110 : Int32), .int (117 : Int32), .int (108 : Int32), .int (108 : Int32), .int (0 : Int32), .int (0 : Int32)]) (rest := []) D_225_879 mr_12_290 V_226 rfl rfl rfl hR (Nat.le_refl _) h1 h2 h (fun  hp7 h => ?_)
  refine mjr_aload_n (x := l0) D_225_882 rfl ?_
  refine mjq_bi (v := (8 : Int32)) D_225_883 rfl ?_
  refine mjq_bi (v := (116 : Int32)) D_225_885 rfl ?_
  refine mjq_bi (v := (104 : Int32)) D_225_887 rfl ?_
  refine mjq_bi (v := (105 : Int32)) D_225_889 rfl ?_
  refine mjq_bi (v := (115 : Int32)) D_225_891 rfl ?_
  refine mjq_ic (v := (0 : Int32)) D_225_893 rfl ?_
  refine mjq_ic (v := (0 : Int32)) D_225_894 rfl ?_
  refine mjq_vN (As := [.int (8 : Int32), .int (116 : Int32), .int (104 : Int32), .int (105 : Int32), .int (115 : Int32), .int (0 : Int32), .int (0 : Int32)]) (rest := []) D_225_895 mr_12_290 V_226 rfl rfl rfl hR (Nat.le_refl _) h1 h2 h (fun  hp8 h => ?_)
  refine mjr_aload_n (x := l0) D_225_898 rfl ?_
  refine mjq_bi (v := (9 : Int32)) D_225_899 rfl ?_
  refine mjq_bi (v := (119 : Int32)) D_225_901 rfl ?_
  refine mjq_bi (v := (111 : Int32)) D_225_903 rfl ?_
  refine mjq_bi (v := (114 : Int32)) D_225_905 rfl ?_
  refine mjq_bi (v := (108 : Int32)) D_225_907 rfl ?_
  refine mjq_bi (v := (100 : Int32)) D_225_909 rfl ?_
  refine mjq_ic (v := (0 : Int32)) D_225_911 rfl ?_
  refine mjq_vN (As := [.int (9 : Int32), .int (119 : Int32), .int (111 : Int32), .int (114 : Int32), .int (108 : Int32), .int (100 : Int32), .int (0 : Int32)]) (rest := []) D_225_912 mr_12_290 V_226 rfl rfl rfl hR (Nat.le_refl _) h1 h2 h (fun  hp9 h => ?_)
  refine mjr_aload_n (x := l0) D_225_915 rfl ?_
  refine mjq_bi (v := (10 : Int32)) D_225_916 rfl ?_
  refine mjq_bi (v := (110 : Int32)) D_225_918 rfl ?_
  refine mjq_bi (v := (101 : Int32)) D_225_920 rfl ?_
  refine mjq_bi (v := (119 : Int32)) D_225_922 rfl ?_
  refine mjq_ic (v := (0 : Int32)) D_225_924 rfl ?_
  refine mjq_ic (v := (0 : Int32)) D_225_925 rfl ?_
  refine mjq_ic (v := (0 : Int32)) D_225_926 rfl ?_
  refine mjq_vN (As := [.int (10 : Int32), .int (110 : Int32), .int (101 : Int32), .int (119 : Int32), .int (0 : Int32), .int (0 : Int32), .int (0 : Int32)]) (rest := []) D_225_927 mr_12_290 V_226 rfl rfl rfl hR (Nat.le_refl _) h1 h2 h (fun  hp10 h => ?_)
  refine mjr_aload_n (x := l0) D_225_930 rfl ?_
  refine mjq_bi (v := (11 : Int32)) D_225_931 rfl ?_
  refine mjq_bi (v := (105 : Int32)) D_225_933 rfl ?_
  refine mjq_bi (v := (102 : Int32)) D_225_935 rfl ?_
  refine mjq_ic (v := (0 : Int32)) D_225_937 rfl ?_
  refine mjq_ic (v := (0 : Int32)) D_225_938 rfl ?_
  refine mjq_ic (v := (0 : Int32)) D_225_939 rfl ?_
  refine mjq_ic (v := (0 : Int32)) D_225_940 rfl ?_
  refine mjq_vN (As := [.int (11 : Int32), .int (105 : Int32), .int (102 : Int32), .int (0 : Int32), .int (0 : Int32), .int (0 : Int32), .int (0 : Int32)]) (rest := []) D_225_941 mr_12_290 V_226 rfl rfl rfl hR (Nat.le_refl _) h1 h2 h (fun  hp11 h => ?_)
  refine mjr_aload_n (x := l0) D_225_944 rfl ?_
  refine mjq_bi (v := (12 : Int32)) D_225_945 rfl ?_
  refine mjq_bi (v := (101 : Int32)) D_225_947 rfl ?_
  refine mjq_bi (v := (108 : Int32)) D_225_949 rfl ?_
  refine mjq_bi (v := (115 : Int32)) D_225_951 rfl ?_
  refine mjq_bi (v := (101 : Int32)) D_225_953 rfl ?_
  refine mjq_ic (v := (0 : Int32)) D_225_955 rfl ?_
  refine mjq_ic (v := (0 : Int32)) D_225_956 rfl ?_
  refine mjq_vN (As := [.int (12 : Int32), .int (101 : Int32), .int (108 : Int32), .int (115 : Int32), .int (101 : Int32), .int (0 : Int32), .int (0 : Int32)]) (rest := []) D_225_957 mr_12_290 V_226 rfl rfl rfl hR (Nat.le_refl _) h1 h2 h (fun  hp12 h => ?_)
  refine mjr_aload_n (x := l0) D_225_960 rfl ?_
  refine mjq_bi (v := (13 : Int32)) D_225_961 rfl ?_
  refine mjq_bi (v := (119 : Int32)) D_225_963 rfl ?_
  refine mjq_bi (v := (104 : Int32)) D_225_965 rfl ?_
  refine mjq_bi (v := (105 : Int32)) D_225_967 rfl ?_
  refine mjq_bi (v := (108 : Int32)) D_225_969 rfl ?_
  refine mjq_bi (v := (101 : Int32)) D_225_971 rfl ?_
  refine mjq_ic (v := (0 : Int32)) D_225_973 rfl ?_
  refine mjq_vN (As := [.int (13 : Int32), .int (119 : Int32), .int (104 : Int32), .int (105 : Int32), .int (108 : Int32), .int (101 : Int32), .int (0 : Int32)]) (rest := []) D_225_974 mr_12_290 V_226 rfl rfl rfl hR (Nat.le_refl _) h1 h2 h (fun  hp13 h => ?_)
  refine mjr_aload_n (x := l0) D_225_977 rfl ?_
  refine mjq_bi (v := (14 : Int32)) D_225_978 rfl ?_
  refine mjq_bi (v := (114 : Int32)) D_225_980 rfl ?_
  refine mjq_bi (v := (101 : Int32)) D_225_982 rfl ?_
  refine mjq_bi (v := (116 : Int32)) D_225_984 rfl ?_
  refine mjq_bi (v := (117 : Int32)) D_225_986 rfl ?_
  refine mjq_bi (v := (114 : Int32)) D_225_988 rfl ?_
  refine mjq_bi (v := (110 : Int32)) D_225_990 rfl ?_
  refine mjq_vN (As := [.int (14 : Int32), .int (114 : Int32), .int (101 : Int32), .int (116 : Int32), .int (117 : Int32), .int (114 : Int32), .int (110 : Int32)]) (rest := []) D_225_992 mr_12_290 V_226 rfl rfl rfl hR (Nat.le_refl _) h1 h2 h (fun  hp14 h => ?_)
  refine mjr_aload_n (x := l0) D_225_995 rfl ?_
  refine mjq_bi (v := (15 : Int32)) D_225_996 rfl ?_
  refine mjq_bi (v := (115 : Int32)) D_225_998 rfl ?_
  refine mjq_bi (v := (97 : Int32)) D_225_1000 rfl ?_
  refine mjq_bi (v := (121 : Int32)) D_225_1002 rfl ?_
  refine mjq_ic (v := (0 : Int32)) D_225_1004 rfl ?_
  refine mjq_ic (v := (0 : Int32)) D_225_1005 rfl ?_
  refine mjq_ic (v := (0 : Int32)) D_225_1006 rfl ?_
  refine mjq_vN (As := [.int (15 : Int32), .int (115 : Int32), .int (97 : Int32), .int (121 : Int32), .int (0 : Int32), .int (0 : Int32), .int (0 : Int32)]) (rest := []) D_225_1007 mr_12_290 V_226 rfl rfl rfl hR (Nat.le_refl _) h1 h2 h (fun  hp15 h => ?_)
  refine mjr_aload_n (x := l0) D_225_1010 rfl ?_
  refine mjq_bi (v := (16 : Int32)) D_225_1011 rfl ?_
  refine mjq_bi (v := (97 : Int32)) D_225_1013 rfl ?_
  refine mjq_bi (v := (115 : Int32)) D_225_1015 rfl ?_
  refine mjq_ic (v := (0 : Int32)) D_225_1017 rfl ?_
  refine mjq_ic (v := (0 : Int32)) D_225_1018 rfl ?_
  refine mjq_ic (v := (0 : Int32)) D_225_1019 rfl ?_
  refine mjq_ic (v := (0 : Int32)) D_225_1020 rfl ?_
  refine mjq_vN (As := [.int (16 : Int32), .int (97 : Int32), .int (115 : Int32), .int (0 : Int32), .int (0 : Int32), .int (0 : Int32), .int (0 : Int32)]) (rest := []) D_225_1021 mr_12_290 V_226 rfl rfl rfl hR (Nat.le_refl _) h1 h2 h (fun  hp16 h => ?_)
  exact mjq_nret D_225_1024 rfl h1 h2 h
def J_226 : mjI := (⟨"OwnerHeapModel", "keep", "(IIIIIII)V"⟩, 12, prog_14_method_4_code, 10, none, 7, false)
theorem Ja_226 : mjMt 226 = some J_226 := by rfl
theorem D_226_0 : decode J_226.2.2.1 0 = .ok (.lconst 0, 1) := by decide +kernel
theorem D_226_1 : decode J_226.2.2.1 1 = .ok (.iload_n 2, 1) := by decide +kernel
theorem D_226_2 : decode J_226.2.2.1 2 = .ok (.invokestatic 300, 3) := by decide +kernel
theorem D_226_5 : decode J_226.2.2.1 5 = .ok (.iload_n 3, 1) := by decide +kernel
theorem D_226_6 : decode J_226.2.2.1 6 = .ok (.invokestatic 300, 3) := by decide +kernel
theorem D_226_9 : decode J_226.2.2.1 9 = .ok (.iload 4, 2) := by decide +kernel
theorem D_226_11 : decode J_226.2.2.1 11 = .ok (.invokestatic 300, 3) := by decide +kernel
theorem D_226_14 : decode J_226.2.2.1 14 = .ok (.iload 5, 2) := by decide +kernel
theorem D_226_16 : decode J_226.2.2.1 16 = .ok (.invokestatic 300, 3) := by decide +kernel
theorem D_226_19 : decode J_226.2.2.1 19 = .ok (.iload 6, 2) := by decide +kernel
theorem D_226_21 : decode J_226.2.2.1 21 = .ok (.invokestatic 300, 3) := by decide +kernel
theorem D_226_24 : decode J_226.2.2.1 24 = .ok (.iload 7, 2) := by decide +kernel
theorem D_226_26 : decode J_226.2.2.1 26 = .ok (.invokestatic 300, 3) := by decide +kernel
theorem D_226_29 : decode J_226.2.2.1 29 = .ok (.lstore 8, 2) := by decide +kernel
theorem D_226_31 : decode J_226.2.2.1 31 = .ok (.aload_n 0, 1) := by decide +kernel
theorem D_226_32 : decode J_226.2.2.1 32 = .ok (.getfield 13, 3) := by decide +kernel
theorem D_226_35 : decode J_226.2.2.1 35 = .ok (.iload_n 1, 1) := by decide +kernel
theorem D_226_36 : decode J_226.2.2.1 36 = .ok (.lload 8, 2) := by decide +kernel
theorem D_226_38 : decode J_226.2.2.1 38 = .ok (.lastore, 1) := by decide +kernel
theorem D_226_39 : decode J_226.2.2.1 39 = .ok (.return_, 1) := by decide +kernel
def P_226_0 (X : mjX) (d C S kc ks : Nat) (k : Nat → Int32 → Int32 → Int32 → Int32 → Int32 → Int32 → Int32 → mjH → mjU) : Prop := ∀ (l0 : Nat) (l1 : Int32) (l2 : Int32) (l3 : Int32) (l4 : Int32) (l5 : Int32) (l6 : Int32) (l7 : Int32) (hp : mjH) (q : Option Value × mjH), k l0 l1 l2 l3 l4 l5 l6 l7 hp = some q → mjG X d C S J_226 (mjEq q) 0 [some (.ref l0), some (.int l1), some (.int l2), some (.int l3), some (.int l4), some (.int l5), some (.int l6), some (.int l7), none, none] [] hp kc ks
noncomputable def b_226_0 (R : mjR) (l0 : Nat) (l1 : Int32) (l2 : Int32) (l3 : Int32) (l4 : Int32) (l5 : Int32) (l6 : Int32) (l7 : Int32) (hp : mjH) : mjU := bL (R 227 [.long (0 : Int64), .int l2] hp) (fun v1 hp2 => bL (R 227 [.long v1, .int l3] hp2) (fun v3 hp4 => bL (R 227 [.long v3, .int l4] hp4) (fun v5 hp6 => bL (R 227 [.long v5, .int l5] hp6) (fun v7 hp8 => bL (R 227 [.long v7, .int l6] hp8) (fun v9 hp10 => bL (R 227 [.long v9, .int l7] hp10) (fun v11 hp12 => gR hp12 l0 12 8 (fun v13 => sL hp12 v13 l1 v11 (fun hp14 => some (none, hp14)))))))))
theorem t_226_0 {X : mjX} {d C S kc ks : Nat} {R : mjR} (hR : mjC R d) (h1 : kc ≤ C) (h2 : ks ≤ S) : P_226_0 X (d + 1) C S kc ks (b_226_0 R) := by
  intro l0 l1 l2 l3 l4 l5 l6 l7 hp q h
  unfold b_226_0 at h
  refine mjq_lc (v := (0 : Int64)) D_226_0 rfl ?_
  refine mjr_iload_n (x := l2) D_226_1 rfl ?_
  refine mjq_scL (As := [.long (0 : Int64), .int l2]) (rest := []) D_226_2 mr_12_300 V_227 rfl rfl rfl hR (Nat.le_refl _) h1 h2 h (fun v1 hp2 h => ?_)
  refine mjr_iload_n (x := l3) D_226_5 rfl ?_
  refine mjq_scL (As := [.long v1, .int l3]) (rest := []) D_226_6 mr_12_300 V_227 rfl rfl rfl hR (Nat.le_refl _) h1 h2 h (fun v3 hp4 h => ?_)
  refine mjr_iload (x := l4) D_226_9 rfl ?_
  refine mjq_scL (As := [.long v3, .int l4]) (rest := []) D_226_11 mr_12_300 V_227 rfl rfl rfl hR (Nat.le_refl _) h1 h2 h (fun v5 hp6 h => ?_)
  refine mjr_iload (x := l5) D_226_14 rfl ?_
  refine mjq_scL (As := [.long v5, .int l5]) (rest := []) D_226_16 mr_12_300 V_227 rfl rfl rfl hR (Nat.le_refl _) h1 h2 h (fun v7 hp8 h => ?_)
  refine mjr_iload (x := l6) D_226_19 rfl ?_
  refine mjq_scL (As := [.long v7, .int l6]) (rest := []) D_226_21 mr_12_300 V_227 rfl rfl rfl hR (Nat.le_refl _) h1 h2 h (fun v9 hp10 h => ?_)
  refine mjr_iload (x := l7) D_226_24 rfl ?_
  refine mjq_scL (As := [.long v9, .int l7]) (rest := []) D_226_26 mr_12_300 V_227 rfl rfl rfl hR (Nat.le_refl _) h1 h2 h (fun v11 hp12 h => ?_)
  refine mjq_lstore (lo' := [some (.ref l0), some (.int l1), some (.int l2), some (.int l3), some (.int l4), some (.int l5), some (.int l6), some (.int l7), some (.long v11), none]) D_226_29 (Nat.le_of_ble_eq_true rfl) rfl ?_
  refine mjr_aload_n (x := l0) D_226_31 rfl ?_
  refine mjq_gR D_226_32 fr_12_13 h (fun v13 h => ?_)
  refine mjr_iload_n (x := l1) D_226_35 rfl ?_
  refine mjr_lload (x := v11) D_226_36 rfl ?_
  refine mjq_sL D_226_38 h (fun hp14 h => ?_)
  exact mjq_nret D_226_39 rfl h1 h2 h
noncomputable def f_226 (R : mjR) (a0 : Nat) (a1 : Int32) (a2 : Int32) (a3 : Int32) (a4 : Int32) (a5 : Int32) (a6 : Int32) (a7 : Int32) (hp : mjH) : mjU := b_226_0 R a0 a1 a2 a3 a4 a5 a6 a7 hp
theorem c_226 {R : mjR} {d : Nat} (hR : mjC R d) {a0 : Nat} {a1 : Int32} {a2 : Int32} {a3 : Int32} {a4 : Int32} {a5 : Int32} {a6 : Int32} {a7 : Int32} {hp : mjH} {q : Option Value × mjH} (h : f_226 R a0 a1 a2 a3 a4 a5 a6 a7 hp = some q) : mjM (d + 1) 0 0 226 [.ref a0, .int a1, .int a2, .int a3, .int a4, .int a5, .int a6, .int a7] hp (mjEq q) :=
  mjM_of Ja_226 (Nat.le_of_ble_eq_true rfl) (mjG.fg (lo' := [some (.ref a0), some (.int a1), some (.int a2), some (.int a3), some (.int a4), some (.int a5), some (.int a6), some (.int a7), none, none]) (And.intro rfl (And.intro rfl (And.intro rfl (And.intro rfl (And.intro rfl (And.intro rfl (And.intro rfl (And.intro rfl True.intro)))))))) ((t_226_0 hR (Nat.le_refl 0) (Nat.le_refl 0)) a0 a1 a2 a3 a4 a5 a6 a7 hp q h))
def J_227 : mjI := (⟨"OwnerHeapModel", "longer", "(JI)J"⟩, 12, prog_14_method_3_code, 3, (some .long), 2, true)
theorem Ja_227 : mjMt 227 = some J_227 := by rfl
theorem D_227_0 : decode J_227.2.2.1 0 = .ok (.iload_n 2, 1) := by decide +kernel
theorem D_227_1 : decode J_227.2.2.1 1 = .ok (.invokestatic 294, 3) := by decide +kernel
theorem D_227_4 : decode J_227.2.2.1 4 = .ok (.ifCond .ne 7, 3) := by decide +kernel
theorem D_227_7 : decode J_227.2.2.1 7 = .ok (.lload_n 0, 1) := by decide +kernel
theorem D_227_8 : decode J_227.2.2.1 8 = .ok (.goto 14, 3) := by decide +kernel
theorem D_227_11 : decode J_227.2.2.1 11 = .ok (.ldc2_w 298, 3) := by decide +kernel
theorem D_227_14 : decode J_227.2.2.1 14 = .ok (.lload_n 0, 1) := by decide +kernel
theorem D_227_15 : decode J_227.2.2.1 15 = .ok (.lmul, 1) := by decide +kernel
theorem D_227_16 : decode J_227.2.2.1 16 = .ok (.iload_n 2, 1) := by decide +kernel
theorem D_227_17 : decode J_227.2.2.1 17 = .ok (.invokestatic 294, 3) := by decide +kernel
theorem D_227_20 : decode J_227.2.2.1 20 = .ok (.i2l, 1) := by decide +kernel
theorem D_227_21 : decode J_227.2.2.1 21 = .ok (.ladd, 1) := by decide +kernel
theorem D_227_22 : decode J_227.2.2.1 22 = .ok (.lreturn, 1) := by decide +kernel
def P_227_0 (X : mjX) (d C S kc ks : Nat) (k : Int64 → Int32 → mjH → mjU) : Prop := ∀ (l0 : Int64) (l2 : Int32) (hp : mjH) (q : Option Value × mjH), k l0 l2 hp = some q → mjG X d C S J_227 (mjEq q) 0 [some (.long l0), none, some (.int l2)] [] hp kc ks
noncomputable def b_227_0 (R : mjR) (l0 : Int64) (l2 : Int32) (hp : mjH) : mjU := bI (R 228 [.int l2] hp) (fun v1 hp2 => (if v1 = 0 then some (some (.long l0), hp2) else bI (R 228 [.int l2] hp2) (fun v3 hp4 => some (some (.long (((64 : Int64) * l0) + (v3).toInt64)), hp4))))
theorem t_227_0 {X : mjX} {d C S kc ks : Nat} {R : mjR} (hR : mjC R d) (h1 : kc ≤ C) (h2 : ks ≤ S) : P_227_0 X (d + 1) C S kc ks (b_227_0 R) := by
  intro l0 l2 hp q h
  unfold b_227_0 at h
  refine mjr_iload_n (x := l2) D_227_0 rfl ?_
  refine mjq_scI (As := [.int l2]) (rest := []) D_227_1 mr_12_294 V_228 rfl rfl rfl hR (Nat.le_refl _) h1 h2 h (fun v1 hp2 h => ?_)
  refine mjq_if_ne (tgt := 11) D_227_4 rfl h (fun h => ?_) (fun h => ?_)
  · refine mjr_ldc2 (v := (64 : Int64)) D_227_11 (by decide +kernel) ?_
    refine mjr_lload_n (x := l0) D_227_14 rfl ?_
    refine mjr_lmul D_227_15 ?_
    refine mjr_iload_n (x := l2) D_227_16 rfl ?_
    refine mjq_scI (As := [.int l2]) (rest := [.long ((64 : Int64) * l0)]) D_227_17 mr_12_294 V_228 rfl rfl rfl hR (Nat.le_refl _) h1 h2 h (fun v3 hp4 h => ?_)
    refine mjr_i2l D_227_20 ?_
    refine mjr_ladd D_227_21 ?_
    exact mjq_lret D_227_22 rfl h1 h2 h
  · refine mjr_lload_n (x := l0) D_227_7 rfl ?_
    refine mjr_goto (tgt := 22) D_227_8 rfl ?_
    exact mjq_lret D_227_22 rfl h1 h2 h
noncomputable def f_227 (R : mjR) (a0 : Int64) (a1 : Int32) (hp : mjH) : mjU := b_227_0 R a0 a1 hp
theorem c_227 {R : mjR} {d : Nat} (hR : mjC R d) {a0 : Int64} {a1 : Int32} {hp : mjH} {q : Option Value × mjH} (h : f_227 R a0 a1 hp = some q) : mjM (d + 1) 0 0 227 [.long a0, .int a1] hp (mjEq q) :=
  mjM_of Ja_227 (Nat.le_of_ble_eq_true rfl) (mjG.fg (lo' := [some (.long a0), none, some (.int a1)]) (And.intro rfl (And.intro rfl True.intro)) ((t_227_0 hR (Nat.le_refl 0) (Nat.le_refl 0)) a0 a1 hp q h))
def J_228 : mjI := (⟨"OwnerHeapModel", "code", "(I)I"⟩, 12, prog_14_method_2_code, 1, (some .int), 1, true)
theorem Ja_228 : mjMt 228 = some J_228 := by rfl
theorem D_228_0 : decode J_228.2.2.1 0 = .ok (.iload_n 0, 1) := by decide +kernel
theorem D_228_1 : decode J_228.2.2.1 1 = .ok (.bipush 97, 2) := by decide +kernel
theorem D_228_3 : decode J_228.2.2.1 3 = .ok (.if_icmp .lt 18, 3) := by decide +kernel
theorem D_228_6 : decode J_228.2.2.1 6 = .ok (.iload_n 0, 1) := by decide +kernel
theorem D_228_7 : decode J_228.2.2.1 7 = .ok (.bipush 122, 2) := by decide +kernel
theorem D_228_9 : decode J_228.2.2.1 9 = .ok (.if_icmp .gt 12, 3) := by decide +kernel
theorem D_228_12 : decode J_228.2.2.1 12 = .ok (.iload_n 0, 1) := by decide +kernel
theorem D_228_13 : decode J_228.2.2.1 13 = .ok (.bipush 97, 2) := by decide +kernel
theorem D_228_15 : decode J_228.2.2.1 15 = .ok (.isub, 1) := by decide +kernel
theorem D_228_16 : decode J_228.2.2.1 16 = .ok (.iconst 1, 1) := by decide +kernel
theorem D_228_17 : decode J_228.2.2.1 17 = .ok (.iadd, 1) := by decide +kernel
theorem D_228_18 : decode J_228.2.2.1 18 = .ok (.goto 48, 3) := by decide +kernel
theorem D_228_21 : decode J_228.2.2.1 21 = .ok (.iload_n 0, 1) := by decide +kernel
theorem D_228_22 : decode J_228.2.2.1 22 = .ok (.bipush 65, 2) := by decide +kernel
theorem D_228_24 : decode J_228.2.2.1 24 = .ok (.if_icmp .lt 19, 3) := by decide +kernel
theorem D_228_27 : decode J_228.2.2.1 27 = .ok (.iload_n 0, 1) := by decide +kernel
theorem D_228_28 : decode J_228.2.2.1 28 = .ok (.bipush 90, 2) := by decide +kernel
theorem D_228_30 : decode J_228.2.2.1 30 = .ok (.if_icmp .gt 13, 3) := by decide +kernel
theorem D_228_33 : decode J_228.2.2.1 33 = .ok (.iload_n 0, 1) := by decide +kernel
theorem D_228_34 : decode J_228.2.2.1 34 = .ok (.bipush 65, 2) := by decide +kernel
theorem D_228_36 : decode J_228.2.2.1 36 = .ok (.isub, 1) := by decide +kernel
theorem D_228_37 : decode J_228.2.2.1 37 = .ok (.bipush 27, 2) := by decide +kernel
theorem D_228_39 : decode J_228.2.2.1 39 = .ok (.iadd, 1) := by decide +kernel
theorem D_228_40 : decode J_228.2.2.1 40 = .ok (.goto 26, 3) := by decide +kernel
theorem D_228_43 : decode J_228.2.2.1 43 = .ok (.iload_n 0, 1) := by decide +kernel
theorem D_228_44 : decode J_228.2.2.1 44 = .ok (.bipush 48, 2) := by decide +kernel
theorem D_228_46 : decode J_228.2.2.1 46 = .ok (.if_icmp .lt 19, 3) := by decide +kernel
theorem D_228_49 : decode J_228.2.2.1 49 = .ok (.iload_n 0, 1) := by decide +kernel
theorem D_228_50 : decode J_228.2.2.1 50 = .ok (.bipush 57, 2) := by decide +kernel
theorem D_228_52 : decode J_228.2.2.1 52 = .ok (.if_icmp .gt 13, 3) := by decide +kernel
theorem D_228_55 : decode J_228.2.2.1 55 = .ok (.iload_n 0, 1) := by decide +kernel
theorem D_228_56 : decode J_228.2.2.1 56 = .ok (.bipush 48, 2) := by decide +kernel
theorem D_228_58 : decode J_228.2.2.1 58 = .ok (.isub, 1) := by decide +kernel
theorem D_228_59 : decode J_228.2.2.1 59 = .ok (.bipush 53, 2) := by decide +kernel
theorem D_228_61 : decode J_228.2.2.1 61 = .ok (.iadd, 1) := by decide +kernel
theorem D_228_62 : decode J_228.2.2.1 62 = .ok (.goto 4, 3) := by decide +kernel
theorem D_228_65 : decode J_228.2.2.1 65 = .ok (.iconst 0, 1) := by decide +kernel
theorem D_228_66 : decode J_228.2.2.1 66 = .ok (.ireturn, 1) := by decide +kernel
def P_228_65 (X : mjX) (d C S kc ks : Nat) (k : mjH → mjU) : Prop := ∀  (hp : mjH) (q : Option Value × mjH), k  hp = some q → mjG X d C S J_228 (mjEq q) 65 [none] [] hp kc ks
def P_228_43 (X : mjX) (d C S kc ks : Nat) (k : Int32 → mjH → mjU) : Prop := ∀ (l0 : Int32) (hp : mjH) (q : Option Value × mjH), k l0 hp = some q → mjG X d C S J_228 (mjEq q) 43 [some (.int l0)] [] hp kc ks
def P_228_21 (X : mjX) (d C S kc ks : Nat) (k : Int32 → mjH → mjU) : Prop := ∀ (l0 : Int32) (hp : mjH) (q : Option Value × mjH), k l0 hp = some q → mjG X d C S J_228 (mjEq q) 21 [some (.int l0)] [] hp kc ks
def P_228_0 (X : mjX) (d C S kc ks : Nat) (k : Int32 → mjH → mjU) : Prop := ∀ (l0 : Int32) (hp : mjH) (q : Option Value × mjH), k l0 hp = some q → mjG X d C S J_228 (mjEq q) 0 [some (.int l0)] [] hp kc ks
noncomputable def b_228_65 (R : mjR)  (hp : mjH) : mjU := some (some (.int (0 : Int32)), hp)
theorem t_228_65 {X : mjX} {d C S kc ks : Nat} {R : mjR} (hR : mjC R d) (h1 : kc ≤ C) (h2 : ks ≤ S) : P_228_65 X (d + 1) C S kc ks (b_228_65 R) := by
  intro  hp q h
  unfold b_228_65 at h
  refine mjq_ic (v := (0 : Int32)) D_228_65 rfl ?_
  exact mjq_ret D_228_66 rfl h1 h2 h
noncomputable def b_228_43 (R : mjR) (l0 : Int32) (hp : mjH) : mjU := (if l0 < (48 : Int32) then b_228_65 R hp else (if (57 : Int32) < l0 then b_228_65 R hp else some (some (.int ((l0 - (48 : Int32)) + (53 : Int32))), hp)))
theorem t_228_43 {X : mjX} {d C S kc ks : Nat} {R : mjR} (hR : mjC R d) (h1 : kc ≤ C) (h2 : ks ≤ S) : P_228_43 X (d + 1) C S kc ks (b_228_43 R) := by
  intro l0 hp q h
  unfold b_228_43 at h
  refine mjr_iload_n (x := l0) D_228_43 rfl ?_
  refine mjq_bi (v := (48 : Int32)) D_228_44 rfl ?_
  refine mjq_icmp_lt (tgt := 65) D_228_46 rfl h (fun h => ?_) (fun h => ?_)
  · exact mjG.fg (lo' := [none]) True.intro ((t_228_65 hR h1 h2) _ _ h)
  · refine mjr_iload_n (x := l0) D_228_49 rfl ?_
    refine mjq_bi (v := (57 : Int32)) D_228_50 rfl ?_
    refine mjq_icmp_gt (tgt := 65) D_228_52 rfl h (fun h => ?_) (fun h => ?_)
    · exact mjG.fg (lo' := [none]) True.intro ((t_228_65 hR h1 h2) _ _ h)
    · refine mjr_iload_n (x := l0) D_228_55 rfl ?_
      refine mjq_bi (v := (48 : Int32)) D_228_56 rfl ?_
      refine mjr_isub D_228_58 ?_
      refine mjq_bi (v := (53 : Int32)) D_228_59 rfl ?_
      refine mjr_iadd D_228_61 ?_
      refine mjr_goto (tgt := 66) D_228_62 rfl ?_
      exact mjq_ret D_228_66 rfl h1 h2 h
noncomputable def b_228_21 (R : mjR) (l0 : Int32) (hp : mjH) : mjU := (if l0 < (65 : Int32) then b_228_43 R l0 hp else (if (90 : Int32) < l0 then b_228_43 R l0 hp else some (some (.int ((l0 - (65 : Int32)) + (27 : Int32))), hp)))
theorem t_228_21 {X : mjX} {d C S kc ks : Nat} {R : mjR} (hR : mjC R d) (h1 : kc ≤ C) (h2 : ks ≤ S) : P_228_21 X (d + 1) C S kc ks (b_228_21 R) := by
  intro l0 hp q h
  unfold b_228_21 at h
  refine mjr_iload_n (x := l0) D_228_21 rfl ?_
  refine mjq_bi (v := (65 : Int32)) D_228_22 rfl ?_
  refine mjq_icmp_lt (tgt := 43) D_228_24 rfl h (fun h => ?_) (fun h => ?_)
  · exact (t_228_43 hR h1 h2) _ _ _ h
  · refine mjr_iload_n (x := l0) D_228_27 rfl ?_
    refine mjq_bi (v := (90 : Int32)) D_228_28 rfl ?_
    refine mjq_icmp_gt (tgt := 43) D_228_30 rfl h (fun h => ?_) (fun h => ?_)
    · exact (t_228_43 hR h1 h2) _ _ _ h
    · refine mjr_iload_n (x := l0) D_228_33 rfl ?_
      refine mjq_bi (v := (65 : Int32)) D_228_34 rfl ?_
      refine mjr_isub D_228_36 ?_
      refine mjq_bi (v := (27 : Int32)) D_228_37 rfl ?_
      refine mjr_iadd D_228_39 ?_
      refine mjr_goto (tgt := 66) D_228_40 rfl ?_
      exact mjq_ret D_228_66 rfl h1 h2 h
noncomputable def b_228_0 (R : mjR) (l0 : Int32) (hp : mjH) : mjU := (if l0 < (97 : Int32) then b_228_21 R l0 hp else (if (122 : Int32) < l0 then b_228_21 R l0 hp else some (some (.int ((l0 - (97 : Int32)) + (1 : Int32))), hp)))
theorem t_228_0 {X : mjX} {d C S kc ks : Nat} {R : mjR} (hR : mjC R d) (h1 : kc ≤ C) (h2 : ks ≤ S) : P_228_0 X (d + 1) C S kc ks (b_228_0 R) := by
  intro l0 hp q h
  unfold b_228_0 at h
  refine mjr_iload_n (x := l0) D_228_0 rfl ?_
  refine mjq_bi (v := (97 : Int32)) D_228_1 rfl ?_
  refine mjq_icmp_lt (tgt := 21) D_228_3 rfl h (fun h => ?_) (fun h => ?_)
  · exact (t_228_21 hR h1 h2) _ _ _ h
  · refine mjr_iload_n (x := l0) D_228_6 rfl ?_
    refine mjq_bi (v := (122 : Int32)) D_228_7 rfl ?_
    refine mjq_icmp_gt (tgt := 21) D_228_9 rfl h (fun h => ?_) (fun h => ?_)
    · exact (t_228_21 hR h1 h2) _ _ _ h
    · refine mjr_iload_n (x := l0) D_228_12 rfl ?_
      refine mjq_bi (v := (97 : Int32)) D_228_13 rfl ?_
      refine mjr_isub D_228_15 ?_
      refine mjq_ic (v := (1 : Int32)) D_228_16 rfl ?_
      refine mjr_iadd D_228_17 ?_
      refine mjr_goto (tgt := 66) D_228_18 rfl ?_
      exact mjq_ret D_228_66 rfl h1 h2 h
noncomputable def f_228 (R : mjR) (a0 : Int32) (hp : mjH) : mjU := b_228_0 R a0 hp
theorem c_228 {R : mjR} {d : Nat} (hR : mjC R d) {a0 : Int32} {hp : mjH} {q : Option Value × mjH} (h : f_228 R a0 hp = some q) : mjM (d + 1) 0 0 228 [.int a0] hp (mjEq q) :=
  mjM_of Ja_228 (Nat.le_of_ble_eq_true rfl) (mjG.fg (lo' := [some (.int a0)]) (And.intro rfl True.intro) ((t_228_0 hR (Nat.le_refl 0) (Nat.le_refl 0)) a0 hp q h))
def J_229 : mjI := (⟨"OwnerHeapModel", "run", "(I)I"⟩, 12, prog_14_method_88_code, 5, (some .int), 1, false)
theorem Ja_229 : mjMt 229 = some J_229 := by rfl
theorem D_229_0 : decode J_229.2.2.1 0 = .ok (.aload_n 0, 1) := by decide +kernel
theorem D_229_1 : decode J_229.2.2.1 1 = .ok (.getfield 636, 3) := by decide +kernel
theorem D_229_4 : decode J_229.2.2.1 4 = .ok (.iconst 1, 1) := by decide +kernel
theorem D_229_5 : decode J_229.2.2.1 5 = .ok (.if_icmp .ne 15, 3) := by decide +kernel
theorem D_229_8 : decode J_229.2.2.1 8 = .ok (.iload_n 1, 1) := by decide +kernel
theorem D_229_9 : decode J_229.2.2.1 9 = .ok (.iconst 1, 1) := by decide +kernel
theorem D_229_10 : decode J_229.2.2.1 10 = .ok (.if_icmp .lt 10, 3) := by decide +kernel
theorem D_229_13 : decode J_229.2.2.1 13 = .ok (.iload_n 1, 1) := by decide +kernel
theorem D_229_14 : decode J_229.2.2.1 14 = .ok (.sipush 2000, 3) := by decide +kernel
theorem D_229_17 : decode J_229.2.2.1 17 = .ok (.if_icmp .le 5, 3) := by decide +kernel
theorem D_229_20 : decode J_229.2.2.1 20 = .ok (.iconst (-1), 1) := by decide +kernel
theorem D_229_21 : decode J_229.2.2.1 21 = .ok (.ireturn, 1) := by decide +kernel
theorem D_229_22 : decode J_229.2.2.1 22 = .ok (.iload_n 1, 1) := by decide +kernel
theorem D_229_23 : decode J_229.2.2.1 23 = .ok (.istore_n 2, 1) := by decide +kernel
theorem D_229_24 : decode J_229.2.2.1 24 = .ok (.aload_n 0, 1) := by decide +kernel
theorem D_229_25 : decode J_229.2.2.1 25 = .ok (.iconst 0, 1) := by decide +kernel
theorem D_229_26 : decode J_229.2.2.1 26 = .ok (.putfield 645, 3) := by decide +kernel
theorem D_229_29 : decode J_229.2.2.1 29 = .ok (.iconst 1, 1) := by decide +kernel
theorem D_229_30 : decode J_229.2.2.1 30 = .ok (.istore_n 3, 1) := by decide +kernel
theorem D_229_31 : decode J_229.2.2.1 31 = .ok (.iload_n 3, 1) := by decide +kernel
theorem D_229_32 : decode J_229.2.2.1 32 = .ok (.ifCond .eq 94, 3) := by decide +kernel
theorem D_229_35 : decode J_229.2.2.1 35 = .ok (.sipush 5000, 3) := by decide +kernel
theorem D_229_38 : decode J_229.2.2.1 38 = .ok (.aload_n 0, 1) := by decide +kernel
theorem D_229_39 : decode J_229.2.2.1 39 = .ok (.getfield 648, 3) := by decide +kernel
theorem D_229_42 : decode J_229.2.2.1 42 = .ok (.imul, 1) := by decide +kernel
theorem D_229_43 : decode J_229.2.2.1 43 = .ok (.aload_n 0, 1) := by decide +kernel
theorem D_229_44 : decode J_229.2.2.1 44 = .ok (.getfield 651, 3) := by decide +kernel
theorem D_229_47 : decode J_229.2.2.1 47 = .ok (.iadd, 1) := by decide +kernel
theorem D_229_48 : decode J_229.2.2.1 48 = .ok (.istore 4, 2) := by decide +kernel
theorem D_229_50 : decode J_229.2.2.1 50 = .ok (.aload_n 0, 1) := by decide +kernel
theorem D_229_51 : decode J_229.2.2.1 51 = .ok (.getfield 148, 3) := by decide +kernel
theorem D_229_54 : decode J_229.2.2.1 54 = .ok (.iload 4, 2) := by decide +kernel
theorem D_229_56 : decode J_229.2.2.1 56 = .ok (.iaload, 1) := by decide +kernel
theorem D_229_57 : decode J_229.2.2.1 57 = .ok (.invokestatic 654, 3) := by decide +kernel
theorem D_229_60 : decode J_229.2.2.1 60 = .ok (.ifCond .eq 33, 3) := by decide +kernel
theorem D_229_63 : decode J_229.2.2.1 63 = .ok (.iload_n 2, 1) := by decide +kernel
theorem D_229_64 : decode J_229.2.2.1 64 = .ok (.ifCond .le 7, 3) := by decide +kernel
theorem D_229_67 : decode J_229.2.2.1 67 = .ok (.iconst 1, 1) := by decide +kernel
theorem D_229_68 : decode J_229.2.2.1 68 = .ok (.goto 4, 3) := by decide +kernel
theorem D_229_71 : decode J_229.2.2.1 71 = .ok (.iconst 0, 1) := by decide +kernel
theorem D_229_72 : decode J_229.2.2.1 72 = .ok (.istore_n 3, 1) := by decide +kernel
theorem D_229_73 : decode J_229.2.2.1 73 = .ok (.iload_n 3, 1) := by decide +kernel
theorem D_229_74 : decode J_229.2.2.1 74 = .ok (.ifCond .ne 6, 3) := by decide +kernel
theorem D_229_77 : decode J_229.2.2.1 77 = .ok (.goto (-46), 3) := by decide +kernel
theorem D_229_80 : decode J_229.2.2.1 80 = .ok (.iinc 2 (-1), 3) := by decide +kernel
theorem D_229_83 : decode J_229.2.2.1 83 = .ok (.aload_n 0, 1) := by decide +kernel
theorem D_229_84 : decode J_229.2.2.1 84 = .ok (.dup, 1) := by decide +kernel
theorem D_229_85 : decode J_229.2.2.1 85 = .ok (.getfield 657, 3) := by decide +kernel
theorem D_229_88 : decode J_229.2.2.1 88 = .ok (.iconst 1, 1) := by decide +kernel
theorem D_229_89 : decode J_229.2.2.1 89 = .ok (.iadd, 1) := by decide +kernel
theorem D_229_90 : decode J_229.2.2.1 90 = .ok (.putfield 657, 3) := by decide +kernel
theorem D_229_93 : decode J_229.2.2.1 93 = .ok (.aload_n 0, 1) := by decide +kernel
theorem D_229_94 : decode J_229.2.2.1 94 = .ok (.dup, 1) := by decide +kernel
theorem D_229_95 : decode J_229.2.2.1 95 = .ok (.getfield 651, 3) := by decide +kernel
theorem D_229_98 : decode J_229.2.2.1 98 = .ok (.iconst 1, 1) := by decide +kernel
theorem D_229_99 : decode J_229.2.2.1 99 = .ok (.iadd, 1) := by decide +kernel
theorem D_229_100 : decode J_229.2.2.1 100 = .ok (.putfield 651, 3) := by decide +kernel
theorem D_229_103 : decode J_229.2.2.1 103 = .ok (.aload_n 0, 1) := by decide +kernel
theorem D_229_104 : decode J_229.2.2.1 104 = .ok (.iload 4, 2) := by decide +kernel
theorem D_229_106 : decode J_229.2.2.1 106 = .ok (.invokevirtual 660, 3) := by decide +kernel
theorem D_229_109 : decode J_229.2.2.1 109 = .ok (.aload_n 0, 1) := by decide +kernel
theorem D_229_110 : decode J_229.2.2.1 110 = .ok (.getfield 636, 3) := by decide +kernel
theorem D_229_113 : decode J_229.2.2.1 113 = .ok (.iconst 1, 1) := by decide +kernel
theorem D_229_114 : decode J_229.2.2.1 114 = .ok (.if_icmp .ne 7, 3) := by decide +kernel
theorem D_229_117 : decode J_229.2.2.1 117 = .ok (.iconst 1, 1) := by decide +kernel
theorem D_229_118 : decode J_229.2.2.1 118 = .ok (.goto 4, 3) := by decide +kernel
theorem D_229_121 : decode J_229.2.2.1 121 = .ok (.iconst 0, 1) := by decide +kernel
theorem D_229_122 : decode J_229.2.2.1 122 = .ok (.istore_n 3, 1) := by decide +kernel
theorem D_229_123 : decode J_229.2.2.1 123 = .ok (.goto (-92), 3) := by decide +kernel
theorem D_229_126 : decode J_229.2.2.1 126 = .ok (.aload_n 0, 1) := by decide +kernel
theorem D_229_127 : decode J_229.2.2.1 127 = .ok (.getfield 636, 3) := by decide +kernel
theorem D_229_130 : decode J_229.2.2.1 130 = .ok (.ireturn, 1) := by decide +kernel
def P_229_20 (X : mjX) (d C S kc ks : Nat) (k : mjH → mjU) : Prop := ∀  (hp : mjH) (q : Option Value × mjH), k  hp = some q → mjG X d C S J_229 (mjEq q) 20 [none, none, none, none, none] [] hp kc ks
def P_229_122 (X : mjX) (d C S kc ks : Nat) (k : Nat → Int32 → Int32 → mjH → mjU) : Prop := ∀ (l0 : Nat) (l2 : Int32) (s0 : Int32) (hp : mjH) (q : Option Value × mjH), k l0 l2 s0 hp = some q → mjG X d C S J_229 (mjEq q) 122 [some (.ref l0), none, some (.int l2), none, none] [.int s0] hp kc ks
def P_229_93 (X : mjX) (d C S kc ks : Nat) (k : Nat → Int32 → Int32 → mjH → mjU) : Prop := ∀ (l0 : Nat) (l2 : Int32) (l4 : Int32) (hp : mjH) (q : Option Value × mjH), k l0 l2 l4 hp = some q → mjG X d C S J_229 (mjEq q) 93 [some (.ref l0), none, some (.int l2), none, some (.int l4)] [] hp kc ks
def P_229_72 (X : mjX) (d C S kc ks : Nat) (k : Nat → Int32 → Int32 → Int32 → mjH → mjU) : Prop := ∀ (l0 : Nat) (l2 : Int32) (l4 : Int32) (s0 : Int32) (hp : mjH) (q : Option Value × mjH), k l0 l2 l4 s0 hp = some q → mjG X d C S J_229 (mjEq q) 72 [some (.ref l0), none, some (.int l2), none, some (.int l4)] [.int s0] hp kc ks
def P_229_31 (X : mjX) (d C S kc ks : Nat) (k : Nat → Int32 → Int32 → mjH → mjU) : Prop := ∀ (l0 : Nat) (l2 : Int32) (l3 : Int32) (hp : mjH) (q : Option Value × mjH), k l0 l2 l3 hp = some q → mjG X d C S J_229 (mjEq q) 31 [some (.ref l0), none, some (.int l2), some (.int l3), none] [] hp kc ks
def P_229_0 (X : mjX) (d C S kc ks : Nat) (k : Nat → Int32 → mjH → mjU) : Prop := ∀ (l0 : Nat) (l1 : Int32) (hp : mjH) (q : Option Value × mjH), k l0 l1 hp = some q → mjG X d C S J_229 (mjEq q) 0 [some (.ref l0), some (.int l1), none, none, none] [] hp kc ks
noncomputable def b_229_20 (R : mjR)  (hp : mjH) : mjU := some (some (.int (-1 : Int32)), hp)
theorem t_229_20 {X : mjX} {d C S kc ks : Nat} {R : mjR} (hR : mjC R d) (h1 : kc ≤ C) (h2 : ks ≤ S) : P_229_20 X (d + 1) C S kc ks (b_229_20 R) := by
  intro  hp q h
  unfold b_229_20 at h
  refine mjq_ic (v := (-1 : Int32)) D_229_20 rfl ?_
  exact mjq_ret D_229_21 rfl h1 h2 h
noncomputable def b_229_122 (R : mjR) (k31 : Nat → Int32 → Int32 → mjH → mjU) (l0 : Nat) (l2 : Int32) (s0 : Int32) (hp : mjH) : mjU := k31 l0 l2 s0 hp
theorem t_229_122 {X : mjX} {d C S kc ks : Nat} {R : mjR} (hR : mjC R d) (h1 : kc ≤ C) (h2 : ks ≤ S) {k31 : Nat → Int32 → Int32 → mjH → mjU} (hk31 : P_229_31 X (d + 1) C S kc ks k31) : P_229_122 X (d + 1) C S kc ks (b_229_122 R k31) := by
  intro l0 l2 s0 hp q h
  unfold b_229_122 at h
  refine mjq_istore_n (lo' := [some (.ref l0), none, some (.int l2), some (.int s0), none]) D_229_122 (Nat.le_of_ble_eq_true rfl) rfl ?_
  refine mjr_goto (tgt := 31) D_229_123 rfl ?_
  exact hk31 _ _ _ _ _ h
noncomputable def b_229_93 (R : mjR) (k31 : Nat → Int32 → Int32 → mjH → mjU) (l0 : Nat) (l2 : Int32) (l4 : Int32) (hp : mjH) : mjU := gI hp l0 12 119 (fun v1 => pI hp l0 12 119 (v1 + (1 : Int32)) (fun hp2 => rV hp2 l0 12 (bN (R 231 [.ref l0, .int l4] hp2) (fun  hp3 => gI hp3 l0 12 96 (fun v4 => (if v4 = (1 : Int32) then b_229_122 R k31 l0 l2 (1 : Int32) hp3 else b_229_122 R k31 l0 l2 (0 : Int32) hp3))))))
theorem t_229_93 {X : mjX} {d C S kc ks : Nat} {R : mjR} (hR : mjC R d) (h1 : kc ≤ C) (h2 : ks ≤ S) {k31 : Nat → Int32 → Int32 → mjH → mjU} (hk31 : P_229_31 X (d + 1) C S kc ks k31) : P_229_93 X (d + 1) C S kc ks (b_229_93 R k31) := by
  intro l0 l2 l4 hp q h
  unfold b_229_93 at h
  refine mjr_aload_n (x := l0) D_229_93 rfl ?_
  refine mjr_dup D_229_94 rfl ?_
  refine mjq_gI D_229_95 fr_12_651 h (fun v1 h => ?_)
  refine mjq_ic (v := (1 : Int32)) D_229_98 rfl ?_
  refine mjr_iadd D_229_99 ?_
  refine mjq_pI D_229_100 fr_12_651 rfl rfl h (fun hp2 h => ?_)
  refine mjr_aload_n (x := l0) D_229_103 rfl ?_
  refine mjr_iload (x := l4) D_229_104 rfl ?_
  refine mjq_vN (As := [.int l4]) (rest := []) D_229_106 mr_12_660 V_231 rfl rfl rfl hR (Nat.le_refl _) h1 h2 h (fun  hp3 h => ?_)
  refine mjr_aload_n (x := l0) D_229_109 rfl ?_
  refine mjq_gI D_229_110 fr_12_636 h (fun v4 h => ?_)
  refine mjq_ic (v := (1 : Int32)) D_229_113 rfl ?_
  refine mjq_icmp_ne (tgt := 121) D_229_114 rfl h (fun h => ?_) (fun h => ?_)
  · refine mjq_ic (v := (0 : Int32)) D_229_121 rfl ?_
    exact mjG.fg (lo' := [some (.ref l0), none, some (.int l2), none, none]) (And.intro rfl (And.intro rfl True.intro)) ((t_229_122 hR h1 h2 hk31) _ _ _ _ _ h)
  · refine mjq_ic (v := (1 : Int32)) D_229_117 rfl ?_
    refine mjr_goto (tgt := 122) D_229_118 rfl ?_
    exact mjG.fg (lo' := [some (.ref l0), none, some (.int l2), none, none]) (And.intro rfl (And.intro rfl True.intro)) ((t_229_122 hR h1 h2 hk31) _ _ _ _ _ h)
noncomputable def b_229_72 (R : mjR) (k31 : Nat → Int32 → Int32 → mjH → mjU) (l0 : Nat) (l2 : Int32) (l4 : Int32) (s0 : Int32) (hp : mjH) : mjU := (if s0 = 0 then k31 l0 l2 s0 hp else gI hp l0 12 100 (fun v1 => pI hp l0 12 100 (v1 + (1 : Int32)) (fun hp2 => b_229_93 R k31 l0 (l2 + (-1 : Int32)) l4 hp2)))
theorem t_229_72 {X : mjX} {d C S kc ks : Nat} {R : mjR} (hR : mjC R d) (h1 : kc ≤ C) (h2 : ks ≤ S) {k31 : Nat → Int32 → Int32 → mjH → mjU} (hk31 : P_229_31 X (d + 1) C S kc ks k31) : P_229_72 X (d + 1) C S kc ks (b_229_72 R k31) := by
  intro l0 l2 l4 s0 hp q h
  unfold b_229_72 at h
  refine mjq_istore_n (lo' := [some (.ref l0), none, some (.int l2), some (.int s0), some (.int l4)]) D_229_72 (Nat.le_of_ble_eq_true rfl) rfl ?_
  refine mjr_iload_n (x := s0) D_229_73 rfl ?_
  refine mjq_if_ne (tgt := 80) D_229_74 rfl h (fun h => ?_) (fun h => ?_)
  · refine mjq_iinc (x := l2) (c := (-1 : Int32)) (lo' := [some (.ref l0), none, some (.int (l2 + (-1 : Int32))), some (.int s0), some (.int l4)]) D_229_80 rfl (Nat.le_of_ble_eq_true rfl) rfl rfl ?_
    refine mjr_aload_n (x := l0) D_229_83 rfl ?_
    refine mjr_dup D_229_84 rfl ?_
    refine mjq_gI D_229_85 fr_12_657 h (fun v1 h => ?_)
    refine mjq_ic (v := (1 : Int32)) D_229_88 rfl ?_
    refine mjr_iadd D_229_89 ?_
    refine mjq_pI D_229_90 fr_12_657 rfl rfl h (fun hp2 h => ?_)
    exact mjG.fg (lo' := [some (.ref l0), none, some (.int (l2 + (-1 : Int32))), none, some (.int l4)]) (And.intro rfl (And.intro rfl (And.intro rfl True.intro))) ((t_229_93 hR h1 h2 hk31) _ _ _ _ _ h)
  · refine mjr_goto (tgt := 31) D_229_77 rfl ?_
    exact mjG.fg (lo' := [some (.ref l0), none, some (.int l2), some (.int s0), none]) (And.intro rfl (And.intro rfl (And.intro rfl True.intro))) (hk31 _ _ _ _ _ h)
noncomputable def b_229_31 (R : mjR) (k31 : Nat → Int32 → Int32 → mjH → mjU) (l0 : Nat) (l2 : Int32) (l3 : Int32) (hp : mjH) : mjU := (if l3 = 0 then gI hp l0 12 96 (fun v1 => some (some (.int v1), hp)) else gI hp l0 12 9 (fun v2 => gI hp l0 12 119 (fun v3 => gR hp l0 12 54 (fun v4 => aI hp v4 (((5000 : Int32) * v2) + v3) (fun v5 => bI (R 230 [.int v5] hp) (fun v6 hp7 => (if v6 = 0 then b_229_93 R k31 l0 l2 (((5000 : Int32) * v2) + v3) hp7 else (if l2 ≤ 0 then b_229_72 R k31 l0 l2 (((5000 : Int32) * v2) + v3) (0 : Int32) hp7 else b_229_72 R k31 l0 l2 (((5000 : Int32) * v2) + v3) (1 : Int32) hp7))))))))
theorem t_229_31 {X : mjX} {d C S kc ks : Nat} {R : mjR} (hR : mjC R d) (h1 : kc ≤ C) (h2 : ks ≤ S) {k31 : Nat → Int32 → Int32 → mjH → mjU} (hk31 : P_229_31 X (d + 1) C S kc ks k31) : P_229_31 X (d + 1) C S kc ks (b_229_31 R k31) := by
  intro l0 l2 l3 hp q h
  unfold b_229_31 at h
  refine mjr_iload_n (x := l3) D_229_31 rfl ?_
  refine mjq_if_eq (tgt := 126) D_229_32 rfl h (fun h => ?_) (fun h => ?_)
  · refine mjr_aload_n (x := l0) D_229_126 rfl ?_
    refine mjq_gI D_229_127 fr_12_636 h (fun v1 h => ?_)
    exact mjq_ret D_229_130 rfl h1 h2 h
  · refine mjq_si (v := (5000 : Int32)) D_229_35 rfl ?_
    refine mjr_aload_n (x := l0) D_229_38 rfl ?_
    refine mjq_gI D_229_39 fr_12_648 h (fun v2 h => ?_)
    refine mjr_imul D_229_42 ?_
    refine mjr_aload_n (x := l0) D_229_43 rfl ?_
    refine mjq_gI D_229_44 fr_12_651 h (fun v3 h => ?_)
    refine mjr_iadd D_229_47 ?_
    refine mjq_istore (lo' := [some (.ref l0), none, some (.int l2), some (.int l3), some (.int (((5000 : Int32) * v2) + v3))]) D_229_48 (Nat.le_of_ble_eq_true rfl) rfl ?_
    refine mjr_aload_n (x := l0) D_229_50 rfl ?_
    refine mjq_gR D_229_51 fr_12_148 h (fun v4 h => ?_)
    refine mjr_iload (x := (((5000 : Int32) * v2) + v3)) D_229_54 rfl ?_
    refine mjq_aI D_229_56 h (fun v5 h => ?_)
    refine mjq_scI (As := [.int v5]) (rest := []) D_229_57 mr_12_654 V_230 rfl rfl rfl hR (Nat.le_refl _) h1 h2 h (fun v6 hp7 h => ?_)
    refine mjq_if_eq (tgt := 93) D_229_60 rfl h (fun h => ?_) (fun h => ?_)
    · exact mjG.fg (lo' := [some (.ref l0), none, some (.int l2), none, some (.int (((5000 : Int32) * v2) + v3))]) (And.intro rfl (And.intro rfl (And.intro rfl True.intro))) ((t_229_93 hR h1 h2 hk31) _ _ _ _ _ h)
    · refine mjr_iload_n (x := l2) D_229_63 rfl ?_
      refine mjq_if_le (tgt := 71) D_229_64 rfl h (fun h => ?_) (fun h => ?_)
      · refine mjq_ic (v := (0 : Int32)) D_229_71 rfl ?_
        exact mjG.fg (lo' := [some (.ref l0), none, some (.int l2), none, some (.int (((5000 : Int32) * v2) + v3))]) (And.intro rfl (And.intro rfl (And.intro rfl True.intro))) ((t_229_72 hR h1 h2 hk31) _ _ _ _ _ _ h)
      · refine mjq_ic (v := (1 : Int32)) D_229_67 rfl ?_
        refine mjr_goto (tgt := 72) D_229_68 rfl ?_
        exact mjG.fg (lo' := [some (.ref l0), none, some (.int l2), none, some (.int (((5000 : Int32) * v2) + v3))]) (And.intro rfl (And.intro rfl (And.intro rfl True.intro))) ((t_229_72 hR h1 h2 hk31) _ _ _ _ _ _ h)
noncomputable def L_229_31 (R : mjR) (n : Nat) : Nat → Int32 → Int32 → mjH → mjU := Nat.rec (motive := fun _ => Nat → Int32 → Int32 → mjH → mjU) (fun _ _ _ _ => none) (fun _ self => b_229_31 R self) n
theorem T_229_31 {X : mjX} {d C S kc ks : Nat} {R : mjR} (hR : mjC R d) (h1 : kc ≤ C) (h2 : ks ≤ S) (n : Nat) : P_229_31 X (d + 1) C S kc ks (L_229_31 R n) := by
  induction n with
  | zero => intro _ _ _ _ _ h; exact mj_no h
  | succ n ih => exact t_229_31 hR h1 h2 ih
noncomputable def b_229_0 (R : mjR) (l0 : Nat) (l1 : Int32) (hp : mjH) : mjU := gI hp l0 12 96 (fun v1 => (if v1 = (1 : Int32) then (if l1 < (1 : Int32) then b_229_20 R hp else (if l1 ≤ (2000 : Int32) then pZ hp l0 12 126 (0 : Int32) (fun hp2 => L_229_31 R mjN l0 l1 (1 : Int32) hp2) else b_229_20 R hp)) else b_229_20 R hp))
theorem t_229_0 {X : mjX} {d C S kc ks : Nat} {R : mjR} (hR : mjC R d) (h1 : kc ≤ C) (h2 : ks ≤ S) : P_229_0 X (d + 1) C S kc ks (b_229_0 R) := by
  intro l0 l1 hp q h
  unfold b_229_0 at h
  refine mjr_aload_n (x := l0) D_229_0 rfl ?_
  refine mjq_gI D_229_1 fr_12_636 h (fun v1 h => ?_)
  refine mjq_ic (v := (1 : Int32)) D_229_4 rfl ?_
  refine mjq_icmp_ne (tgt := 20) D_229_5 rfl h (fun h => ?_) (fun h => ?_)
  · exact mjG.fg (lo' := [none, none, none, none, none]) True.intro ((t_229_20 hR h1 h2) _ _ h)
  · refine mjr_iload_n (x := l1) D_229_8 rfl ?_
    refine mjq_ic (v := (1 : Int32)) D_229_9 rfl ?_
    refine mjq_icmp_lt (tgt := 20) D_229_10 rfl h (fun h => ?_) (fun h => ?_)
    · exact mjG.fg (lo' := [none, none, none, none, none]) True.intro ((t_229_20 hR h1 h2) _ _ h)
    · refine mjr_iload_n (x := l1) D_229_13 rfl ?_
      refine mjq_si (v := (2000 : Int32)) D_229_14 rfl ?_
      refine mjq_icmp_le (tgt := 22) D_229_17 rfl h (fun h => ?_) (fun h => ?_)
      · refine mjr_iload_n (x := l1) D_229_22 rfl ?_
        refine mjq_istore_n (lo' := [some (.ref l0), some (.int l1), some (.int l1), none, none]) D_229_23 (Nat.le_of_ble_eq_true rfl) rfl ?_
        refine mjr_aload_n (x := l0) D_229_24 rfl ?_
        refine mjq_ic (v := (0 : Int32)) D_229_25 rfl ?_
        refine mjq_pZ D_229_26 fr_12_645 rfl rfl h (fun hp2 h => ?_)
        refine mjq_ic (v := (1 : Int32)) D_229_29 rfl ?_
        refine mjq_istore_n (lo' := [some (.ref l0), some (.int l1), some (.int l1), some (.int (1 : Int32)), none]) D_229_30 (Nat.le_of_ble_eq_true rfl) rfl ?_
        exact mjG.fg (lo' := [some (.ref l0), none, some (.int l1), some (.int (1 : Int32)), none]) (And.intro rfl (And.intro rfl (And.intro rfl True.intro))) ((T_229_31 hR h1 h2 mjN) _ _ _ _ _ h)
      · exact mjG.fg (lo' := [none, none, none, none, none]) True.intro ((t_229_20 hR h1 h2) _ _ h)
noncomputable def f_229 (R : mjR) (a0 : Nat) (a1 : Int32) (hp : mjH) : mjU := b_229_0 R a0 a1 hp
theorem c_229 {R : mjR} {d : Nat} (hR : mjC R d) {a0 : Nat} {a1 : Int32} {hp : mjH} {q : Option Value × mjH} (h : f_229 R a0 a1 hp = some q) : mjM (d + 1) 0 0 229 [.ref a0, .int a1] hp (mjEq q) :=
  mjM_of Ja_229 (Nat.le_of_ble_eq_true rfl) (mjG.fg (lo' := [some (.ref a0), some (.int a1), none, none, none]) (And.intro rfl (And.intro rfl True.intro)) ((t_229_0 hR (Nat.le_refl 0) (Nat.le_refl 0)) a0 a1 hp q h))
def J_245 : mjI := (⟨"OwnerHeapModel", "way", "(II)I"⟩, 12, prog_14_method_103_code, 4, (some .int), 2, false)
theorem Ja_245 : mjMt 245 = some J_245 := by rfl
theorem D_245_0 : decode J_245.2.2.1 0 = .ok (.aload_n 0, 1) := by decide +kernel
theorem D_245_1 : decode J_245.2.2.1 1 = .ok (.iload_n 1, 1) := by decide +kernel
theorem D_245_2 : decode J_245.2.2.1 2 = .ok (.invokevirtual 729, 3) := by decide +kernel
theorem D_245_5 : decode J_245.2.2.1 5 = .ok (.ifCond .eq 11, 3) := by decide +kernel
theorem D_245_8 : decode J_245.2.2.1 8 = .ok (.aload_n 0, 1) := by decide +kernel
theorem D_245_9 : decode J_245.2.2.1 9 = .ok (.iload_n 2, 1) := by decide +kernel
theorem D_245_10 : decode J_245.2.2.1 10 = .ok (.invokevirtual 729, 3) := by decide +kernel
theorem D_245_13 : decode J_245.2.2.1 13 = .ok (.ifCond .ne 5, 3) := by decide +kernel
theorem D_245_16 : decode J_245.2.2.1 16 = .ok (.iconst (-1), 1) := by decide +kernel
theorem D_245_17 : decode J_245.2.2.1 17 = .ok (.ireturn, 1) := by decide +kernel
theorem D_245_18 : decode J_245.2.2.1 18 = .ok (.aload_n 0, 1) := by decide +kernel
theorem D_245_19 : decode J_245.2.2.1 19 = .ok (.invokevirtual 720, 3) := by decide +kernel
theorem D_245_22 : decode J_245.2.2.1 22 = .ok (.aload_n 0, 1) := by decide +kernel
theorem D_245_23 : decode J_245.2.2.1 23 = .ok (.iload_n 1, 1) := by decide +kernel
theorem D_245_24 : decode J_245.2.2.1 24 = .ok (.iconst (-1), 1) := by decide +kernel
theorem D_245_25 : decode J_245.2.2.1 25 = .ok (.invokevirtual 717, 3) := by decide +kernel
theorem D_245_28 : decode J_245.2.2.1 28 = .ok (.aload_n 0, 1) := by decide +kernel
theorem D_245_29 : decode J_245.2.2.1 29 = .ok (.iconst 0, 1) := by decide +kernel
theorem D_245_30 : decode J_245.2.2.1 30 = .ok (.invokevirtual 726, 3) := by decide +kernel
theorem D_245_33 : decode J_245.2.2.1 33 = .ok (.aload_n 0, 1) := by decide +kernel
theorem D_245_34 : decode J_245.2.2.1 34 = .ok (.iload_n 2, 1) := by decide +kernel
theorem D_245_35 : decode J_245.2.2.1 35 = .ok (.invokevirtual 732, 3) := by decide +kernel
theorem D_245_38 : decode J_245.2.2.1 38 = .ok (.istore_n 3, 1) := by decide +kernel
theorem D_245_39 : decode J_245.2.2.1 39 = .ok (.iload_n 3, 1) := by decide +kernel
theorem D_245_40 : decode J_245.2.2.1 40 = .ok (.ifCond .ge 7, 3) := by decide +kernel
theorem D_245_43 : decode J_245.2.2.1 43 = .ok (.iconst (-1), 1) := by decide +kernel
theorem D_245_44 : decode J_245.2.2.1 44 = .ok (.goto 9, 3) := by decide +kernel
theorem D_245_47 : decode J_245.2.2.1 47 = .ok (.aload_n 0, 1) := by decide +kernel
theorem D_245_48 : decode J_245.2.2.1 48 = .ok (.getfield 266, 3) := by decide +kernel
theorem D_245_51 : decode J_245.2.2.1 51 = .ok (.iload_n 3, 1) := by decide +kernel
theorem D_245_52 : decode J_245.2.2.1 52 = .ok (.iaload, 1) := by decide +kernel
theorem D_245_53 : decode J_245.2.2.1 53 = .ok (.ireturn, 1) := by decide +kernel
def P_245_16 (X : mjX) (d C S kc ks : Nat) (k : mjH → mjU) : Prop := ∀  (hp : mjH) (q : Option Value × mjH), k  hp = some q → mjG X d C S J_245 (mjEq q) 16 [none, none, none, none] [] hp kc ks
def P_245_0 (X : mjX) (d C S kc ks : Nat) (k : Nat → Int32 → Int32 → mjH → mjU) : Prop := ∀ (l0 : Nat) (l1 : Int32) (l2 : Int32) (hp : mjH) (q : Option Value × mjH), k l0 l1 l2 hp = some q → mjG X d C S J_245 (mjEq q) 0 [some (.ref l0), some (.int l1), some (.int l2), none] [] hp kc ks
noncomputable def b_245_16 (R : mjR)  (hp : mjH) : mjU := some (some (.int (-1 : Int32)), hp)
theorem t_245_16 {X : mjX} {d C S kc ks : Nat} {R : mjR} (hR : mjC R d) (h1 : kc ≤ C) (h2 : ks ≤ S) : P_245_16 X (d + 1) C S kc ks (b_245_16 R) := by
  intro  hp q h
  unfold b_245_16 at h
  refine mjq_ic (v := (-1 : Int32)) D_245_16 rfl ?_
  exact mjq_ret D_245_17 rfl h1 h2 h
noncomputable def b_245_0 (R : mjR) (l0 : Nat) (l1 : Int32) (l2 : Int32) (hp : mjH) : mjU := rV hp l0 12 (bI (R 246 [.ref l0, .int l1] hp) (fun v1 hp2 => (if v1 = 0 then b_245_16 R hp2 else rV hp2 l0 12 (bI (R 246 [.ref l0, .int l2] hp2) (fun v3 hp4 => (if v3 = 0 then b_245_16 R hp4 else rV hp4 l0 12 (bN (R 247 [.ref l0] hp4) (fun  hp5 => rV hp5 l0 12 (bN (R 248 [.ref l0, .int l1, .int (-1 : Int32)] hp5) (fun  hp6 => rV hp6 l0 12 (bN (R 249 [.ref l0, .int (0 : Int32)] hp6) (fun  hp7 => rV hp7 l0 12 (bI (R 250 [.ref l0, .int l2] hp7) (fun v8 hp9 => (if 0 ≤ v8 then gR hp9 l0 12 123 (fun v10 => aI hp9 v10 v8 (fun v11 => some (some (.int v11), hp9))) else some (some (.int (-1 : Int32)), hp9))))))))))))))))
theorem t_245_0 {X : mjX} {d C S kc ks : Nat} {R : mjR} (hR : mjC R d) (h1 : kc ≤ C) (h2 : ks ≤ S) : P_245_0 X (d + 1) C S kc ks (b_245_0 R) := by
  intro l0 l1 l2 hp q h
  unfold b_245_0 at h
  refine mjr_aload_n (x := l0) D_245_0 rfl ?_
  refine mjr_iload_n (x := l1) D_245_1 rfl ?_
  refine mjq_vI (As := [.int l1]) (rest := []) D_245_2 mr_12_729 V_246 rfl rfl rfl hR (Nat.le_refl _) h1 h2 h (fun v1 hp2 h => ?_)
  refine mjq_if_eq (tgt := 16) D_245_5 rfl h (fun h => ?_) (fun h => ?_)
  · exact mjG.fg (lo' := [none, none, none, none]) True.intro ((t_245_16 hR h1 h2) _ _ h)
  · refine mjr_aload_n (x := l0) D_245_8 rfl ?_
    refine mjr_iload_n (x := l2) D_245_9 rfl ?_
    refine mjq_vI (As := [.int l2]) (rest := []) D_245_10 mr_12_729 V_246 rfl rfl rfl hR (Nat.le_refl _) h1 h2 h (fun v3 hp4 h => ?_)
    refine mjq_if_ne (tgt := 18) D_245_13 rfl h (fun h => ?_) (fun h => ?_)
    · refine mjr_aload_n (x := l0) D_245_18 rfl ?_
      refine mjq_vN (As := []) (rest := []) D_245_19 mr_12_720 V_247 rfl rfl rfl hR (Nat.le_refl _) h1 h2 h (fun  hp5 h => ?_)
      refine mjr_aload_n (x := l0) D_245_22 rfl ?_
      refine mjr_iload_n (x := l1) D_245_23 rfl ?_
      refine mjq_ic (v := (-1 : Int32)) D_245_24 rfl ?_
      refine mjq_vN (As := [.int l1, .int (-1 : Int32)]) (rest := []) D_245_25 mr_12_717 V_248 rfl rfl rfl hR (Nat.le_refl _) h1 h2 h (fun  hp6 h => ?_)
      refine mjr_aload_n (x := l0) D_245_28 rfl ?_
      refine mjq_ic (v := (0 : Int32)) D_245_29 rfl ?_
      refine mjq_vN (As := [.int (0 : Int32)]) (rest := []) D_245_30 mr_12_726 V_249 rfl rfl rfl hR (Nat.le_refl _) h1 h2 h (fun  hp7 h => ?_)
      refine mjr_aload_n (x := l0) D_245_33 rfl ?_
      refine mjr_iload_n (x := l2) D_245_34 rfl ?_
      refine mjq_vI (As := [.int l2]) (rest := []) D_245_35 mr_12_732 V_250 rfl rfl rfl hR (Nat.le_refl _) h1 h2 h (fun v8 hp9 h => ?_)
      refine mjq_istore_n (lo' := [some (.ref l0), some (.int l1), some (.int l2), some (.int v8)]) D_245_38 (Nat.le_of_ble_eq_true rfl) rfl ?_
      refine mjr_iload_n (x := v8) D_245_39 rfl ?_
      refine mjq_if_ge (tgt := 47) D_245_40 rfl h (fun h => ?_) (fun h => ?_)
      · refine mjr_aload_n (x := l0) D_245_47 rfl ?_
        refine mjq_gR D_245_48 fr_12_266 h (fun v10 h => ?_)
        refine mjr_iload_n (x := v8) D_245_51 rfl ?_
        refine mjq_aI D_245_52 h (fun v11 h => ?_)
        exact mjq_ret D_245_53 rfl h1 h2 h
      · refine mjq_ic (v := (-1 : Int32)) D_245_43 rfl ?_
        refine mjr_goto (tgt := 53) D_245_44 rfl ?_
        exact mjq_ret D_245_53 rfl h1 h2 h
    · exact mjG.fg (lo' := [none, none, none, none]) True.intro ((t_245_16 hR h1 h2) _ _ h)
noncomputable def f_245 (R : mjR) (a0 : Nat) (a1 : Int32) (a2 : Int32) (hp : mjH) : mjU := b_245_0 R a0 a1 a2 hp
theorem c_245 {R : mjR} {d : Nat} (hR : mjC R d) {a0 : Nat} {a1 : Int32} {a2 : Int32} {hp : mjH} {q : Option Value × mjH} (h : f_245 R a0 a1 a2 hp = some q) : mjM (d + 1) 0 0 245 [.ref a0, .int a1, .int a2] hp (mjEq q) :=
  mjM_of Ja_245 (Nat.le_of_ble_eq_true rfl) (mjG.fg (lo' := [some (.ref a0), some (.int a1), some (.int a2), none]) (And.intro rfl (And.intro rfl (And.intro rfl True.intro))) ((t_245_0 hR (Nat.le_refl 0) (Nat.le_refl 0)) a0 a1 a2 hp q h))
def J_246 : mjI := (⟨"OwnerHeapModel", "isThere", "(I)Z"⟩, 12, prog_14_method_96_code, 2, (some .boolean), 1, false)
theorem Ja_246 : mjMt 246 = some J_246 := by rfl
theorem D_246_0 : decode J_246.2.2.1 0 = .ok (.aload_n 0, 1) := by decide +kernel
theorem D_246_1 : decode J_246.2.2.1 1 = .ok (.getfield 636, 3) := by decide +kernel
theorem D_246_4 : decode J_246.2.2.1 4 = .ok (.ifCond .le 20, 3) := by decide +kernel
theorem D_246_7 : decode J_246.2.2.1 7 = .ok (.iload_n 1, 1) := by decide +kernel
theorem D_246_8 : decode J_246.2.2.1 8 = .ok (.iconst 1, 1) := by decide +kernel
theorem D_246_9 : decode J_246.2.2.1 9 = .ok (.if_icmp .lt 15, 3) := by decide +kernel
theorem D_246_12 : decode J_246.2.2.1 12 = .ok (.iload_n 1, 1) := by decide +kernel
theorem D_246_13 : decode J_246.2.2.1 13 = .ok (.aload_n 0, 1) := by decide +kernel
theorem D_246_14 : decode J_246.2.2.1 14 = .ok (.getfield 699, 3) := by decide +kernel
theorem D_246_17 : decode J_246.2.2.1 17 = .ok (.if_icmp .gt 7, 3) := by decide +kernel
theorem D_246_20 : decode J_246.2.2.1 20 = .ok (.iconst 1, 1) := by decide +kernel
theorem D_246_21 : decode J_246.2.2.1 21 = .ok (.goto 4, 3) := by decide +kernel
theorem D_246_24 : decode J_246.2.2.1 24 = .ok (.iconst 0, 1) := by decide +kernel
theorem D_246_25 : decode J_246.2.2.1 25 = .ok (.ireturn, 1) := by decide +kernel
def P_246_24 (X : mjX) (d C S kc ks : Nat) (k : mjH → mjU) : Prop := ∀  (hp : mjH) (q : Option Value × mjH), k  hp = some q → mjG X d C S J_246 (mjEq q) 24 [none, none] [] hp kc ks
def P_246_0 (X : mjX) (d C S kc ks : Nat) (k : Nat → Int32 → mjH → mjU) : Prop := ∀ (l0 : Nat) (l1 : Int32) (hp : mjH) (q : Option Value × mjH), k l0 l1 hp = some q → mjG X d C S J_246 (mjEq q) 0 [some (.ref l0), some (.int l1)] [] hp kc ks
noncomputable def b_246_24 (R : mjR)  (hp : mjH) : mjU := some (some (.int (0 : Int32)), hp)
theorem t_246_24 {X : mjX} {d C S kc ks : Nat} {R : mjR} (hR : mjC R d) (h1 : kc ≤ C) (h2 : ks ≤ S) : P_246_24 X (d + 1) C S kc ks (b_246_24 R) := by
  intro  hp q h
  unfold b_246_24 at h
  refine mjq_ic (v := (0 : Int32)) D_246_24 rfl ?_
  exact mjr_ireturn D_246_25 rfl rfl h1 h2 (Option.some.inj h)
noncomputable def b_246_0 (R : mjR) (l0 : Nat) (l1 : Int32) (hp : mjH) : mjU := gI hp l0 12 96 (fun v1 => (if v1 ≤ 0 then b_246_24 R hp else (if l1 < (1 : Int32) then b_246_24 R hp else gI hp l0 12 103 (fun v2 => (if v2 < l1 then b_246_24 R hp else some (some (.int (1 : Int32)), hp))))))
theorem t_246_0 {X : mjX} {d C S kc ks : Nat} {R : mjR} (hR : mjC R d) (h1 : kc ≤ C) (h2 : ks ≤ S) : P_246_0 X (d + 1) C S kc ks (b_246_0 R) := by
  intro l0 l1 hp q h
  unfold b_246_0 at h
  refine mjr_aload_n (x := l0) D_246_0 rfl ?_
  refine mjq_gI D_246_1 fr_12_636 h (fun v1 h => ?_)
  refine mjq_if_le (tgt := 24) D_246_4 rfl h (fun h => ?_) (fun h => ?_)
  · exact mjG.fg (lo' := [none, none]) True.intro ((t_246_24 hR h1 h2) _ _ h)
  · refine mjr_iload_n (x := l1) D_246_7 rfl ?_
    refine mjq_ic (v := (1 : Int32)) D_246_8 rfl ?_
    refine mjq_icmp_lt (tgt := 24) D_246_9 rfl h (fun h => ?_) (fun h => ?_)
    · exact mjG.fg (lo' := [none, none]) True.intro ((t_246_24 hR h1 h2) _ _ h)
    · refine mjr_iload_n (x := l1) D_246_12 rfl ?_
      refine mjr_aload_n (x := l0) D_246_13 rfl ?_
      refine mjq_gI D_246_14 fr_12_699 h (fun v2 h => ?_)
      refine mjq_icmp_gt (tgt := 24) D_246_17 rfl h (fun h => ?_) (fun h => ?_)
      · exact mjG.fg (lo' := [none, none]) True.intro ((t_246_24 hR h1 h2) _ _ h)
      · refine mjq_ic (v := (1 : Int32)) D_246_20 rfl ?_
        refine mjr_goto (tgt := 25) D_246_21 rfl ?_
        exact mjr_ireturn D_246_25 rfl rfl h1 h2 (Option.some.inj h)
noncomputable def f_246 (R : mjR) (a0 : Nat) (a1 : Int32) (hp : mjH) : mjU := b_246_0 R a0 a1 hp
theorem c_246 {R : mjR} {d : Nat} (hR : mjC R d) {a0 : Nat} {a1 : Int32} {hp : mjH} {q : Option Value × mjH} (h : f_246 R a0 a1 hp = some q) : mjM (d + 1) 0 0 246 [.ref a0, .int a1] hp (mjEq q) :=
  mjM_of Ja_246 (Nat.le_of_ble_eq_true rfl) (mjG.fg (lo' := [some (.ref a0), some (.int a1)]) (And.intro rfl (And.intro rfl True.intro)) ((t_246_0 hR (Nat.le_refl 0) (Nat.le_refl 0)) a0 a1 hp q h))
def J_251 : mjI := (⟨"OwnerHeapModel", "leaks", "()I"⟩, 12, prog_14_method_104_code, 1, (some .int), 0, false)
theorem Ja_251 : mjMt 251 = some J_251 := by rfl
theorem D_251_0 : decode J_251.2.2.1 0 = .ok (.aload_n 0, 1) := by decide +kernel
theorem D_251_1 : decode J_251.2.2.1 1 = .ok (.getfield 636, 3) := by decide +kernel
theorem D_251_4 : decode J_251.2.2.1 4 = .ok (.ifCond .ne 5, 3) := by decide +kernel
theorem D_251_7 : decode J_251.2.2.1 7 = .ok (.iconst 0, 1) := by decide +kernel
theorem D_251_8 : decode J_251.2.2.1 8 = .ok (.ireturn, 1) := by decide +kernel
theorem D_251_9 : decode J_251.2.2.1 9 = .ok (.aload_n 0, 1) := by decide +kernel
theorem D_251_10 : decode J_251.2.2.1 10 = .ok (.invokevirtual 735, 3) := by decide +kernel
theorem D_251_13 : decode J_251.2.2.1 13 = .ok (.aload_n 0, 1) := by decide +kernel
theorem D_251_14 : decode J_251.2.2.1 14 = .ok (.getfield 738, 3) := by decide +kernel
theorem D_251_17 : decode J_251.2.2.1 17 = .ok (.ireturn, 1) := by decide +kernel
def P_251_0 (X : mjX) (d C S kc ks : Nat) (k : Nat → mjH → mjU) : Prop := ∀ (l0 : Nat) (hp : mjH) (q : Option Value × mjH), k l0 hp = some q → mjG X d C S J_251 (mjEq q) 0 [some (.ref l0)] [] hp kc ks
noncomputable def b_251_0 (R : mjR) (l0 : Nat) (hp : mjH) : mjU := gI hp l0 12 96 (fun v1 => (if v1 = 0 then some (some (.int (0 : Int32)), hp) else rV hp l0 12 (bN (R 252 [.ref l0] hp) (fun  hp2 => gI hp2 l0 12 127 (fun v3 => some (some (.int v3), hp2))))))
theorem t_251_0 {X : mjX} {d C S kc ks : Nat} {R : mjR} (hR : mjC R d) (h1 : kc ≤ C) (h2 : ks ≤ S) : P_251_0 X (d + 1) C S kc ks (b_251_0 R) := by
  intro l0 hp q h
  unfold b_251_0 at h
  refine mjr_aload_n (x := l0) D_251_0 rfl ?_
  refine mjq_gI D_251_1 fr_12_636 h (fun v1 h => ?_)
  refine mjq_if_ne (tgt := 9) D_251_4 rfl h (fun h => ?_) (fun h => ?_)
  · refine mjr_aload_n (x := l0) D_251_9 rfl ?_
    refine mjq_vN (As := []) (rest := []) D_251_10 mr_12_735 V_252 rfl rfl rfl hR (Nat.le_refl _) h1 h2 h (fun  hp2 h => ?_)
    refine mjr_aload_n (x := l0) D_251_13 rfl ?_
    refine mjq_gI D_251_14 fr_12_738 h (fun v3 h => ?_)
    exact mjq_ret D_251_17 rfl h1 h2 h
  · refine mjq_ic (v := (0 : Int32)) D_251_7 rfl ?_
    exact mjq_ret D_251_8 rfl h1 h2 h
noncomputable def f_251 (R : mjR) (a0 : Nat) (hp : mjH) : mjU := b_251_0 R a0 hp
theorem c_251 {R : mjR} {d : Nat} (hR : mjC R d) {a0 : Nat} {hp : mjH} {q : Option Value × mjH} (h : f_251 R a0 hp = some q) : mjM (d + 1) 0 0 251 [.ref a0] hp (mjEq q) :=
  mjM_of Ja_251 (Nat.le_of_ble_eq_true rfl) (mjG.fg (lo' := [some (.ref a0)]) (And.intro rfl True.intro) ((t_251_0 hR (Nat.le_refl 0) (Nat.le_refl 0)) a0 hp q h))
def J_253 : mjI := (⟨"OwnerHeapModel", "ownerAt", "(I)I"⟩, 12, prog_14_method_97_code, 2, (some .int), 1, false)
theorem Ja_253 : mjMt 253 = some J_253 := by rfl
theorem D_253_0 : decode J_253.2.2.1 0 = .ok (.aload_n 0, 1) := by decide +kernel
theorem D_253_1 : decode J_253.2.2.1 1 = .ok (.getfield 230, 3) := by decide +kernel
theorem D_253_4 : decode J_253.2.2.1 4 = .ok (.aload_n 0, 1) := by decide +kernel
theorem D_253_5 : decode J_253.2.2.1 5 = .ok (.getfield 236, 3) := by decide +kernel
theorem D_253_8 : decode J_253.2.2.1 8 = .ok (.iload_n 1, 1) := by decide +kernel
theorem D_253_9 : decode J_253.2.2.1 9 = .ok (.iaload, 1) := by decide +kernel
theorem D_253_10 : decode J_253.2.2.1 10 = .ok (.iaload, 1) := by decide +kernel
theorem D_253_11 : decode J_253.2.2.1 11 = .ok (.ireturn, 1) := by decide +kernel
def P_253_0 (X : mjX) (d C S kc ks : Nat) (k : Nat → Int32 → mjH → mjU) : Prop := ∀ (l0 : Nat) (l1 : Int32) (hp : mjH) (q : Option Value × mjH), k l0 l1 hp = some q → mjG X d C S J_253 (mjEq q) 0 [some (.ref l0), some (.int l1)] [] hp kc ks
noncomputable def b_253_0 (R : mjR) (l0 : Nat) (l1 : Int32) (hp : mjH) : mjU := gR hp l0 12 108 (fun v1 => gR hp l0 12 110 (fun v2 => aI hp v2 l1 (fun v3 => aI hp v1 v3 (fun v4 => some (some (.int v4), hp)))))
theorem t_253_0 {X : mjX} {d C S kc ks : Nat} {R : mjR} (hR : mjC R d) (h1 : kc ≤ C) (h2 : ks ≤ S) : P_253_0 X (d + 1) C S kc ks (b_253_0 R) := by
  intro l0 l1 hp q h
  unfold b_253_0 at h
  refine mjr_aload_n (x := l0) D_253_0 rfl ?_
  refine mjq_gR D_253_1 fr_12_230 h (fun v1 h => ?_)
  refine mjr_aload_n (x := l0) D_253_4 rfl ?_
  refine mjq_gR D_253_5 fr_12_236 h (fun v2 h => ?_)
  refine mjr_iload_n (x := l1) D_253_8 rfl ?_
  refine mjq_aI D_253_9 h (fun v3 h => ?_)
  refine mjq_aI D_253_10 h (fun v4 h => ?_)
  exact mjq_ret D_253_11 rfl h1 h2 h
noncomputable def f_253 (R : mjR) (a0 : Nat) (a1 : Int32) (hp : mjH) : mjU := b_253_0 R a0 a1 hp
theorem c_253 {R : mjR} {d : Nat} (hR : mjC R d) {a0 : Nat} {a1 : Int32} {hp : mjH} {q : Option Value × mjH} (h : f_253 R a0 a1 hp = some q) : mjM (d + 1) 0 0 253 [.ref a0, .int a1] hp (mjEq q) :=
  mjM_of Ja_253 (Nat.le_of_ble_eq_true rfl) (mjG.fg (lo' := [some (.ref a0), some (.int a1)]) (And.intro rfl (And.intro rfl True.intro)) ((t_253_0 hR (Nat.le_refl 0) (Nat.le_refl 0)) a0 a1 hp q h))
def J_255 : mjI := (⟨"OwnerHeapModel", "leak", "(I)I"⟩, 12, prog_14_method_106_code, 4, (some .int), 1, false)
theorem Ja_255 : mjMt 255 = some J_255 := by rfl
theorem D_255_0 : decode J_255.2.2.1 0 = .ok (.aload_n 0, 1) := by decide +kernel
theorem D_255_1 : decode J_255.2.2.1 1 = .ok (.getfield 636, 3) := by decide +kernel
theorem D_255_4 : decode J_255.2.2.1 4 = .ok (.ifCond .eq 7, 3) := by decide +kernel
theorem D_255_7 : decode J_255.2.2.1 7 = .ok (.iload_n 1, 1) := by decide +kernel
theorem D_255_8 : decode J_255.2.2.1 8 = .ok (.ifCond .ge 5, 3) := by decide +kernel
theorem D_255_11 : decode J_255.2.2.1 11 = .ok (.iconst (-1), 1) := by decide +kernel
theorem D_255_12 : decode J_255.2.2.1 12 = .ok (.ireturn, 1) := by decide +kernel
theorem D_255_13 : decode J_255.2.2.1 13 = .ok (.aload_n 0, 1) := by decide +kernel
theorem D_255_14 : decode J_255.2.2.1 14 = .ok (.invokevirtual 735, 3) := by decide +kernel
theorem D_255_17 : decode J_255.2.2.1 17 = .ok (.iconst 0, 1) := by decide +kernel
theorem D_255_18 : decode J_255.2.2.1 18 = .ok (.istore_n 2, 1) := by decide +kernel
theorem D_255_19 : decode J_255.2.2.1 19 = .ok (.iconst 1, 1) := by decide +kernel
theorem D_255_20 : decode J_255.2.2.1 20 = .ok (.istore_n 3, 1) := by decide +kernel
theorem D_255_21 : decode J_255.2.2.1 21 = .ok (.iload_n 3, 1) := by decide +kernel
theorem D_255_22 : decode J_255.2.2.1 22 = .ok (.aload_n 0, 1) := by decide +kernel
theorem D_255_23 : decode J_255.2.2.1 23 = .ok (.getfield 699, 3) := by decide +kernel
theorem D_255_26 : decode J_255.2.2.1 26 = .ok (.if_icmp .gt 31, 3) := by decide +kernel
theorem D_255_29 : decode J_255.2.2.1 29 = .ok (.aload_n 0, 1) := by decide +kernel
theorem D_255_30 : decode J_255.2.2.1 30 = .ok (.getfield 269, 3) := by decide +kernel
theorem D_255_33 : decode J_255.2.2.1 33 = .ok (.iload_n 3, 1) := by decide +kernel
theorem D_255_34 : decode J_255.2.2.1 34 = .ok (.baload, 1) := by decide +kernel
theorem D_255_35 : decode J_255.2.2.1 35 = .ok (.ifCond .ne 6, 3) := by decide +kernel
theorem D_255_38 : decode J_255.2.2.1 38 = .ok (.goto 13, 3) := by decide +kernel
theorem D_255_41 : decode J_255.2.2.1 41 = .ok (.iload_n 2, 1) := by decide +kernel
theorem D_255_42 : decode J_255.2.2.1 42 = .ok (.iload_n 1, 1) := by decide +kernel
theorem D_255_43 : decode J_255.2.2.1 43 = .ok (.if_icmp .ne 5, 3) := by decide +kernel
theorem D_255_46 : decode J_255.2.2.1 46 = .ok (.iload_n 3, 1) := by decide +kernel
theorem D_255_47 : decode J_255.2.2.1 47 = .ok (.ireturn, 1) := by decide +kernel
theorem D_255_48 : decode J_255.2.2.1 48 = .ok (.iinc 2 1, 3) := by decide +kernel
theorem D_255_51 : decode J_255.2.2.1 51 = .ok (.iinc 3 1, 3) := by decide +kernel
theorem D_255_54 : decode J_255.2.2.1 54 = .ok (.goto (-33), 3) := by decide +kernel
theorem D_255_57 : decode J_255.2.2.1 57 = .ok (.iconst (-1), 1) := by decide +kernel
theorem D_255_58 : decode J_255.2.2.1 58 = .ok (.ireturn, 1) := by decide +kernel
def P_255_11 (X : mjX) (d C S kc ks : Nat) (k : mjH → mjU) : Prop := ∀  (hp : mjH) (q : Option Value × mjH), k  hp = some q → mjG X d C S J_255 (mjEq q) 11 [none, none, none, none] [] hp kc ks
def P_255_51 (X : mjX) (d C S kc ks : Nat) (k : Nat → Int32 → Int32 → Int32 → mjH → mjU) : Prop := ∀ (l0 : Nat) (l1 : Int32) (l2 : Int32) (l3 : Int32) (hp : mjH) (q : Option Value × mjH), k l0 l1 l2 l3 hp = some q → mjG X d C S J_255 (mjEq q) 51 [some (.ref l0), some (.int l1), some (.int l2), some (.int l3)] [] hp kc ks
def P_255_21 (X : mjX) (d C S kc ks : Nat) (k : Nat → Int32 → Int32 → Int32 → mjH → mjU) : Prop := ∀ (l0 : Nat) (l1 : Int32) (l2 : Int32) (l3 : Int32) (hp : mjH) (q : Option Value × mjH), k l0 l1 l2 l3 hp = some q → mjG X d C S J_255 (mjEq q) 21 [some (.ref l0), some (.int l1), some (.int l2), some (.int l3)] [] hp kc ks
def P_255_0 (X : mjX) (d C S kc ks : Nat) (k : Nat → Int32 → mjH → mjU) : Prop := ∀ (l0 : Nat) (l1 : Int32) (hp : mjH) (q : Option Value × mjH), k l0 l1 hp = some q → mjG X d C S J_255 (mjEq q) 0 [some (.ref l0), some (.int l1), none, none] [] hp kc ks
noncomputable def b_255_11 (R : mjR)  (hp : mjH) : mjU := some (some (.int (-1 : Int32)), hp)
theorem t_255_11 {X : mjX} {d C S kc ks : Nat} {R : mjR} (hR : mjC R d) (h1 : kc ≤ C) (h2 : ks ≤ S) : P_255_11 X (d + 1) C S kc ks (b_255_11 R) := by
  intro  hp q h
  unfold b_255_11 at h
  refine mjq_ic (v := (-1 : Int32)) D_255_11 rfl ?_
  exact mjq_ret D_255_12 rfl h1 h2 h
noncomputable def b_255_51 (R : mjR) (k21 : Nat → Int32 → Int32 → Int32 → mjH → mjU) (l0 : Nat) (l1 : Int32) (l2 : Int32) (l3 : Int32) (hp : mjH) : mjU := k21 l0 l1 l2 (l3 + (1 : Int32)) hp
theorem t_255_51 {X : mjX} {d C S kc ks : Nat} {R : mjR} (hR : mjC R d) (h1 : kc ≤ C) (h2 : ks ≤ S) {k21 : Nat → Int32 → Int32 → Int32 → mjH → mjU} (hk21 : P_255_21 X (d + 1) C S kc ks k21) : P_255_51 X (d + 1) C S kc ks (b_255_51 R k21) := by
  intro l0 l1 l2 l3 hp q h
  unfold b_255_51 at h
  refine mjq_iinc (x := l3) (c := (1 : Int32)) (lo' := [some (.ref l0), some (.int l1), some (.int l2), some (.int (l3 + (1 : Int32)))]) D_255_51 rfl (Nat.le_of_ble_eq_true rfl) rfl rfl ?_
  refine mjr_goto (tgt := 21) D_255_54 rfl ?_
  exact hk21 _ _ _ _ _ _ h
noncomputable def b_255_21 (R : mjR) (k21 : Nat → Int32 → Int32 → Int32 → mjH → mjU) (l0 : Nat) (l1 : Int32) (l2 : Int32) (l3 : Int32) (hp : mjH) : mjU := gI hp l0 12 103 (fun v1 => (if v1 < l3 then some (some (.int (-1 : Int32)), hp) else gR hp l0 12 125 (fun v2 => aB hp v2 l3 (fun v3 => (if v3 = 0 then b_255_51 R k21 l0 l1 l2 l3 hp else (if l2 = l1 then some (some (.int l3), hp) else b_255_51 R k21 l0 l1 (l2 + (1 : Int32)) l3 hp))))))
theorem t_255_21 {X : mjX} {d C S kc ks : Nat} {R : mjR} (hR : mjC R d) (h1 : kc ≤ C) (h2 : ks ≤ S) {k21 : Nat → Int32 → Int32 → Int32 → mjH → mjU} (hk21 : P_255_21 X (d + 1) C S kc ks k21) : P_255_21 X (d + 1) C S kc ks (b_255_21 R k21) := by
  intro l0 l1 l2 l3 hp q h
  unfold b_255_21 at h
  refine mjr_iload_n (x := l3) D_255_21 rfl ?_
  refine mjr_aload_n (x := l0) D_255_22 rfl ?_
  refine mjq_gI D_255_23 fr_12_699 h (fun v1 h => ?_)
  refine mjq_icmp_gt (tgt := 57) D_255_26 rfl h (fun h => ?_) (fun h => ?_)
  · refine mjq_ic (v := (-1 : Int32)) D_255_57 rfl ?_
    exact mjq_ret D_255_58 rfl h1 h2 h
  · refine mjr_aload_n (x := l0) D_255_29 rfl ?_
    refine mjq_gR D_255_30 fr_12_269 h (fun v2 h => ?_)
    refine mjr_iload_n (x := l3) D_255_33 rfl ?_
    refine mjq_aB D_255_34 h (fun v3 h => ?_)
    refine mjq_if_ne (tgt := 41) D_255_35 rfl h (fun h => ?_) (fun h => ?_)
    · refine mjr_iload_n (x := l2) D_255_41 rfl ?_
      refine mjr_iload_n (x := l1) D_255_42 rfl ?_
      refine mjq_icmp_ne (tgt := 48) D_255_43 rfl h (fun h => ?_) (fun h => ?_)
      · refine mjq_iinc (x := l2) (c := (1 : Int32)) (lo' := [some (.ref l0), some (.int l1), some (.int (l2 + (1 : Int32))), some (.int l3)]) D_255_48 rfl (Nat.le_of_ble_eq_true rfl) rfl rfl ?_
        exact (t_255_51 hR h1 h2 hk21) _ _ _ _ _ _ h
      · refine mjr_iload_n (x := l3) D_255_46 rfl ?_
        exact mjq_ret D_255_47 rfl h1 h2 h
    · refine mjr_goto (tgt := 51) D_255_38 rfl ?_
      exact (t_255_51 hR h1 h2 hk21) _ _ _ _ _ _ h
noncomputable def L_255_21 (R : mjR) (n : Nat) : Nat → Int32 → Int32 → Int32 → mjH → mjU := Nat.rec (motive := fun _ => Nat → Int32 → Int32 → Int32 → mjH → mjU) (fun _ _ _ _ _ => none) (fun _ self => b_255_21 R self) n
theorem T_255_21 {X : mjX} {d C S kc ks : Nat} {R : mjR} (hR : mjC R d) (h1 : kc ≤ C) (h2 : ks ≤ S) (n : Nat) : P_255_21 X (d + 1) C S kc ks (L_255_21 R n) := by
  induction n with
  | zero => intro _ _ _ _ _ _ h; exact mj_no h
  | succ n ih => exact t_255_21 hR h1 h2 ih
noncomputable def b_255_0 (R : mjR) (l0 : Nat) (l1 : Int32) (hp : mjH) : mjU := gI hp l0 12 96 (fun v1 => (if v1 = 0 then b_255_11 R hp else (if 0 ≤ l1 then rV hp l0 12 (bN (R 252 [.ref l0] hp) (fun  hp2 => L_255_21 R mjN l0 l1 (0 : Int32) (1 : Int32) hp2)) else b_255_11 R hp)))
theorem t_255_0 {X : mjX} {d C S kc ks : Nat} {R : mjR} (hR : mjC R d) (h1 : kc ≤ C) (h2 : ks ≤ S) : P_255_0 X (d + 1) C S kc ks (b_255_0 R) := by
  intro l0 l1 hp q h
  unfold b_255_0 at h
  refine mjr_aload_n (x := l0) D_255_0 rfl ?_
  refine mjq_gI D_255_1 fr_12_636 h (fun v1 h => ?_)
  refine mjq_if_eq (tgt := 11) D_255_4 rfl h (fun h => ?_) (fun h => ?_)
  · exact mjG.fg (lo' := [none, none, none, none]) True.intro ((t_255_11 hR h1 h2) _ _ h)
  · refine mjr_iload_n (x := l1) D_255_7 rfl ?_
    refine mjq_if_ge (tgt := 13) D_255_8 rfl h (fun h => ?_) (fun h => ?_)
    · refine mjr_aload_n (x := l0) D_255_13 rfl ?_
      refine mjq_vN (As := []) (rest := []) D_255_14 mr_12_735 V_252 rfl rfl rfl hR (Nat.le_refl _) h1 h2 h (fun  hp2 h => ?_)
      refine mjq_ic (v := (0 : Int32)) D_255_17 rfl ?_
      refine mjq_istore_n (lo' := [some (.ref l0), some (.int l1), some (.int (0 : Int32)), none]) D_255_18 (Nat.le_of_ble_eq_true rfl) rfl ?_
      refine mjq_ic (v := (1 : Int32)) D_255_19 rfl ?_
      refine mjq_istore_n (lo' := [some (.ref l0), some (.int l1), some (.int (0 : Int32)), some (.int (1 : Int32))]) D_255_20 (Nat.le_of_ble_eq_true rfl) rfl ?_
      exact (T_255_21 hR h1 h2 mjN) _ _ _ _ _ _ h
    · exact mjG.fg (lo' := [none, none, none, none]) True.intro ((t_255_11 hR h1 h2) _ _ h)
noncomputable def f_255 (R : mjR) (a0 : Nat) (a1 : Int32) (hp : mjH) : mjU := b_255_0 R a0 a1 hp
theorem c_255 {R : mjR} {d : Nat} (hR : mjC R d) {a0 : Nat} {a1 : Int32} {hp : mjH} {q : Option Value × mjH} (h : f_255 R a0 a1 hp = some q) : mjM (d + 1) 0 0 255 [.ref a0, .int a1] hp (mjEq q) :=
  mjM_of Ja_255 (Nat.le_of_ble_eq_true rfl) (mjG.fg (lo' := [some (.ref a0), some (.int a1), none, none]) (And.intro rfl (And.intro rfl True.intro)) ((t_255_0 hR (Nat.le_refl 0) (Nat.le_refl 0)) a0 a1 hp q h))
def J_256 : mjI := (⟨"OwnerHeapModel", "past", "(II)I"⟩, 12, prog_14_method_107_code, 4, (some .int), 2, false)
theorem Ja_256 : mjMt 256 = some J_256 := by rfl
theorem D_256_0 : decode J_256.2.2.1 0 = .ok (.aload_n 0, 1) := by decide +kernel
theorem D_256_1 : decode J_256.2.2.1 1 = .ok (.iload_n 1, 1) := by decide +kernel
theorem D_256_2 : decode J_256.2.2.1 2 = .ok (.invokevirtual 729, 3) := by decide +kernel
theorem D_256_5 : decode J_256.2.2.1 5 = .ok (.ifCond .eq 7, 3) := by decide +kernel
theorem D_256_8 : decode J_256.2.2.1 8 = .ok (.iload_n 2, 1) := by decide +kernel
theorem D_256_9 : decode J_256.2.2.1 9 = .ok (.ifCond .ge 5, 3) := by decide +kernel
theorem D_256_12 : decode J_256.2.2.1 12 = .ok (.iconst (-1), 1) := by decide +kernel
theorem D_256_13 : decode J_256.2.2.1 13 = .ok (.ireturn, 1) := by decide +kernel
theorem D_256_14 : decode J_256.2.2.1 14 = .ok (.aload_n 0, 1) := by decide +kernel
theorem D_256_15 : decode J_256.2.2.1 15 = .ok (.invokevirtual 735, 3) := by decide +kernel
theorem D_256_18 : decode J_256.2.2.1 18 = .ok (.aload_n 0, 1) := by decide +kernel
theorem D_256_19 : decode J_256.2.2.1 19 = .ok (.getfield 269, 3) := by decide +kernel
theorem D_256_22 : decode J_256.2.2.1 22 = .ok (.iload_n 1, 1) := by decide +kernel
theorem D_256_23 : decode J_256.2.2.1 23 = .ok (.baload, 1) := by decide +kernel
theorem D_256_24 : decode J_256.2.2.1 24 = .ok (.ifCond .ne 5, 3) := by decide +kernel
theorem D_256_27 : decode J_256.2.2.1 27 = .ok (.iconst (-1), 1) := by decide +kernel
theorem D_256_28 : decode J_256.2.2.1 28 = .ok (.ireturn, 1) := by decide +kernel
theorem D_256_29 : decode J_256.2.2.1 29 = .ok (.aload_n 0, 1) := by decide +kernel
theorem D_256_30 : decode J_256.2.2.1 30 = .ok (.aload_n 0, 1) := by decide +kernel
theorem D_256_31 : decode J_256.2.2.1 31 = .ok (.iload_n 1, 1) := by decide +kernel
theorem D_256_32 : decode J_256.2.2.1 32 = .ok (.invokevirtual 723, 3) := by decide +kernel
theorem D_256_35 : decode J_256.2.2.1 35 = .ok (.invokevirtual 741, 3) := by decide +kernel
theorem D_256_38 : decode J_256.2.2.1 38 = .ok (.aload_n 0, 1) := by decide +kernel
theorem D_256_39 : decode J_256.2.2.1 39 = .ok (.iload_n 1, 1) := by decide +kernel
theorem D_256_40 : decode J_256.2.2.1 40 = .ok (.invokevirtual 732, 3) := by decide +kernel
theorem D_256_43 : decode J_256.2.2.1 43 = .ok (.istore_n 3, 1) := by decide +kernel
theorem D_256_44 : decode J_256.2.2.1 44 = .ok (.iload_n 2, 1) := by decide +kernel
theorem D_256_45 : decode J_256.2.2.1 45 = .ok (.aload_n 0, 1) := by decide +kernel
theorem D_256_46 : decode J_256.2.2.1 46 = .ok (.getfield 266, 3) := by decide +kernel
theorem D_256_49 : decode J_256.2.2.1 49 = .ok (.iload_n 3, 1) := by decide +kernel
theorem D_256_50 : decode J_256.2.2.1 50 = .ok (.iaload, 1) := by decide +kernel
theorem D_256_51 : decode J_256.2.2.1 51 = .ok (.if_icmp .le 5, 3) := by decide +kernel
theorem D_256_54 : decode J_256.2.2.1 54 = .ok (.iconst (-1), 1) := by decide +kernel
theorem D_256_55 : decode J_256.2.2.1 55 = .ok (.ireturn, 1) := by decide +kernel
theorem D_256_56 : decode J_256.2.2.1 56 = .ok (.aload_n 0, 1) := by decide +kernel
theorem D_256_57 : decode J_256.2.2.1 57 = .ok (.getfield 266, 3) := by decide +kernel
theorem D_256_60 : decode J_256.2.2.1 60 = .ok (.iload_n 3, 1) := by decide +kernel
theorem D_256_61 : decode J_256.2.2.1 61 = .ok (.iaload, 1) := by decide +kernel
theorem D_256_62 : decode J_256.2.2.1 62 = .ok (.iload_n 2, 1) := by decide +kernel
theorem D_256_63 : decode J_256.2.2.1 63 = .ok (.if_icmp .le 13, 3) := by decide +kernel
theorem D_256_66 : decode J_256.2.2.1 66 = .ok (.aload_n 0, 1) := by decide +kernel
theorem D_256_67 : decode J_256.2.2.1 67 = .ok (.getfield 263, 3) := by decide +kernel
theorem D_256_70 : decode J_256.2.2.1 70 = .ok (.iload_n 3, 1) := by decide +kernel
theorem D_256_71 : decode J_256.2.2.1 71 = .ok (.iaload, 1) := by decide +kernel
theorem D_256_72 : decode J_256.2.2.1 72 = .ok (.istore_n 3, 1) := by decide +kernel
theorem D_256_73 : decode J_256.2.2.1 73 = .ok (.goto (-17), 3) := by decide +kernel
theorem D_256_76 : decode J_256.2.2.1 76 = .ok (.aload_n 0, 1) := by decide +kernel
theorem D_256_77 : decode J_256.2.2.1 77 = .ok (.getfield 260, 3) := by decide +kernel
theorem D_256_80 : decode J_256.2.2.1 80 = .ok (.iload_n 3, 1) := by decide +kernel
theorem D_256_81 : decode J_256.2.2.1 81 = .ok (.iaload, 1) := by decide +kernel
theorem D_256_82 : decode J_256.2.2.1 82 = .ok (.ireturn, 1) := by decide +kernel
def P_256_12 (X : mjX) (d C S kc ks : Nat) (k : mjH → mjU) : Prop := ∀  (hp : mjH) (q : Option Value × mjH), k  hp = some q → mjG X d C S J_256 (mjEq q) 12 [none, none, none, none] [] hp kc ks
def P_256_56 (X : mjX) (d C S kc ks : Nat) (k : Nat → Int32 → Int32 → mjH → mjU) : Prop := ∀ (l0 : Nat) (l2 : Int32) (l3 : Int32) (hp : mjH) (q : Option Value × mjH), k l0 l2 l3 hp = some q → mjG X d C S J_256 (mjEq q) 56 [some (.ref l0), none, some (.int l2), some (.int l3)] [] hp kc ks
def P_256_0 (X : mjX) (d C S kc ks : Nat) (k : Nat → Int32 → Int32 → mjH → mjU) : Prop := ∀ (l0 : Nat) (l1 : Int32) (l2 : Int32) (hp : mjH) (q : Option Value × mjH), k l0 l1 l2 hp = some q → mjG X d C S J_256 (mjEq q) 0 [some (.ref l0), some (.int l1), some (.int l2), none] [] hp kc ks
noncomputable def b_256_12 (R : mjR)  (hp : mjH) : mjU := some (some (.int (-1 : Int32)), hp)
theorem t_256_12 {X : mjX} {d C S kc ks : Nat} {R : mjR} (hR : mjC R d) (h1 : kc ≤ C) (h2 : ks ≤ S) : P_256_12 X (d + 1) C S kc ks (b_256_12 R) := by
  intro  hp q h
  unfold b_256_12 at h
  refine mjq_ic (v := (-1 : Int32)) D_256_12 rfl ?_
  exact mjq_ret D_256_13 rfl h1 h2 h
noncomputable def b_256_56 (R : mjR) (k56 : Nat → Int32 → Int32 → mjH → mjU) (l0 : Nat) (l2 : Int32) (l3 : Int32) (hp : mjH) : mjU := gR hp l0 12 123 (fun v1 => aI hp v1 l3 (fun v2 => (if v2 ≤ l2 then gR hp l0 12 121 (fun v3 => aI hp v3 l3 (fun v4 => some (some (.int v4), hp))) else gR hp l0 12 122 (fun v5 => aI hp v5 l3 (fun v6 => k56 l0 l2 v6 hp)))))
theorem t_256_56 {X : mjX} {d C S kc ks : Nat} {R : mjR} (hR : mjC R d) (h1 : kc ≤ C) (h2 : ks ≤ S) {k56 : Nat → Int32 → Int32 → mjH → mjU} (hk56 : P_256_56 X (d + 1) C S kc ks k56) : P_256_56 X (d + 1) C S kc ks (b_256_56 R k56) := by
  intro l0 l2 l3 hp q h
  unfold b_256_56 at h
  refine mjr_aload_n (x := l0) D_256_56 rfl ?_
  refine mjq_gR D_256_57 fr_12_266 h (fun v1 h => ?_)
  refine mjr_iload_n (x := l3) D_256_60 rfl ?_
  refine mjq_aI D_256_61 h (fun v2 h => ?_)
  refine mjr_iload_n (x := l2) D_256_62 rfl ?_
  refine mjq_icmp_le (tgt := 76) D_256_63 rfl h (fun h => ?_) (fun h => ?_)
  · refine mjr_aload_n (x := l0) D_256_76 rfl ?_
    refine mjq_gR D_256_77 fr_12_260 h (fun v3 h => ?_)
    refine mjr_iload_n (x := l3) D_256_80 rfl ?_
    refine mjq_aI D_256_81 h (fun v4 h => ?_)
    exact mjq_ret D_256_82 rfl h1 h2 h
  · refine mjr_aload_n (x := l0) D_256_66 rfl ?_
    refine mjq_gR D_256_67 fr_12_263 h (fun v5 h => ?_)
    refine mjr_iload_n (x := l3) D_256_70 rfl ?_
    refine mjq_aI D_256_71 h (fun v6 h => ?_)
    refine mjq_istore_n (lo' := [some (.ref l0), none, some (.int l2), some (.int v6)]) D_256_72 (Nat.le_of_ble_eq_true rfl) rfl ?_
    refine mjr_goto (tgt := 56) D_256_73 rfl ?_
    exact hk56 _ _ _ _ _ h
noncomputable def L_256_56 (R : mjR) (n : Nat) : Nat → Int32 → Int32 → mjH → mjU := Nat.rec (motive := fun _ => Nat → Int32 → Int32 → mjH → mjU) (fun _ _ _ _ => none) (fun _ self => b_256_56 R self) n
theorem T_256_56 {X : mjX} {d C S kc ks : Nat} {R : mjR} (hR : mjC R d) (h1 : kc ≤ C) (h2 : ks ≤ S) (n : Nat) : P_256_56 X (d + 1) C S kc ks (L_256_56 R n) := by
  induction n with
  | zero => intro _ _ _ _ _ h; exact mj_no h
  | succ n ih => exact t_256_56 hR h1 h2 ih
noncomputable def b_256_0 (R : mjR) (l0 : Nat) (l1 : Int32) (l2 : Int32) (hp : mjH) : mjU := rV hp l0 12 (bI (R 246 [.ref l0, .int l1] hp) (fun v1 hp2 => (if v1 = 0 then b_256_12 R hp2 else (if 0 ≤ l2 then rV hp2 l0 12 (bN (R 252 [.ref l0] hp2) (fun  hp3 => gR hp3 l0 12 125 (fun v4 => aB hp3 v4 l1 (fun v5 => (if v5 = 0 then some (some (.int (-1 : Int32)), hp3) else rV hp3 l0 12 (bI (R 253 [.ref l0, .int l1] hp3) (fun v6 hp7 => rV hp7 l0 12 (bN (R 254 [.ref l0, .int v6] hp7) (fun  hp8 => rV hp8 l0 12 (bI (R 250 [.ref l0, .int l1] hp8) (fun v9 hp10 => gR hp10 l0 12 123 (fun v11 => aI hp10 v11 v9 (fun v12 => (if l2 ≤ v12 then L_256_56 R mjN l0 l2 v9 hp10 else some (some (.int (-1 : Int32)), hp10))))))))))))))) else b_256_12 R hp2))))
theorem t_256_0 {X : mjX} {d C S kc ks : Nat} {R : mjR} (hR : mjC R d) (h1 : kc ≤ C) (h2 : ks ≤ S) : P_256_0 X (d + 1) C S kc ks (b_256_0 R) := by
  intro l0 l1 l2 hp q h
  unfold b_256_0 at h
  refine mjr_aload_n (x := l0) D_256_0 rfl ?_
  refine mjr_iload_n (x := l1) D_256_1 rfl ?_
  refine mjq_vI (As := [.int l1]) (rest := []) D_256_2 mr_12_729 V_246 rfl rfl rfl hR (Nat.le_refl _) h1 h2 h (fun v1 hp2 h => ?_)
  refine mjq_if_eq (tgt := 12) D_256_5 rfl h (fun h => ?_) (fun h => ?_)
  · exact mjG.fg (lo' := [none, none, none, none]) True.intro ((t_256_12 hR h1 h2) _ _ h)
  · refine mjr_iload_n (x := l2) D_256_8 rfl ?_
    refine mjq_if_ge (tgt := 14) D_256_9 rfl h (fun h => ?_) (fun h => ?_)
    · refine mjr_aload_n (x := l0) D_256_14 rfl ?_
      refine mjq_vN (As := []) (rest := []) D_256_15 mr_12_735 V_252 rfl rfl rfl hR (Nat.le_refl _) h1 h2 h (fun  hp3 h => ?_)
      refine mjr_aload_n (x := l0) D_256_18 rfl ?_
      refine mjq_gR D_256_19 fr_12_269 h (fun v4 h => ?_)
      refine mjr_iload_n (x := l1) D_256_22 rfl ?_
      refine mjq_aB D_256_23 h (fun v5 h => ?_)
      refine mjq_if_ne (tgt := 29) D_256_24 rfl h (fun h => ?_) (fun h => ?_)
      · refine mjr_aload_n (x := l0) D_256_29 rfl ?_
        refine mjr_aload_n (x := l0) D_256_30 rfl ?_
        refine mjr_iload_n (x := l1) D_256_31 rfl ?_
        refine mjq_vI (As := [.int l1]) (rest := [.ref l0]) D_256_32 mr_12_723 V_253 rfl rfl rfl hR (Nat.le_refl _) h1 h2 h (fun v6 hp7 h => ?_)
        refine mjq_vN (As := [.int v6]) (rest := []) D_256_35 mr_12_741 V_254 rfl rfl rfl hR (Nat.le_refl _) h1 h2 h (fun  hp8 h => ?_)
        refine mjr_aload_n (x := l0) D_256_38 rfl ?_
        refine mjr_iload_n (x := l1) D_256_39 rfl ?_
        refine mjq_vI (As := [.int l1]) (rest := []) D_256_40 mr_12_732 V_250 rfl rfl rfl hR (Nat.le_refl _) h1 h2 h (fun v9 hp10 h => ?_)
        refine mjq_istore_n (lo' := [some (.ref l0), some (.int l1), some (.int l2), some (.int v9)]) D_256_43 (Nat.le_of_ble_eq_true rfl) rfl ?_
        refine mjr_iload_n (x := l2) D_256_44 rfl ?_
        refine mjr_aload_n (x := l0) D_256_45 rfl ?_
        refine mjq_gR D_256_46 fr_12_266 h (fun v11 h => ?_)
        refine mjr_iload_n (x := v9) D_256_49 rfl ?_
        refine mjq_aI D_256_50 h (fun v12 h => ?_)
        refine mjq_icmp_le (tgt := 56) D_256_51 rfl h (fun h => ?_) (fun h => ?_)
        · exact mjG.fg (lo' := [some (.ref l0), none, some (.int l2), some (.int v9)]) (And.intro rfl (And.intro rfl (And.intro rfl True.intro))) ((T_256_56 hR h1 h2 mjN) _ _ _ _ _ h)
        · refine mjq_ic (v := (-1 : Int32)) D_256_54 rfl ?_
          exact mjq_ret D_256_55 rfl h1 h2 h
      · refine mjq_ic (v := (-1 : Int32)) D_256_27 rfl ?_
        exact mjq_ret D_256_28 rfl h1 h2 h
    · exact mjG.fg (lo' := [none, none, none, none]) True.intro ((t_256_12 hR h1 h2) _ _ h)
noncomputable def f_256 (R : mjR) (a0 : Nat) (a1 : Int32) (a2 : Int32) (hp : mjH) : mjU := b_256_0 R a0 a1 a2 hp
theorem c_256 {R : mjR} {d : Nat} (hR : mjC R d) {a0 : Nat} {a1 : Int32} {a2 : Int32} {hp : mjH} {q : Option Value × mjH} (h : f_256 R a0 a1 a2 hp = some q) : mjM (d + 1) 0 0 256 [.ref a0, .int a1, .int a2] hp (mjEq q) :=
  mjM_of Ja_256 (Nat.le_of_ble_eq_true rfl) (mjG.fg (lo' := [some (.ref a0), some (.int a1), some (.int a2), none]) (And.intro rfl (And.intro rfl (And.intro rfl True.intro))) ((t_256_0 hR (Nat.le_refl 0) (Nat.le_refl 0)) a0 a1 a2 hp q h))
def J_257 : mjI := (⟨"OwnerHeapModel", "above", "(I)I"⟩, 12, prog_14_method_108_code, 5, (some .int), 1, false)
theorem Ja_257 : mjMt 257 = some J_257 := by rfl
theorem D_257_0 : decode J_257.2.2.1 0 = .ok (.aload_n 0, 1) := by decide +kernel
theorem D_257_1 : decode J_257.2.2.1 1 = .ok (.iload_n 1, 1) := by decide +kernel
theorem D_257_2 : decode J_257.2.2.1 2 = .ok (.invokevirtual 729, 3) := by decide +kernel
theorem D_257_5 : decode J_257.2.2.1 5 = .ok (.ifCond .ne 5, 3) := by decide +kernel
theorem D_257_8 : decode J_257.2.2.1 8 = .ok (.iconst (-1), 1) := by decide +kernel
theorem D_257_9 : decode J_257.2.2.1 9 = .ok (.ireturn, 1) := by decide +kernel
theorem D_257_10 : decode J_257.2.2.1 10 = .ok (.aload_n 0, 1) := by decide +kernel
theorem D_257_11 : decode J_257.2.2.1 11 = .ok (.iconst 0, 1) := by decide +kernel
theorem D_257_12 : decode J_257.2.2.1 12 = .ok (.invokevirtual 741, 3) := by decide +kernel
theorem D_257_15 : decode J_257.2.2.1 15 = .ok (.aload_n 0, 1) := by decide +kernel
theorem D_257_16 : decode J_257.2.2.1 16 = .ok (.iload_n 1, 1) := by decide +kernel
theorem D_257_17 : decode J_257.2.2.1 17 = .ok (.invokevirtual 732, 3) := by decide +kernel
theorem D_257_20 : decode J_257.2.2.1 20 = .ok (.istore_n 2, 1) := by decide +kernel
theorem D_257_21 : decode J_257.2.2.1 21 = .ok (.iload_n 2, 1) := by decide +kernel
theorem D_257_22 : decode J_257.2.2.1 22 = .ok (.ifCond .ge 5, 3) := by decide +kernel
theorem D_257_25 : decode J_257.2.2.1 25 = .ok (.iconst (-1), 1) := by decide +kernel
theorem D_257_26 : decode J_257.2.2.1 26 = .ok (.ireturn, 1) := by decide +kernel
theorem D_257_27 : decode J_257.2.2.1 27 = .ok (.aload_n 0, 1) := by decide +kernel
theorem D_257_28 : decode J_257.2.2.1 28 = .ok (.getfield 266, 3) := by decide +kernel
theorem D_257_31 : decode J_257.2.2.1 31 = .ok (.iload_n 2, 1) := by decide +kernel
theorem D_257_32 : decode J_257.2.2.1 32 = .ok (.iaload, 1) := by decide +kernel
theorem D_257_33 : decode J_257.2.2.1 33 = .ok (.istore_n 3, 1) := by decide +kernel
theorem D_257_34 : decode J_257.2.2.1 34 = .ok (.iload_n 3, 1) := by decide +kernel
theorem D_257_35 : decode J_257.2.2.1 35 = .ok (.iconst 1, 1) := by decide +kernel
theorem D_257_36 : decode J_257.2.2.1 36 = .ok (.isub, 1) := by decide +kernel
theorem D_257_37 : decode J_257.2.2.1 37 = .ok (.istore 4, 2) := by decide +kernel
theorem D_257_39 : decode J_257.2.2.1 39 = .ok (.iload 4, 2) := by decide +kernel
theorem D_257_41 : decode J_257.2.2.1 41 = .ok (.ifCond .lt 29, 3) := by decide +kernel
theorem D_257_44 : decode J_257.2.2.1 44 = .ok (.aload_n 0, 1) := by decide +kernel
theorem D_257_45 : decode J_257.2.2.1 45 = .ok (.getfield 263, 3) := by decide +kernel
theorem D_257_48 : decode J_257.2.2.1 48 = .ok (.iload_n 2, 1) := by decide +kernel
theorem D_257_49 : decode J_257.2.2.1 49 = .ok (.iaload, 1) := by decide +kernel
theorem D_257_50 : decode J_257.2.2.1 50 = .ok (.istore_n 2, 1) := by decide +kernel
theorem D_257_51 : decode J_257.2.2.1 51 = .ok (.aload_n 0, 1) := by decide +kernel
theorem D_257_52 : decode J_257.2.2.1 52 = .ok (.getfield 287, 3) := by decide +kernel
theorem D_257_55 : decode J_257.2.2.1 55 = .ok (.iload 4, 2) := by decide +kernel
theorem D_257_57 : decode J_257.2.2.1 57 = .ok (.aload_n 0, 1) := by decide +kernel
theorem D_257_58 : decode J_257.2.2.1 58 = .ok (.getfield 260, 3) := by decide +kernel
theorem D_257_61 : decode J_257.2.2.1 61 = .ok (.iload_n 2, 1) := by decide +kernel
theorem D_257_62 : decode J_257.2.2.1 62 = .ok (.iaload, 1) := by decide +kernel
theorem D_257_63 : decode J_257.2.2.1 63 = .ok (.iastore, 1) := by decide +kernel
theorem D_257_64 : decode J_257.2.2.1 64 = .ok (.iinc 4 (-1), 3) := by decide +kernel
theorem D_257_67 : decode J_257.2.2.1 67 = .ok (.goto (-28), 3) := by decide +kernel
theorem D_257_70 : decode J_257.2.2.1 70 = .ok (.iload_n 3, 1) := by decide +kernel
theorem D_257_71 : decode J_257.2.2.1 71 = .ok (.iconst 1, 1) := by decide +kernel
theorem D_257_72 : decode J_257.2.2.1 72 = .ok (.isub, 1) := by decide +kernel
theorem D_257_73 : decode J_257.2.2.1 73 = .ok (.istore 4, 2) := by decide +kernel
theorem D_257_75 : decode J_257.2.2.1 75 = .ok (.iload 4, 2) := by decide +kernel
theorem D_257_77 : decode J_257.2.2.1 77 = .ok (.ifCond .lt 37, 3) := by decide +kernel
theorem D_257_80 : decode J_257.2.2.1 80 = .ok (.aload_n 0, 1) := by decide +kernel
theorem D_257_81 : decode J_257.2.2.1 81 = .ok (.aload_n 0, 1) := by decide +kernel
theorem D_257_82 : decode J_257.2.2.1 82 = .ok (.getfield 287, 3) := by decide +kernel
theorem D_257_85 : decode J_257.2.2.1 85 = .ok (.iload 4, 2) := by decide +kernel
theorem D_257_87 : decode J_257.2.2.1 87 = .ok (.iaload, 1) := by decide +kernel
theorem D_257_88 : decode J_257.2.2.1 88 = .ok (.invokevirtual 741, 3) := by decide +kernel
theorem D_257_91 : decode J_257.2.2.1 91 = .ok (.aload_n 0, 1) := by decide +kernel
theorem D_257_92 : decode J_257.2.2.1 92 = .ok (.getfield 257, 3) := by decide +kernel
theorem D_257_95 : decode J_257.2.2.1 95 = .ok (.iload_n 1, 1) := by decide +kernel
theorem D_257_96 : decode J_257.2.2.1 96 = .ok (.baload, 1) := by decide +kernel
theorem D_257_97 : decode J_257.2.2.1 97 = .ok (.ifCond .ne 11, 3) := by decide +kernel
theorem D_257_100 : decode J_257.2.2.1 100 = .ok (.aload_n 0, 1) := by decide +kernel
theorem D_257_101 : decode J_257.2.2.1 101 = .ok (.getfield 287, 3) := by decide +kernel
theorem D_257_104 : decode J_257.2.2.1 104 = .ok (.iload 4, 2) := by decide +kernel
theorem D_257_106 : decode J_257.2.2.1 106 = .ok (.iaload, 1) := by decide +kernel
theorem D_257_107 : decode J_257.2.2.1 107 = .ok (.ireturn, 1) := by decide +kernel
theorem D_257_108 : decode J_257.2.2.1 108 = .ok (.iinc 4 (-1), 3) := by decide +kernel
theorem D_257_111 : decode J_257.2.2.1 111 = .ok (.goto (-36), 3) := by decide +kernel
theorem D_257_114 : decode J_257.2.2.1 114 = .ok (.iconst 0, 1) := by decide +kernel
theorem D_257_115 : decode J_257.2.2.1 115 = .ok (.ireturn, 1) := by decide +kernel
def P_257_75 (X : mjX) (d C S kc ks : Nat) (k : Nat → Int32 → Int32 → mjH → mjU) : Prop := ∀ (l0 : Nat) (l1 : Int32) (l4 : Int32) (hp : mjH) (q : Option Value × mjH), k l0 l1 l4 hp = some q → mjG X d C S J_257 (mjEq q) 75 [some (.ref l0), some (.int l1), none, none, some (.int l4)] [] hp kc ks
def P_257_39 (X : mjX) (d C S kc ks : Nat) (k : Nat → Int32 → Int32 → Int32 → Int32 → mjH → mjU) : Prop := ∀ (l0 : Nat) (l1 : Int32) (l2 : Int32) (l3 : Int32) (l4 : Int32) (hp : mjH) (q : Option Value × mjH), k l0 l1 l2 l3 l4 hp = some q → mjG X d C S J_257 (mjEq q) 39 [some (.ref l0), some (.int l1), some (.int l2), some (.int l3), some (.int l4)] [] hp kc ks
def P_257_0 (X : mjX) (d C S kc ks : Nat) (k : Nat → Int32 → mjH → mjU) : Prop := ∀ (l0 : Nat) (l1 : Int32) (hp : mjH) (q : Option Value × mjH), k l0 l1 hp = some q → mjG X d C S J_257 (mjEq q) 0 [some (.ref l0), some (.int l1), none, none, none] [] hp kc ks
noncomputable def b_257_75 (R : mjR) (k75 : Nat → Int32 → Int32 → mjH → mjU) (l0 : Nat) (l1 : Int32) (l4 : Int32) (hp : mjH) : mjU := (if l4 < 0 then some (some (.int (0 : Int32)), hp) else gR hp l0 12 136 (fun v1 => aI hp v1 l4 (fun v2 => rV hp l0 12 (bN (R 254 [.ref l0, .int v2] hp) (fun  hp3 => gR hp3 l0 12 120 (fun v4 => aB hp3 v4 l1 (fun v5 => (if v5 = 0 then gR hp3 l0 12 136 (fun v6 => aI hp3 v6 l4 (fun v7 => some (some (.int v7), hp3))) else k75 l0 l1 (l4 + (-1 : Int32)) hp3))))))))
theorem t_257_75 {X : mjX} {d C S kc ks : Nat} {R : mjR} (hR : mjC R d) (h1 : kc ≤ C) (h2 : ks ≤ S) {k75 : Nat → Int32 → Int32 → mjH → mjU} (hk75 : P_257_75 X (d + 1) C S kc ks k75) : P_257_75 X (d + 1) C S kc ks (b_257_75 R k75) := by
  intro l0 l1 l4 hp q h
  unfold b_257_75 at h
  refine mjr_iload (x := l4) D_257_75 rfl ?_
  refine mjq_if_lt (tgt := 114) D_257_77 rfl h (fun h => ?_) (fun h => ?_)
  · refine mjq_ic (v := (0 : Int32)) D_257_114 rfl ?_
    exact mjq_ret D_257_115 rfl h1 h2 h
  · refine mjr_aload_n (x := l0) D_257_80 rfl ?_
    refine mjr_aload_n (x := l0) D_257_81 rfl ?_
    refine mjq_gR D_257_82 fr_12_287 h (fun v1 h => ?_)
    refine mjr_iload (x := l4) D_257_85 rfl ?_
    refine mjq_aI D_257_87 h (fun v2 h => ?_)
    refine mjq_vN (As := [.int v2]) (rest := []) D_257_88 mr_12_741 V_254 rfl rfl rfl hR (Nat.le_refl _) h1 h2 h (fun  hp3 h => ?_)
    refine mjr_aload_n (x := l0) D_257_91 rfl ?_
    refine mjq_gR D_257_92 fr_12_257 h (fun v4 h => ?_)
    refine mjr_iload_n (x := l1) D_257_95 rfl ?_
    refine mjq_aB D_257_96 h (fun v5 h => ?_)
    refine mjq_if_ne (tgt := 108) D_257_97 rfl h (fun h => ?_) (fun h => ?_)
    · refine mjq_iinc (x := l4) (c := (-1 : Int32)) (lo' := [some (.ref l0), some (.int l1), none, none, some (.int (l4 + (-1 : Int32)))]) D_257_108 rfl (Nat.le_of_ble_eq_true rfl) rfl rfl ?_
      refine mjr_goto (tgt := 75) D_257_111 rfl ?_
      exact hk75 _ _ _ _ _ h
    · refine mjr_aload_n (x := l0) D_257_100 rfl ?_
      refine mjq_gR D_257_101 fr_12_287 h (fun v6 h => ?_)
      refine mjr_iload (x := l4) D_257_104 rfl ?_
      refine mjq_aI D_257_106 h (fun v7 h => ?_)
      exact mjq_ret D_257_107 rfl h1 h2 h
noncomputable def L_257_75 (R : mjR) (n : Nat) : Nat → Int32 → Int32 → mjH → mjU := Nat.rec (motive := fun _ => Nat → Int32 → Int32 → mjH → mjU) (fun _ _ _ _ => none) (fun _ self => b_257_75 R self) n
theorem T_257_75 {X : mjX} {d C S kc ks : Nat} {R : mjR} (hR : mjC R d) (h1 : kc ≤ C) (h2 : ks ≤ S) (n : Nat) : P_257_75 X (d + 1) C S kc ks (L_257_75 R n) := by
  induction n with
  | zero => intro _ _ _ _ _ h; exact mj_no h
  | succ n ih => exact t_257_75 hR h1 h2 ih
noncomputable def b_257_39 (R : mjR) (k39 : Nat → Int32 → Int32 → Int32 → Int32 → mjH → mjU) (l0 : Nat) (l1 : Int32) (l2 : Int32) (l3 : Int32) (l4 : Int32) (hp : mjH) : mjU := (if l4 < 0 then L_257_75 R mjN l0 l1 (l3 - (1 : Int32)) hp else gR hp l0 12 122 (fun v1 => aI hp v1 l2 (fun v2 => gR hp l0 12 136 (fun v3 => gR hp l0 12 121 (fun v4 => aI hp v4 v2 (fun v5 => sI hp v3 l4 v5 (fun hp6 => k39 l0 l1 v2 l3 (l4 + (-1 : Int32)) hp6)))))))
theorem t_257_39 {X : mjX} {d C S kc ks : Nat} {R : mjR} (hR : mjC R d) (h1 : kc ≤ C) (h2 : ks ≤ S) {k39 : Nat → Int32 → Int32 → Int32 → Int32 → mjH → mjU} (hk39 : P_257_39 X (d + 1) C S kc ks k39) : P_257_39 X (d + 1) C S kc ks (b_257_39 R k39) := by
  intro l0 l1 l2 l3 l4 hp q h
  unfold b_257_39 at h
  refine mjr_iload (x := l4) D_257_39 rfl ?_
  refine mjq_if_lt (tgt := 70) D_257_41 rfl h (fun h => ?_) (fun h => ?_)
  · refine mjr_iload_n (x := l3) D_257_70 rfl ?_
    refine mjq_ic (v := (1 : Int32)) D_257_71 rfl ?_
    refine mjr_isub D_257_72 ?_
    refine mjq_istore (lo' := [some (.ref l0), some (.int l1), some (.int l2), some (.int l3), some (.int (l3 - (1 : Int32)))]) D_257_73 (Nat.le_of_ble_eq_true rfl) rfl ?_
    exact mjG.fg (lo' := [some (.ref l0), some (.int l1), none, none, some (.int (l3 - (1 : Int32)))]) (And.intro rfl (And.intro rfl (And.intro rfl True.intro))) ((T_257_75 hR h1 h2 mjN) _ _ _ _ _ h)
  · refine mjr_aload_n (x := l0) D_257_44 rfl ?_
    refine mjq_gR D_257_45 fr_12_263 h (fun v1 h => ?_)
    refine mjr_iload_n (x := l2) D_257_48 rfl ?_
    refine mjq_aI D_257_49 h (fun v2 h => ?_)
    refine mjq_istore_n (lo' := [some (.ref l0), some (.int l1), some (.int v2), some (.int l3), some (.int l4)]) D_257_50 (Nat.le_of_ble_eq_true rfl) rfl ?_
    refine mjr_aload_n (x := l0) D_257_51 rfl ?_
    refine mjq_gR D_257_52 fr_12_287 h (fun v3 h => ?_)
    refine mjr_iload (x := l4) D_257_55 rfl ?_
    refine mjr_aload_n (x := l0) D_257_57 rfl ?_
    refine mjq_gR D_257_58 fr_12_260 h (fun v4 h => ?_)
    refine mjr_iload_n (x := v2) D_257_61 rfl ?_
    refine mjq_aI D_257_62 h (fun v5 h => ?_)
    refine mjq_sI D_257_63 h (fun hp6 h => ?_)
    refine mjq_iinc (x := l4) (c := (-1 : Int32)) (lo' := [some (.ref l0), some (.int l1), some (.int v2), some (.int l3), some (.int (l4 + (-1 : Int32)))]) D_257_64 rfl (Nat.le_of_ble_eq_true rfl) rfl rfl ?_
    refine mjr_goto (tgt := 39) D_257_67 rfl ?_
    exact hk39 _ _ _ _ _ _ _ h
noncomputable def L_257_39 (R : mjR) (n : Nat) : Nat → Int32 → Int32 → Int32 → Int32 → mjH → mjU := Nat.rec (motive := fun _ => Nat → Int32 → Int32 → Int32 → Int32 → mjH → mjU) (fun _ _ _ _ _ _ => none) (fun _ self => b_257_39 R self) n
theorem T_257_39 {X : mjX} {d C S kc ks : Nat} {R : mjR} (hR : mjC R d) (h1 : kc ≤ C) (h2 : ks ≤ S) (n : Nat) : P_257_39 X (d + 1) C S kc ks (L_257_39 R n) := by
  induction n with
  | zero => intro _ _ _ _ _ _ _ h; exact mj_no h
  | succ n ih => exact t_257_39 hR h1 h2 ih
noncomputable def b_257_0 (R : mjR) (l0 : Nat) (l1 : Int32) (hp : mjH) : mjU := rV hp l0 12 (bI (R 246 [.ref l0, .int l1] hp) (fun v1 hp2 => (if v1 = 0 then some (some (.int (-1 : Int32)), hp2) else rV hp2 l0 12 (bN (R 254 [.ref l0, .int (0 : Int32)] hp2) (fun  hp3 => rV hp3 l0 12 (bI (R 250 [.ref l0, .int l1] hp3) (fun v4 hp5 => (if 0 ≤ v4 then gR hp5 l0 12 123 (fun v6 => aI hp5 v6 v4 (fun v7 => L_257_39 R mjN l0 l1 v4 v7 (v7 - (1 : Int32)) hp5)) else some (some (.int (-1 : Int32)), hp5)))))))))
theorem t_257_0 {X : mjX} {d C S kc ks : Nat} {R : mjR} (hR : mjC R d) (h1 : kc ≤ C) (h2 : ks ≤ S) : P_257_0 X (d + 1) C S kc ks (b_257_0 R) := by
  intro l0 l1 hp q h
  unfold b_257_0 at h
  refine mjr_aload_n (x := l0) D_257_0 rfl ?_
  refine mjr_iload_n (x := l1) D_257_1 rfl ?_
  refine mjq_vI (As := [.int l1]) (rest := []) D_257_2 mr_12_729 V_246 rfl rfl rfl hR (Nat.le_refl _) h1 h2 h (fun v1 hp2 h => ?_)
  refine mjq_if_ne (tgt := 10) D_257_5 rfl h (fun h => ?_) (fun h => ?_)
  · refine mjr_aload_n (x := l0) D_257_10 rfl ?_
    refine mjq_ic (v := (0 : Int32)) D_257_11 rfl ?_
    refine mjq_vN (As := [.int (0 : Int32)]) (rest := []) D_257_12 mr_12_741 V_254 rfl rfl rfl hR (Nat.le_refl _) h1 h2 h (fun  hp3 h => ?_)
    refine mjr_aload_n (x := l0) D_257_15 rfl ?_
    refine mjr_iload_n (x := l1) D_257_16 rfl ?_
    refine mjq_vI (As := [.int l1]) (rest := []) D_257_17 mr_12_732 V_250 rfl rfl rfl hR (Nat.le_refl _) h1 h2 h (fun v4 hp5 h => ?_)
    refine mjq_istore_n (lo' := [some (.ref l0), some (.int l1), some (.int v4), none, none]) D_257_20 (Nat.le_of_ble_eq_true rfl) rfl ?_
    refine mjr_iload_n (x := v4) D_257_21 rfl ?_
    refine mjq_if_ge (tgt := 27) D_257_22 rfl h (fun h => ?_) (fun h => ?_)
    · refine mjr_aload_n (x := l0) D_257_27 rfl ?_
      refine mjq_gR D_257_28 fr_12_266 h (fun v6 h => ?_)
      refine mjr_iload_n (x := v4) D_257_31 rfl ?_
      refine mjq_aI D_257_32 h (fun v7 h => ?_)
      refine mjq_istore_n (lo' := [some (.ref l0), some (.int l1), some (.int v4), some (.int v7), none]) D_257_33 (Nat.le_of_ble_eq_true rfl) rfl ?_
      refine mjr_iload_n (x := v7) D_257_34 rfl ?_
      refine mjq_ic (v := (1 : Int32)) D_257_35 rfl ?_
      refine mjr_isub D_257_36 ?_
      refine mjq_istore (lo' := [some (.ref l0), some (.int l1), some (.int v4), some (.int v7), some (.int (v7 - (1 : Int32)))]) D_257_37 (Nat.le_of_ble_eq_true rfl) rfl ?_
      exact (T_257_39 hR h1 h2 mjN) _ _ _ _ _ _ _ h
    · refine mjq_ic (v := (-1 : Int32)) D_257_25 rfl ?_
      exact mjq_ret D_257_26 rfl h1 h2 h
  · refine mjq_ic (v := (-1 : Int32)) D_257_8 rfl ?_
    exact mjq_ret D_257_9 rfl h1 h2 h
noncomputable def f_257 (R : mjR) (a0 : Nat) (a1 : Int32) (hp : mjH) : mjU := b_257_0 R a0 a1 hp
theorem c_257 {R : mjR} {d : Nat} (hR : mjC R d) {a0 : Nat} {a1 : Int32} {hp : mjH} {q : Option Value × mjH} (h : f_257 R a0 a1 hp = some q) : mjM (d + 1) 0 0 257 [.ref a0, .int a1] hp (mjEq q) :=
  mjM_of Ja_257 (Nat.le_of_ble_eq_true rfl) (mjG.fg (lo' := [some (.ref a0), some (.int a1), none, none, none]) (And.intro rfl (And.intro rfl True.intro)) ((t_257_0 hR (Nat.le_refl 0) (Nat.le_refl 0)) a0 a1 hp q h))
def J_258 : mjI := (⟨"OwnerHeapModel", "feed", "(IIIII)I"⟩, 12, prog_14_method_109_code, 6, (some .int), 5, false)
theorem Ja_258 : mjMt 258 = some J_258 := by rfl
theorem D_258_0 : decode J_258.2.2.1 0 = .ok (.aload_n 0, 1) := by decide +kernel
theorem D_258_1 : decode J_258.2.2.1 1 = .ok (.getfield 744, 3) := by decide +kernel
theorem D_258_4 : decode J_258.2.2.1 4 = .ok (.bipush 20, 2) := by decide +kernel
theorem D_258_6 : decode J_258.2.2.1 6 = .ok (.iadd, 1) := by decide +kernel
theorem D_258_7 : decode J_258.2.2.1 7 = .ok (.sipush 3000, 3) := by decide +kernel
theorem D_258_10 : decode J_258.2.2.1 10 = .ok (.if_icmp .le 5, 3) := by decide +kernel
theorem D_258_13 : decode J_258.2.2.1 13 = .ok (.iconst (-1), 1) := by decide +kernel
theorem D_258_14 : decode J_258.2.2.1 14 = .ok (.ireturn, 1) := by decide +kernel
theorem D_258_15 : decode J_258.2.2.1 15 = .ok (.aload_n 0, 1) := by decide +kernel
theorem D_258_16 : decode J_258.2.2.1 16 = .ok (.iload_n 1, 1) := by decide +kernel
theorem D_258_17 : decode J_258.2.2.1 17 = .ok (.invokevirtual 747, 3) := by decide +kernel
theorem D_258_20 : decode J_258.2.2.1 20 = .ok (.aload_n 0, 1) := by decide +kernel
theorem D_258_21 : decode J_258.2.2.1 21 = .ok (.iload_n 2, 1) := by decide +kernel
theorem D_258_22 : decode J_258.2.2.1 22 = .ok (.invokevirtual 747, 3) := by decide +kernel
theorem D_258_25 : decode J_258.2.2.1 25 = .ok (.aload_n 0, 1) := by decide +kernel
theorem D_258_26 : decode J_258.2.2.1 26 = .ok (.iload_n 3, 1) := by decide +kernel
theorem D_258_27 : decode J_258.2.2.1 27 = .ok (.invokevirtual 747, 3) := by decide +kernel
theorem D_258_30 : decode J_258.2.2.1 30 = .ok (.aload_n 0, 1) := by decide +kernel
theorem D_258_31 : decode J_258.2.2.1 31 = .ok (.iload 4, 2) := by decide +kernel
theorem D_258_33 : decode J_258.2.2.1 33 = .ok (.invokevirtual 747, 3) := by decide +kernel
theorem D_258_36 : decode J_258.2.2.1 36 = .ok (.aload_n 0, 1) := by decide +kernel
theorem D_258_37 : decode J_258.2.2.1 37 = .ok (.iload 5, 2) := by decide +kernel
theorem D_258_39 : decode J_258.2.2.1 39 = .ok (.invokevirtual 747, 3) := by decide +kernel
theorem D_258_42 : decode J_258.2.2.1 42 = .ok (.aload_n 0, 1) := by decide +kernel
theorem D_258_43 : decode J_258.2.2.1 43 = .ok (.getfield 744, 3) := by decide +kernel
theorem D_258_46 : decode J_258.2.2.1 46 = .ok (.ireturn, 1) := by decide +kernel
def P_258_0 (X : mjX) (d C S kc ks : Nat) (k : Nat → Int32 → Int32 → Int32 → Int32 → Int32 → mjH → mjU) : Prop := ∀ (l0 : Nat) (l1 : Int32) (l2 : Int32) (l3 : Int32) (l4 : Int32) (l5 : Int32) (hp : mjH) (q : Option Value × mjH), k l0 l1 l2 l3 l4 l5 hp = some q → mjG X d C S J_258 (mjEq q) 0 [some (.ref l0), some (.int l1), some (.int l2), some (.int l3), some (.int l4), some (.int l5)] [] hp kc ks
noncomputable def b_258_0 (R : mjR) (l0 : Nat) (l1 : Int32) (l2 : Int32) (l3 : Int32) (l4 : Int32) (l5 : Int32) (hp : mjH) : mjU := gI hp l0 12 1 (fun v1 => (if (v1 + (20 : Int32)) ≤ (3000 : Int32) then rV hp l0 12 (bN (R 259 [.ref l0, .int l1] hp) (fun  hp2 => rV hp2 l0 12 (bN (R 259 [.ref l0, .int l2] hp2) (fun  hp3 => rV hp3 l0 12 (bN (R 259 [.ref l0, .int l3] hp3) (fun  hp4 => rV hp4 l0 12 (bN (R 259 [.ref l0, .int l4] hp4) (fun  hp5 => rV hp5 l0 12 (bN (R 259 [.ref l0, .int l5] hp5) (fun  hp6 => gI hp6 l0 12 1 (fun v7 => some (some (.int v7), hp6)))))))))))) else some (some (.int (-1 : Int32)), hp)))
theorem t_258_0 {X : mjX} {d C S kc ks : Nat} {R : mjR} (hR : mjC R d) (h1 : kc ≤ C) (h2 : ks ≤ S) : P_258_0 X (d + 1) C S kc ks (b_258_0 R) := by
  intro l0 l1 l2 l3 l4 l5 hp q h
  unfold b_258_0 at h
  refine mjr_aload_n (x := l0) D_258_0 rfl ?_
  refine mjq_gI D_258_1 fr_12_744 h (fun v1 h => ?_)
  refine mjq_bi (v := (20 : Int32)) D_258_4 rfl ?_
  refine mjr_iadd D_258_6 ?_
  refine mjq_si (v := (3000 : Int32)) D_258_7 rfl ?_
  refine mjq_icmp_le (tgt := 15) D_258_10 rfl h (fun h => ?_) (fun h => ?_)
  · refine mjr_aload_n (x := l0) D_258_15 rfl ?_
    refine mjr_iload_n (x := l1) D_258_16 rfl ?_
    refine mjq_vN (As := [.int l1]) (rest := []) D_258_17 mr_12_747 V_259 rfl rfl rfl hR (Nat.le_refl _) h1 h2 h (fun  hp2 h => ?_)
    refine mjr_aload_n (x := l0) D_258_20 rfl ?_
    refine mjr_iload_n (x := l2) D_258_21 rfl ?_
    refine mjq_vN (As := [.int l2]) (rest := []) D_258_22 mr_12_747 V_259 rfl rfl rfl hR (Nat.le_refl _) h1 h2 h (fun  hp3 h => ?_)
    refine mjr_aload_n (x := l0) D_258_25 rfl ?_
    refine mjr_iload_n (x := l3) D_258_26 rfl ?_
    refine mjq_vN (As := [.int l3]) (rest := []) D_258_27 mr_12_747 V_259 rfl rfl rfl hR (Nat.le_refl _) h1 h2 h (fun  hp4 h => ?_)
    refine mjr_aload_n (x := l0) D_258_30 rfl ?_
    refine mjr_iload (x := l4) D_258_31 rfl ?_
    refine mjq_vN (As := [.int l4]) (rest := []) D_258_33 mr_12_747 V_259 rfl rfl rfl hR (Nat.le_refl _) h1 h2 h (fun  hp5 h => ?_)
    refine mjr_aload_n (x := l0) D_258_36 rfl ?_
    refine mjr_iload (x := l5) D_258_37 rfl ?_
    refine mjq_vN (As := [.int l5]) (rest := []) D_258_39 mr_12_747 V_259 rfl rfl rfl hR (Nat.le_refl _) h1 h2 h (fun  hp6 h => ?_)
    refine mjr_aload_n (x := l0) D_258_42 rfl ?_
    refine mjq_gI D_258_43 fr_12_744 h (fun v7 h => ?_)
    exact mjq_ret D_258_46 rfl h1 h2 h
  · refine mjq_ic (v := (-1 : Int32)) D_258_13 rfl ?_
    exact mjq_ret D_258_14 rfl h1 h2 h
noncomputable def f_258 (R : mjR) (a0 : Nat) (a1 : Int32) (a2 : Int32) (a3 : Int32) (a4 : Int32) (a5 : Int32) (hp : mjH) : mjU := b_258_0 R a0 a1 a2 a3 a4 a5 hp
theorem c_258 {R : mjR} {d : Nat} (hR : mjC R d) {a0 : Nat} {a1 : Int32} {a2 : Int32} {a3 : Int32} {a4 : Int32} {a5 : Int32} {hp : mjH} {q : Option Value × mjH} (h : f_258 R a0 a1 a2 a3 a4 a5 hp = some q) : mjM (d + 1) 0 0 258 [.ref a0, .int a1, .int a2, .int a3, .int a4, .int a5] hp (mjEq q) :=
  mjM_of Ja_258 (Nat.le_of_ble_eq_true rfl) (mjG.fg (lo' := [some (.ref a0), some (.int a1), some (.int a2), some (.int a3), some (.int a4), some (.int a5)]) (And.intro rfl (And.intro rfl (And.intro rfl (And.intro rfl (And.intro rfl (And.intro rfl True.intro)))))) ((t_258_0 hR (Nat.le_refl 0) (Nat.le_refl 0)) a0 a1 a2 a3 a4 a5 hp q h))
def J_259 : mjI := (⟨"OwnerHeapModel", "lay", "(I)V"⟩, 12, prog_14_method_110_code, 3, none, 1, false)
theorem Ja_259 : mjMt 259 = some J_259 := by rfl
theorem D_259_0 : decode J_259.2.2.1 0 = .ok (.iconst 3, 1) := by decide +kernel
theorem D_259_1 : decode J_259.2.2.1 1 = .ok (.istore_n 2, 1) := by decide +kernel
theorem D_259_2 : decode J_259.2.2.1 2 = .ok (.iload_n 2, 1) := by decide +kernel
theorem D_259_3 : decode J_259.2.2.1 3 = .ok (.ifCond .lt 35, 3) := by decide +kernel
theorem D_259_6 : decode J_259.2.2.1 6 = .ok (.aload_n 0, 1) := by decide +kernel
theorem D_259_7 : decode J_259.2.2.1 7 = .ok (.getfield 7, 3) := by decide +kernel
theorem D_259_10 : decode J_259.2.2.1 10 = .ok (.aload_n 0, 1) := by decide +kernel
theorem D_259_11 : decode J_259.2.2.1 11 = .ok (.getfield 744, 3) := by decide +kernel
theorem D_259_14 : decode J_259.2.2.1 14 = .ok (.iload_n 1, 1) := by decide +kernel
theorem D_259_15 : decode J_259.2.2.1 15 = .ok (.bipush 8, 2) := by decide +kernel
theorem D_259_17 : decode J_259.2.2.1 17 = .ok (.iload_n 2, 1) := by decide +kernel
theorem D_259_18 : decode J_259.2.2.1 18 = .ok (.imul, 1) := by decide +kernel
theorem D_259_19 : decode J_259.2.2.1 19 = .ok (.ishr, 1) := by decide +kernel
theorem D_259_20 : decode J_259.2.2.1 20 = .ok (.i2b, 1) := by decide +kernel
theorem D_259_21 : decode J_259.2.2.1 21 = .ok (.bastore, 1) := by decide +kernel
theorem D_259_22 : decode J_259.2.2.1 22 = .ok (.aload_n 0, 1) := by decide +kernel
theorem D_259_23 : decode J_259.2.2.1 23 = .ok (.dup, 1) := by decide +kernel
theorem D_259_24 : decode J_259.2.2.1 24 = .ok (.getfield 744, 3) := by decide +kernel
theorem D_259_27 : decode J_259.2.2.1 27 = .ok (.iconst 1, 1) := by decide +kernel
theorem D_259_28 : decode J_259.2.2.1 28 = .ok (.iadd, 1) := by decide +kernel
theorem D_259_29 : decode J_259.2.2.1 29 = .ok (.putfield 744, 3) := by decide +kernel
theorem D_259_32 : decode J_259.2.2.1 32 = .ok (.iinc 2 (-1), 3) := by decide +kernel
theorem D_259_35 : decode J_259.2.2.1 35 = .ok (.goto (-33), 3) := by decide +kernel
theorem D_259_38 : decode J_259.2.2.1 38 = .ok (.return_, 1) := by decide +kernel
def P_259_2 (X : mjX) (d C S kc ks : Nat) (k : Nat → Int32 → Int32 → mjH → mjU) : Prop := ∀ (l0 : Nat) (l1 : Int32) (l2 : Int32) (hp : mjH) (q : Option Value × mjH), k l0 l1 l2 hp = some q → mjG X d C S J_259 (mjEq q) 2 [some (.ref l0), some (.int l1), some (.int l2)] [] hp kc ks
def P_259_0 (X : mjX) (d C S kc ks : Nat) (k : Nat → Int32 → mjH → mjU) : Prop := ∀ (l0 : Nat) (l1 : Int32) (hp : mjH) (q : Option Value × mjH), k l0 l1 hp = some q → mjG X d C S J_259 (mjEq q) 0 [some (.ref l0), some (.int l1), none] [] hp kc ks
noncomputable def b_259_2 (R : mjR) (k2 : Nat → Int32 → Int32 → mjH → mjU) (l0 : Nat) (l1 : Int32) (l2 : Int32) (hp : mjH) : mjU := (if l2 < 0 then some (none, hp) else gR hp l0 12 0 (fun v1 => gI hp l0 12 1 (fun v2 => sB hp v1 v2 ((l1 >>> (((8 : Int32) * l2) &&& 31))).toInt8.toInt32 (fun hp3 => gI hp3 l0 12 1 (fun v4 => pI hp3 l0 12 1 (v4 + (1 : Int32)) (fun hp5 => k2 l0 l1 (l2 + (-1 : Int32)) hp5))))))
theorem t_259_2 {X : mjX} {d C S kc ks : Nat} {R : mjR} (hR : mjC R d) (h1 : kc ≤ C) (h2 : ks ≤ S) {k2 : Nat → Int32 → Int32 → mjH → mjU} (hk2 : P_259_2 X (d + 1) C S kc ks k2) : P_259_2 X (d + 1) C S kc ks (b_259_2 R k2) := by
  intro l0 l1 l2 hp q h
  unfold b_259_2 at h
  refine mjr_iload_n (x := l2) D_259_2 rfl ?_
  refine mjq_if_lt (tgt := 38) D_259_3 rfl h (fun h => ?_) (fun h => ?_)
  · exact mjq_nret D_259_38 rfl h1 h2 h
  · refine mjr_aload_n (x := l0) D_259_6 rfl ?_
    refine mjq_gR D_259_7 fr_12_7 h (fun v1 h => ?_)
    refine mjr_aload_n (x := l0) D_259_10 rfl ?_
    refine mjq_gI D_259_11 fr_12_744 h (fun v2 h => ?_)
    refine mjr_iload_n (x := l1) D_259_14 rfl ?_
    refine mjq_bi (v := (8 : Int32)) D_259_15 rfl ?_
    refine mjr_iload_n (x := l2) D_259_17 rfl ?_
    refine mjr_imul D_259_18 ?_
    refine mjr_ishr D_259_19 ?_
    refine mjr_i2b D_259_20 ?_
    refine mjq_sB D_259_21 h (fun hp3 h => ?_)
    refine mjr_aload_n (x := l0) D_259_22 rfl ?_
    refine mjr_dup D_259_23 rfl ?_
    refine mjq_gI D_259_24 fr_12_744 h (fun v4 h => ?_)
    refine mjq_ic (v := (1 : Int32)) D_259_27 rfl ?_
    refine mjr_iadd D_259_28 ?_
    refine mjq_pI D_259_29 fr_12_744 rfl rfl h (fun hp5 h => ?_)
    refine mjq_iinc (x := l2) (c := (-1 : Int32)) (lo' := [some (.ref l0), some (.int l1), some (.int (l2 + (-1 : Int32)))]) D_259_32 rfl (Nat.le_of_ble_eq_true rfl) rfl rfl ?_
    refine mjr_goto (tgt := 2) D_259_35 rfl ?_
    exact hk2 _ _ _ _ _ h
noncomputable def L_259_2 (R : mjR) (n : Nat) : Nat → Int32 → Int32 → mjH → mjU := Nat.rec (motive := fun _ => Nat → Int32 → Int32 → mjH → mjU) (fun _ _ _ _ => none) (fun _ self => b_259_2 R self) n
theorem T_259_2 {X : mjX} {d C S kc ks : Nat} {R : mjR} (hR : mjC R d) (h1 : kc ≤ C) (h2 : ks ≤ S) (n : Nat) : P_259_2 X (d + 1) C S kc ks (L_259_2 R n) := by
  induction n with
  | zero => intro _ _ _ _ _ h; exact mj_no h
  | succ n ih => exact t_259_2 hR h1 h2 ih
noncomputable def b_259_0 (R : mjR) (l0 : Nat) (l1 : Int32) (hp : mjH) : mjU := L_259_2 R mjN l0 l1 (3 : Int32) hp
theorem t_259_0 {X : mjX} {d C S kc ks : Nat} {R : mjR} (hR : mjC R d) (h1 : kc ≤ C) (h2 : ks ≤ S) : P_259_0 X (d + 1) C S kc ks (b_259_0 R) := by
  intro l0 l1 hp q h
  unfold b_259_0 at h
  refine mjq_ic (v := (3 : Int32)) D_259_0 rfl ?_
  refine mjq_istore_n (lo' := [some (.ref l0), some (.int l1), some (.int (3 : Int32))]) D_259_1 (Nat.le_of_ble_eq_true rfl) rfl ?_
  exact (T_259_2 hR h1 h2 mjN) _ _ _ _ _ h
noncomputable def f_259 (R : mjR) (a0 : Nat) (a1 : Int32) (hp : mjH) : mjU := b_259_0 R a0 a1 hp
theorem c_259 {R : mjR} {d : Nat} (hR : mjC R d) {a0 : Nat} {a1 : Int32} {hp : mjH} {q : Option Value × mjH} (h : f_259 R a0 a1 hp = some q) : mjM (d + 1) 0 0 259 [.ref a0, .int a1] hp (mjEq q) :=
  mjM_of Ja_259 (Nat.le_of_ble_eq_true rfl) (mjG.fg (lo' := [some (.ref a0), some (.int a1), none]) (And.intro rfl (And.intro rfl True.intro)) ((t_259_0 hR (Nat.le_refl 0) (Nat.le_refl 0)) a0 a1 hp q h))
def J_260 : mjI := (⟨"OwnerHeapModel", "load", "(IZ)I"⟩, 12, prog_14_method_111_code, 3, (some .int), 2, false)
theorem Ja_260 : mjMt 260 = some J_260 := by rfl
theorem D_260_0 : decode J_260.2.2.1 0 = .ok (.iload_n 1, 1) := by decide +kernel
theorem D_260_1 : decode J_260.2.2.1 1 = .ok (.ifCond .lt 11, 3) := by decide +kernel
theorem D_260_4 : decode J_260.2.2.1 4 = .ok (.iload_n 1, 1) := by decide +kernel
theorem D_260_5 : decode J_260.2.2.1 5 = .ok (.aload_n 0, 1) := by decide +kernel
theorem D_260_6 : decode J_260.2.2.1 6 = .ok (.getfield 744, 3) := by decide +kernel
theorem D_260_9 : decode J_260.2.2.1 9 = .ok (.if_icmp .le 5, 3) := by decide +kernel
theorem D_260_12 : decode J_260.2.2.1 12 = .ok (.iconst (-1), 1) := by decide +kernel
theorem D_260_13 : decode J_260.2.2.1 13 = .ok (.ireturn, 1) := by decide +kernel
theorem D_260_14 : decode J_260.2.2.1 14 = .ok (.aload_n 0, 1) := by decide +kernel
theorem D_260_15 : decode J_260.2.2.1 15 = .ok (.iconst 0, 1) := by decide +kernel
theorem D_260_16 : decode J_260.2.2.1 16 = .ok (.putfield 744, 3) := by decide +kernel
theorem D_260_19 : decode J_260.2.2.1 19 = .ok (.aload_n 0, 1) := by decide +kernel
theorem D_260_20 : decode J_260.2.2.1 20 = .ok (.iload_n 1, 1) := by decide +kernel
theorem D_260_21 : decode J_260.2.2.1 21 = .ok (.putfield 304, 3) := by decide +kernel
theorem D_260_24 : decode J_260.2.2.1 24 = .ok (.aload_n 0, 1) := by decide +kernel
theorem D_260_25 : decode J_260.2.2.1 25 = .ok (.iconst 1, 1) := by decide +kernel
theorem D_260_26 : decode J_260.2.2.1 26 = .ok (.aload_n 0, 1) := by decide +kernel
theorem D_260_27 : decode J_260.2.2.1 27 = .ok (.getfield 648, 3) := by decide +kernel
theorem D_260_30 : decode J_260.2.2.1 30 = .ok (.isub, 1) := by decide +kernel
theorem D_260_31 : decode J_260.2.2.1 31 = .ok (.putfield 356, 3) := by decide +kernel
theorem D_260_34 : decode J_260.2.2.1 34 = .ok (.aload_n 0, 1) := by decide +kernel
theorem D_260_35 : decode J_260.2.2.1 35 = .ok (.iconst 0, 1) := by decide +kernel
theorem D_260_36 : decode J_260.2.2.1 36 = .ok (.putfield 333, 3) := by decide +kernel
theorem D_260_39 : decode J_260.2.2.1 39 = .ok (.aload_n 0, 1) := by decide +kernel
theorem D_260_40 : decode J_260.2.2.1 40 = .ok (.iload_n 2, 1) := by decide +kernel
theorem D_260_41 : decode J_260.2.2.1 41 = .ok (.putfield 496, 3) := by decide +kernel
theorem D_260_44 : decode J_260.2.2.1 44 = .ok (.aload_n 0, 1) := by decide +kernel
theorem D_260_45 : decode J_260.2.2.1 45 = .ok (.invokevirtual 750, 3) := by decide +kernel
theorem D_260_48 : decode J_260.2.2.1 48 = .ok (.aload_n 0, 1) := by decide +kernel
theorem D_260_49 : decode J_260.2.2.1 49 = .ok (.getfield 333, 3) := by decide +kernel
theorem D_260_52 : decode J_260.2.2.1 52 = .ok (.ifCond .ne 7, 3) := by decide +kernel
theorem D_260_55 : decode J_260.2.2.1 55 = .ok (.aload_n 0, 1) := by decide +kernel
theorem D_260_56 : decode J_260.2.2.1 56 = .ok (.invokevirtual 753, 3) := by decide +kernel
theorem D_260_59 : decode J_260.2.2.1 59 = .ok (.aload_n 0, 1) := by decide +kernel
theorem D_260_60 : decode J_260.2.2.1 60 = .ok (.aload_n 0, 1) := by decide +kernel
theorem D_260_61 : decode J_260.2.2.1 61 = .ok (.getfield 333, 3) := by decide +kernel
theorem D_260_64 : decode J_260.2.2.1 64 = .ok (.putfield 163, 3) := by decide +kernel
theorem D_260_67 : decode J_260.2.2.1 67 = .ok (.aload_n 0, 1) := by decide +kernel
theorem D_260_68 : decode J_260.2.2.1 68 = .ok (.aload_n 0, 1) := by decide +kernel
theorem D_260_69 : decode J_260.2.2.1 69 = .ok (.getfield 333, 3) := by decide +kernel
theorem D_260_72 : decode J_260.2.2.1 72 = .ok (.ifCond .ne 7, 3) := by decide +kernel
theorem D_260_75 : decode J_260.2.2.1 75 = .ok (.iconst (-1), 1) := by decide +kernel
theorem D_260_76 : decode J_260.2.2.1 76 = .ok (.goto 7, 3) := by decide +kernel
theorem D_260_79 : decode J_260.2.2.1 79 = .ok (.aload_n 0, 1) := by decide +kernel
theorem D_260_80 : decode J_260.2.2.1 80 = .ok (.getfield 336, 3) := by decide +kernel
theorem D_260_83 : decode J_260.2.2.1 83 = .ok (.putfield 167, 3) := by decide +kernel
theorem D_260_86 : decode J_260.2.2.1 86 = .ok (.aload_n 0, 1) := by decide +kernel
theorem D_260_87 : decode J_260.2.2.1 87 = .ok (.getfield 333, 3) := by decide +kernel
theorem D_260_90 : decode J_260.2.2.1 90 = .ok (.ifCond .le 8, 3) := by decide +kernel
theorem D_260_93 : decode J_260.2.2.1 93 = .ok (.aload_n 0, 1) := by decide +kernel
theorem D_260_94 : decode J_260.2.2.1 94 = .ok (.getfield 333, 3) := by decide +kernel
theorem D_260_97 : decode J_260.2.2.1 97 = .ok (.ireturn, 1) := by decide +kernel
theorem D_260_98 : decode J_260.2.2.1 98 = .ok (.aload_n 0, 1) := by decide +kernel
theorem D_260_99 : decode J_260.2.2.1 99 = .ok (.aload_n 0, 1) := by decide +kernel
theorem D_260_100 : decode J_260.2.2.1 100 = .ok (.getfield 356, 3) := by decide +kernel
theorem D_260_103 : decode J_260.2.2.1 103 = .ok (.putfield 648, 3) := by decide +kernel
theorem D_260_106 : decode J_260.2.2.1 106 = .ok (.aload_n 0, 1) := by decide +kernel
theorem D_260_107 : decode J_260.2.2.1 107 = .ok (.iconst 1, 1) := by decide +kernel
theorem D_260_108 : decode J_260.2.2.1 108 = .ok (.putfield 756, 3) := by decide +kernel
theorem D_260_111 : decode J_260.2.2.1 111 = .ok (.aload_n 0, 1) := by decide +kernel
theorem D_260_112 : decode J_260.2.2.1 112 = .ok (.iconst 0, 1) := by decide +kernel
theorem D_260_113 : decode J_260.2.2.1 113 = .ok (.putfield 636, 3) := by decide +kernel
theorem D_260_116 : decode J_260.2.2.1 116 = .ok (.aload_n 0, 1) := by decide +kernel
theorem D_260_117 : decode J_260.2.2.1 117 = .ok (.iconst 0, 1) := by decide +kernel
theorem D_260_118 : decode J_260.2.2.1 118 = .ok (.putfield 627, 3) := by decide +kernel
theorem D_260_121 : decode J_260.2.2.1 121 = .ok (.iconst 0, 1) := by decide +kernel
theorem D_260_122 : decode J_260.2.2.1 122 = .ok (.ireturn, 1) := by decide +kernel
def P_260_12 (X : mjX) (d C S kc ks : Nat) (k : mjH → mjU) : Prop := ∀  (hp : mjH) (q : Option Value × mjH), k  hp = some q → mjG X d C S J_260 (mjEq q) 12 [none, none, none] [] hp kc ks
def P_260_83 (X : mjX) (d C S kc ks : Nat) (k : Nat → Nat → Int32 → mjH → mjU) : Prop := ∀ (l0 : Nat) (s0 : Nat) (s1 : Int32) (hp : mjH) (q : Option Value × mjH), k l0 s0 s1 hp = some q → mjG X d C S J_260 (mjEq q) 83 [some (.ref l0), none, none] [.int s1, .ref s0] hp kc ks
def P_260_59 (X : mjX) (d C S kc ks : Nat) (k : Nat → mjH → mjU) : Prop := ∀ (l0 : Nat) (hp : mjH) (q : Option Value × mjH), k l0 hp = some q → mjG X d C S J_260 (mjEq q) 59 [some (.ref l0), none, none] [] hp kc ks
def P_260_0 (X : mjX) (d C S kc ks : Nat) (k : Nat → Int32 → Int32 → mjH → mjU) : Prop := ∀ (l0 : Nat) (l1 : Int32) (l2 : Int32) (hp : mjH) (q : Option Value × mjH), k l0 l1 l2 hp = some q → mjG X d C S J_260 (mjEq q) 0 [some (.ref l0), some (.int l1), some (.int l2)] [] hp kc ks
noncomputable def b_260_12 (R : mjR)  (hp : mjH) : mjU := some (some (.int (-1 : Int32)), hp)
theorem t_260_12 {X : mjX} {d C S kc ks : Nat} {R : mjR} (hR : mjC R d) (h1 : kc ≤ C) (h2 : ks ≤ S) : P_260_12 X (d + 1) C S kc ks (b_260_12 R) := by
  intro  hp q h
  unfold b_260_12 at h
  refine mjq_ic (v := (-1 : Int32)) D_260_12 rfl ?_
  exact mjq_ret D_260_13 rfl h1 h2 h
noncomputable def b_260_83 (R : mjR) (l0 : Nat) (s0 : Nat) (s1 : Int32) (hp : mjH) : mjU := pI hp s0 12 60 s1 (fun hp1 => gI hp1 l0 12 61 (fun v2 => (if v2 ≤ 0 then gI hp1 l0 12 63 (fun v3 => pI hp1 l0 12 9 v3 (fun hp4 => pZ hp4 l0 12 10 (1 : Int32) (fun hp5 => pI hp5 l0 12 96 (0 : Int32) (fun hp6 => pI hp6 l0 12 116 (0 : Int32) (fun hp7 => some (some (.int (0 : Int32)), hp7)))))) else gI hp1 l0 12 61 (fun v8 => some (some (.int v8), hp1)))))
theorem t_260_83 {X : mjX} {d C S kc ks : Nat} {R : mjR} (hR : mjC R d) (h1 : kc ≤ C) (h2 : ks ≤ S) : P_260_83 X (d + 1) C S kc ks (b_260_83 R) := by
  intro l0 s0 s1 hp q h
  unfold b_260_83 at h
  refine mjq_pI D_260_83 fr_12_167 rfl rfl h (fun hp1 h => ?_)
  refine mjr_aload_n (x := l0) D_260_86 rfl ?_
  refine mjq_gI D_260_87 fr_12_333 h (fun v2 h => ?_)
  refine mjq_if_le (tgt := 98) D_260_90 rfl h (fun h => ?_) (fun h => ?_)
  · refine mjr_aload_n (x := l0) D_260_98 rfl ?_
    refine mjr_aload_n (x := l0) D_260_99 rfl ?_
    refine mjq_gI D_260_100 fr_12_356 h (fun v3 h => ?_)
    refine mjq_pI D_260_103 fr_12_648 rfl rfl h (fun hp4 h => ?_)
    refine mjr_aload_n (x := l0) D_260_106 rfl ?_
    refine mjq_ic (v := (1 : Int32)) D_260_107 rfl ?_
    refine mjq_pZ D_260_108 fr_12_756 rfl rfl h (fun hp5 h => ?_)
    refine mjr_aload_n (x := l0) D_260_111 rfl ?_
    refine mjq_ic (v := (0 : Int32)) D_260_112 rfl ?_
    refine mjq_pI D_260_113 fr_12_636 rfl rfl h (fun hp6 h => ?_)
    refine mjr_aload_n (x := l0) D_260_116 rfl ?_
    refine mjq_ic (v := (0 : Int32)) D_260_117 rfl ?_
    refine mjq_pI D_260_118 fr_12_627 rfl rfl h (fun hp7 h => ?_)
    refine mjq_ic (v := (0 : Int32)) D_260_121 rfl ?_
    exact mjq_ret D_260_122 rfl h1 h2 h
  · refine mjr_aload_n (x := l0) D_260_93 rfl ?_
    refine mjq_gI D_260_94 fr_12_333 h (fun v8 h => ?_)
    exact mjq_ret D_260_97 rfl h1 h2 h
noncomputable def b_260_59 (R : mjR) (l0 : Nat) (hp : mjH) : mjU := gI hp l0 12 61 (fun v1 => pI hp l0 12 59 v1 (fun hp2 => gI hp2 l0 12 61 (fun v3 => (if v3 = 0 then b_260_83 R l0 l0 (-1 : Int32) hp2 else gI hp2 l0 12 62 (fun v4 => b_260_83 R l0 l0 v4 hp2)))))
theorem t_260_59 {X : mjX} {d C S kc ks : Nat} {R : mjR} (hR : mjC R d) (h1 : kc ≤ C) (h2 : ks ≤ S) : P_260_59 X (d + 1) C S kc ks (b_260_59 R) := by
  intro l0 hp q h
  unfold b_260_59 at h
  refine mjr_aload_n (x := l0) D_260_59 rfl ?_
  refine mjr_aload_n (x := l0) D_260_60 rfl ?_
  refine mjq_gI D_260_61 fr_12_333 h (fun v1 h => ?_)
  refine mjq_pI D_260_64 fr_12_163 rfl rfl h (fun hp2 h => ?_)
  refine mjr_aload_n (x := l0) D_260_67 rfl ?_
  refine mjr_aload_n (x := l0) D_260_68 rfl ?_
  refine mjq_gI D_260_69 fr_12_333 h (fun v3 h => ?_)
  refine mjq_if_ne (tgt := 79) D_260_72 rfl h (fun h => ?_) (fun h => ?_)
  · refine mjr_aload_n (x := l0) D_260_79 rfl ?_
    refine mjq_gI D_260_80 fr_12_336 h (fun v4 h => ?_)
    exact (t_260_83 hR h1 h2) _ _ _ _ _ h
  · refine mjq_ic (v := (-1 : Int32)) D_260_75 rfl ?_
    refine mjr_goto (tgt := 83) D_260_76 rfl ?_
    exact (t_260_83 hR h1 h2) _ _ _ _ _ h
noncomputable def b_260_0 (R : mjR) (l0 : Nat) (l1 : Int32) (l2 : Int32) (hp : mjH) : mjU := (if l1 < 0 then b_260_12 R hp else gI hp l0 12 1 (fun v1 => (if l1 ≤ v1 then pI hp l0 12 1 (0 : Int32) (fun hp2 => pI hp2 l0 12 2 l1 (fun hp3 => gI hp3 l0 12 9 (fun v4 => pI hp3 l0 12 63 ((1 : Int32) - v4) (fun hp5 => pI hp5 l0 12 61 (0 : Int32) (fun hp6 => pZ hp6 l0 12 129 l2 (fun hp7 => rV hp7 l0 12 (bN (R 261 [.ref l0] hp7) (fun  hp8 => gI hp8 l0 12 61 (fun v9 => (if v9 = 0 then rV hp8 l0 12 (bN (R 299 [.ref l0] hp8) (fun  hp10 => b_260_59 R l0 hp10)) else b_260_59 R l0 hp8)))))))))) else b_260_12 R hp)))
theorem t_260_0 {X : mjX} {d C S kc ks : Nat} {R : mjR} (hR : mjC R d) (h1 : kc ≤ C) (h2 : ks ≤ S) : P_260_0 X (d + 1) C S kc ks (b_260_0 R) := by
  intro l0 l1 l2 hp q h
  unfold b_260_0 at h
  refine mjr_iload_n (x := l1) D_260_0 rfl ?_
  refine mjq_if_lt (tgt := 12) D_260_1 rfl h (fun h => ?_) (fun h => ?_)
  · exact mjG.fg (lo' := [none, none, none]) True.intro ((t_260_12 hR h1 h2) _ _ h)
  · refine mjr_iload_n (x := l1) D_260_4 rfl ?_
    refine mjr_aload_n (x := l0) D_260_5 rfl ?_
    refine mjq_gI D_260_6 fr_12_744 h (fun v1 h => ?_)
    refine mjq_icmp_le (tgt := 14) D_260_9 rfl h (fun h => ?_) (fun h => ?_)
    · refine mjr_aload_n (x := l0) D_260_14 rfl ?_
      refine mjq_ic (v := (0 : Int32)) D_260_15 rfl ?_
      refine mjq_pI D_260_16 fr_12_744 rfl rfl h (fun hp2 h => ?_)
      refine mjr_aload_n (x := l0) D_260_19 rfl ?_
      refine mjr_iload_n (x := l1) D_260_20 rfl ?_
      refine mjq_pI D_260_21 fr_12_304 rfl rfl h (fun hp3 h => ?_)
      refine mjr_aload_n (x := l0) D_260_24 rfl ?_
      refine mjq_ic (v := (1 : Int32)) D_260_25 rfl ?_
      refine mjr_aload_n (x := l0) D_260_26 rfl ?_
      refine mjq_gI D_260_27 fr_12_648 h (fun v4 h => ?_)
      refine mjr_isub D_260_30 ?_
      refine mjq_pI D_260_31 fr_12_356 rfl rfl h (fun hp5 h => ?_)
      refine mjr_aload_n (x := l0) D_260_34 rfl ?_
      refine mjq_ic (v := (0 : Int32)) D_260_35 rfl ?_
      refine mjq_pI D_260_36 fr_12_333 rfl rfl h (fun hp6 h => ?_)
      refine mjr_aload_n (x := l0) D_260_39 rfl ?_
      refine mjr_iload_n (x := l2) D_260_40 rfl ?_
      refine mjq_pZ D_260_41 fr_12_496 rfl rfl h (fun hp7 h => ?_)
      refine mjr_aload_n (x := l0) D_260_44 rfl ?_
      refine mjq_vN (As := []) (rest := []) D_260_45 mr_12_750 V_261 rfl rfl rfl hR (Nat.le_refl _) h1 h2 h (fun  hp8 h => ?_)
      refine mjr_aload_n (x := l0) D_260_48 rfl ?_
      refine mjq_gI D_260_49 fr_12_333 h (fun v9 h => ?_)
      refine mjq_if_ne (tgt := 59) D_260_52 rfl h (fun h => ?_) (fun h => ?_)
      · exact mjG.fg (lo' := [some (.ref l0), none, none]) (And.intro rfl True.intro) ((t_260_59 hR h1 h2) _ _ _ h)
      · refine mjr_aload_n (x := l0) D_260_55 rfl ?_
        refine mjq_vN (As := []) (rest := []) D_260_56 mr_12_753 V_299 rfl rfl rfl hR (Nat.le_refl _) h1 h2 h (fun  hp10 h => ?_)
        exact mjG.fg (lo' := [some (.ref l0), none, none]) (And.intro rfl True.intro) ((t_260_59 hR h1 h2) _ _ _ h)
    · exact mjG.fg (lo' := [none, none, none]) True.intro ((t_260_12 hR h1 h2) _ _ h)
noncomputable def f_260 (R : mjR) (a0 : Nat) (a1 : Int32) (a2 : Int32) (hp : mjH) : mjU := b_260_0 R a0 a1 a2 hp
theorem c_260 {R : mjR} {d : Nat} (hR : mjC R d) {a0 : Nat} {a1 : Int32} {a2 : Int32} {hp : mjH} {q : Option Value × mjH} (h : f_260 R a0 a1 a2 hp = some q) : mjM (d + 1) 0 0 260 [.ref a0, .int a1, .int a2] hp (mjEq q) :=
  mjM_of Ja_260 (Nat.le_of_ble_eq_true rfl) (mjG.fg (lo' := [some (.ref a0), some (.int a1), some (.int a2)]) (And.intro rfl (And.intro rfl (And.intro rfl True.intro))) ((t_260_0 hR (Nat.le_refl 0) (Nat.le_refl 0)) a0 a1 a2 hp q h))
def J_261 : mjI := (⟨"OwnerHeapModel", "readAll", "()V"⟩, 12, prog_14_method_18_code, 1, none, 0, false)
theorem Ja_261 : mjMt 261 = some J_261 := by rfl
theorem D_261_0 : decode J_261.2.2.1 0 = .ok (.aload_n 0, 1) := by decide +kernel
theorem D_261_1 : decode J_261.2.2.1 1 = .ok (.getfield 17, 3) := by decide +kernel
theorem D_261_4 : decode J_261.2.2.1 4 = .ok (.aload_n 0, 1) := by decide +kernel
theorem D_261_5 : decode J_261.2.2.1 5 = .ok (.getfield 356, 3) := by decide +kernel
theorem D_261_8 : decode J_261.2.2.1 8 = .ok (.iconst 0, 1) := by decide +kernel
theorem D_261_9 : decode J_261.2.2.1 9 = .ok (.iastore, 1) := by decide +kernel
theorem D_261_10 : decode J_261.2.2.1 10 = .ok (.aload_n 0, 1) := by decide +kernel
theorem D_261_11 : decode J_261.2.2.1 11 = .ok (.getfield 79, 3) := by decide +kernel
theorem D_261_14 : decode J_261.2.2.1 14 = .ok (.aload_n 0, 1) := by decide +kernel
theorem D_261_15 : decode J_261.2.2.1 15 = .ok (.getfield 356, 3) := by decide +kernel
theorem D_261_18 : decode J_261.2.2.1 18 = .ok (.iconst 0, 1) := by decide +kernel
theorem D_261_19 : decode J_261.2.2.1 19 = .ok (.iastore, 1) := by decide +kernel
theorem D_261_20 : decode J_261.2.2.1 20 = .ok (.aload_n 0, 1) := by decide +kernel
theorem D_261_21 : decode J_261.2.2.1 21 = .ok (.getfield 82, 3) := by decide +kernel
theorem D_261_24 : decode J_261.2.2.1 24 = .ok (.aload_n 0, 1) := by decide +kernel
theorem D_261_25 : decode J_261.2.2.1 25 = .ok (.getfield 356, 3) := by decide +kernel
theorem D_261_28 : decode J_261.2.2.1 28 = .ok (.iconst 0, 1) := by decide +kernel
theorem D_261_29 : decode J_261.2.2.1 29 = .ok (.iastore, 1) := by decide +kernel
theorem D_261_30 : decode J_261.2.2.1 30 = .ok (.aload_n 0, 1) := by decide +kernel
theorem D_261_31 : decode J_261.2.2.1 31 = .ok (.getfield 85, 3) := by decide +kernel
theorem D_261_34 : decode J_261.2.2.1 34 = .ok (.aload_n 0, 1) := by decide +kernel
theorem D_261_35 : decode J_261.2.2.1 35 = .ok (.getfield 356, 3) := by decide +kernel
theorem D_261_38 : decode J_261.2.2.1 38 = .ok (.iconst 0, 1) := by decide +kernel
theorem D_261_39 : decode J_261.2.2.1 39 = .ok (.iastore, 1) := by decide +kernel
theorem D_261_40 : decode J_261.2.2.1 40 = .ok (.aload_n 0, 1) := by decide +kernel
theorem D_261_41 : decode J_261.2.2.1 41 = .ok (.iconst 0, 1) := by decide +kernel
theorem D_261_42 : decode J_261.2.2.1 42 = .ok (.putfield 353, 3) := by decide +kernel
theorem D_261_45 : decode J_261.2.2.1 45 = .ok (.aload_n 0, 1) := by decide +kernel
theorem D_261_46 : decode J_261.2.2.1 46 = .ok (.iconst 0, 1) := by decide +kernel
theorem D_261_47 : decode J_261.2.2.1 47 = .ok (.putfield 307, 3) := by decide +kernel
theorem D_261_50 : decode J_261.2.2.1 50 = .ok (.aload_n 0, 1) := by decide +kernel
theorem D_261_51 : decode J_261.2.2.1 51 = .ok (.invokevirtual 350, 3) := by decide +kernel
theorem D_261_54 : decode J_261.2.2.1 54 = .ok (.aload_n 0, 1) := by decide +kernel
theorem D_261_55 : decode J_261.2.2.1 55 = .ok (.getfield 333, 3) := by decide +kernel
theorem D_261_58 : decode J_261.2.2.1 58 = .ok (.ifCond .ne 18, 3) := by decide +kernel
theorem D_261_61 : decode J_261.2.2.1 61 = .ok (.aload_n 0, 1) := by decide +kernel
theorem D_261_62 : decode J_261.2.2.1 62 = .ok (.iconst 1, 1) := by decide +kernel
theorem D_261_63 : decode J_261.2.2.1 63 = .ok (.invokevirtual 363, 3) := by decide +kernel
theorem D_261_66 : decode J_261.2.2.1 66 = .ok (.ifCond .eq 10, 3) := by decide +kernel
theorem D_261_69 : decode J_261.2.2.1 69 = .ok (.aload_n 0, 1) := by decide +kernel
theorem D_261_70 : decode J_261.2.2.1 70 = .ok (.invokevirtual 366, 3) := by decide +kernel
theorem D_261_73 : decode J_261.2.2.1 73 = .ok (.goto (-19), 3) := by decide +kernel
theorem D_261_76 : decode J_261.2.2.1 76 = .ok (.aload_n 0, 1) := by decide +kernel
theorem D_261_77 : decode J_261.2.2.1 77 = .ok (.getfield 333, 3) := by decide +kernel
theorem D_261_80 : decode J_261.2.2.1 80 = .ok (.ifCond .le 4, 3) := by decide +kernel
theorem D_261_83 : decode J_261.2.2.1 83 = .ok (.return_, 1) := by decide +kernel
theorem D_261_84 : decode J_261.2.2.1 84 = .ok (.aload_n 0, 1) := by decide +kernel
theorem D_261_85 : decode J_261.2.2.1 85 = .ok (.iconst 5, 1) := by decide +kernel
theorem D_261_86 : decode J_261.2.2.1 86 = .ok (.invokevirtual 363, 3) := by decide +kernel
theorem D_261_89 : decode J_261.2.2.1 89 = .ok (.ifCond .ne 8, 3) := by decide +kernel
theorem D_261_92 : decode J_261.2.2.1 92 = .ok (.aload_n 0, 1) := by decide +kernel
theorem D_261_93 : decode J_261.2.2.1 93 = .ok (.invokevirtual 347, 3) := by decide +kernel
theorem D_261_96 : decode J_261.2.2.1 96 = .ok (.return_, 1) := by decide +kernel
theorem D_261_97 : decode J_261.2.2.1 97 = .ok (.aload_n 0, 1) := by decide +kernel
theorem D_261_98 : decode J_261.2.2.1 98 = .ok (.invokevirtual 350, 3) := by decide +kernel
theorem D_261_101 : decode J_261.2.2.1 101 = .ok (.aload_n 0, 1) := by decide +kernel
theorem D_261_102 : decode J_261.2.2.1 102 = .ok (.iconst (-1), 1) := by decide +kernel
theorem D_261_103 : decode J_261.2.2.1 103 = .ok (.putfield 369, 3) := by decide +kernel
theorem D_261_106 : decode J_261.2.2.1 106 = .ok (.aload_n 0, 1) := by decide +kernel
theorem D_261_107 : decode J_261.2.2.1 107 = .ok (.iconst 0, 1) := by decide +kernel
theorem D_261_108 : decode J_261.2.2.1 108 = .ok (.putfield 372, 3) := by decide +kernel
theorem D_261_111 : decode J_261.2.2.1 111 = .ok (.aload_n 0, 1) := by decide +kernel
theorem D_261_112 : decode J_261.2.2.1 112 = .ok (.getfield 88, 3) := by decide +kernel
theorem D_261_115 : decode J_261.2.2.1 115 = .ok (.aload_n 0, 1) := by decide +kernel
theorem D_261_116 : decode J_261.2.2.1 116 = .ok (.getfield 356, 3) := by decide +kernel
theorem D_261_119 : decode J_261.2.2.1 119 = .ok (.aload_n 0, 1) := by decide +kernel
theorem D_261_120 : decode J_261.2.2.1 120 = .ok (.getfield 85, 3) := by decide +kernel
theorem D_261_123 : decode J_261.2.2.1 123 = .ok (.aload_n 0, 1) := by decide +kernel
theorem D_261_124 : decode J_261.2.2.1 124 = .ok (.getfield 356, 3) := by decide +kernel
theorem D_261_127 : decode J_261.2.2.1 127 = .ok (.iaload, 1) := by decide +kernel
theorem D_261_128 : decode J_261.2.2.1 128 = .ok (.iastore, 1) := by decide +kernel
theorem D_261_129 : decode J_261.2.2.1 129 = .ok (.aload_n 0, 1) := by decide +kernel
theorem D_261_130 : decode J_261.2.2.1 130 = .ok (.invokevirtual 375, 3) := by decide +kernel
theorem D_261_133 : decode J_261.2.2.1 133 = .ok (.aload_n 0, 1) := by decide +kernel
theorem D_261_134 : decode J_261.2.2.1 134 = .ok (.getfield 333, 3) := by decide +kernel
theorem D_261_137 : decode J_261.2.2.1 137 = .ok (.ifCond .ne 14, 3) := by decide +kernel
theorem D_261_140 : decode J_261.2.2.1 140 = .ok (.aload_n 0, 1) := by decide +kernel
theorem D_261_141 : decode J_261.2.2.1 141 = .ok (.getfield 316, 3) := by decide +kernel
theorem D_261_144 : decode J_261.2.2.1 144 = .ok (.ifCond .eq 7, 3) := by decide +kernel
theorem D_261_147 : decode J_261.2.2.1 147 = .ok (.aload_n 0, 1) := by decide +kernel
theorem D_261_148 : decode J_261.2.2.1 148 = .ok (.invokevirtual 347, 3) := by decide +kernel
theorem D_261_151 : decode J_261.2.2.1 151 = .ok (.return_, 1) := by decide +kernel
def P_261_76 (X : mjX) (d C S kc ks : Nat) (k : Nat → mjH → mjU) : Prop := ∀ (l0 : Nat) (hp : mjH) (q : Option Value × mjH), k l0 hp = some q → mjG X d C S J_261 (mjEq q) 76 [some (.ref l0)] [] hp kc ks
def P_261_54 (X : mjX) (d C S kc ks : Nat) (k : Nat → mjH → mjU) : Prop := ∀ (l0 : Nat) (hp : mjH) (q : Option Value × mjH), k l0 hp = some q → mjG X d C S J_261 (mjEq q) 54 [some (.ref l0)] [] hp kc ks
def P_261_0 (X : mjX) (d C S kc ks : Nat) (k : Nat → mjH → mjU) : Prop := ∀ (l0 : Nat) (hp : mjH) (q : Option Value × mjH), k l0 hp = some q → mjG X d C S J_261 (mjEq q) 0 [some (.ref l0)] [] hp kc ks
noncomputable def b_261_76 (R : mjR) (l0 : Nat) (hp : mjH) : mjU := gI hp l0 12 61 (fun v1 => (if v1 ≤ 0 then rV hp l0 12 (bI (R 266 [.ref l0, .int (5 : Int32)] hp) (fun v2 hp3 => (if v2 = 0 then rV hp3 l0 12 (bN (R 269 [.ref l0] hp3) (fun  hp17 => some (none, hp17))) else rV hp3 l0 12 (bN (R 262 [.ref l0] hp3) (fun  hp4 => pI hp4 l0 12 66 (-1 : Int32) (fun hp5 => pI hp5 l0 12 67 (0 : Int32) (fun hp6 => gR hp6 l0 12 34 (fun v7 => gI hp6 l0 12 63 (fun v8 => gR hp6 l0 12 33 (fun v9 => gI hp6 l0 12 63 (fun v10 => aI hp6 v9 v10 (fun v11 => sI hp6 v7 v8 v11 (fun hp12 => rV hp12 l0 12 (bN (R 279 [.ref l0] hp12) (fun  hp13 => gI hp13 l0 12 61 (fun v14 => (if v14 = 0 then gI hp13 l0 12 3 (fun v15 => (if v15 = 0 then some (none, hp13) else rV hp13 l0 12 (bN (R 269 [.ref l0] hp13) (fun  hp16 => some (none, hp16))))) else some (none, hp13)))))))))))))))))) else some (none, hp)))
theorem t_261_76 {X : mjX} {d C S kc ks : Nat} {R : mjR} (hR : mjC R d) (h1 : kc ≤ C) (h2 : ks ≤ S) : P_261_76 X (d + 1) C S kc ks (b_261_76 R) := by
  intro l0 hp q h
  unfold b_261_76 at h
  refine mjr_aload_n (x := l0) D_261_76 rfl ?_
  refine mjq_gI D_261_77 fr_12_333 h (fun v1 h => ?_)
  refine mjq_if_le (tgt := 84) D_261_80 rfl h (fun h => ?_) (fun h => ?_)
  · refine mjr_aload_n (x := l0) D_261_84 rfl ?_
    refine mjq_ic (v := (5 : Int32)) D_261_85 rfl ?_
    refine mjq_vI (As := [.int (5 : Int32)]) (rest := []) D_261_86 mr_12_363 V_266 rfl rfl rfl hR (Nat.le_refl _) h1 h2 h (fun v2 hp3 h => ?_)
    refine mjq_if_ne (tgt := 97) D_261_89 rfl h (fun h => ?_) (fun h => ?_)
    · refine mjr_aload_n (x := l0) D_261_97 rfl ?_
      refine mjq_vN (As := []) (rest := []) D_261_98 mr_12_350 V_262 rfl rfl rfl hR (Nat.le_refl _) h1 h2 h (fun  hp4 h => ?_)
      refine mjr_aload_n (x := l0) D_261_101 rfl ?_
      refine mjq_ic (v := (-1 : Int32)) D_261_102 rfl ?_
      refine mjq_pI D_261_103 fr_12_369 rfl rfl h (fun hp5 h => ?_)
      refine mjr_aload_n (x := l0) D_261_106 rfl ?_
      refine mjq_ic (v := (0 : Int32)) D_261_107 rfl ?_
      refine mjq_pI D_261_108 fr_12_372 rfl rfl h (fun hp6 h => ?_)
      refine mjr_aload_n (x := l0) D_261_111 rfl ?_
      refine mjq_gR D_261_112 fr_12_88 h (fun v7 h => ?_)
      refine mjr_aload_n (x := l0) D_261_115 rfl ?_
      refine mjq_gI D_261_116 fr_12_356 h (fun v8 h => ?_)
      refine mjr_aload_n (x := l0) D_261_119 rfl ?_
      refine mjq_gR D_261_120 fr_12_85 h (fun v9 h => ?_)
      refine mjr_aload_n (x := l0) D_261_123 rfl ?_
      refine mjq_gI D_261_124 fr_12_356 h (fun v10 h => ?_)
      refine mjq_aI D_261_127 h (fun v11 h => ?_)
      refine mjq_sI D_261_128 h (fun hp12 h => ?_)
      refine mjr_aload_n (x := l0) D_261_129 rfl ?_
      refine mjq_vN (As := []) (rest := []) D_261_130 mr_12_375 V_279 rfl rfl rfl hR (Nat.le_refl _) h1 h2 h (fun  hp13 h => ?_)
      refine mjr_aload_n (x := l0) D_261_133 rfl ?_
      refine mjq_gI D_261_134 fr_12_333 h (fun v14 h => ?_)
      refine mjq_if_ne (tgt := 151) D_261_137 rfl h (fun h => ?_) (fun h => ?_)
      · exact mjq_nret D_261_151 rfl h1 h2 h
      · refine mjr_aload_n (x := l0) D_261_140 rfl ?_
        refine mjq_gI D_261_141 fr_12_316 h (fun v15 h => ?_)
        refine mjq_if_eq (tgt := 151) D_261_144 rfl h (fun h => ?_) (fun h => ?_)
        · exact mjq_nret D_261_151 rfl h1 h2 h
        · refine mjr_aload_n (x := l0) D_261_147 rfl ?_
          refine mjq_vN (As := []) (rest := []) D_261_148 mr_12_347 V_269 rfl rfl rfl hR (Nat.le_refl _) h1 h2 h (fun  hp16 h => ?_)
          exact mjq_nret D_261_151 rfl h1 h2 h
    · refine mjr_aload_n (x := l0) D_261_92 rfl ?_
      refine mjq_vN (As := []) (rest := []) D_261_93 mr_12_347 V_269 rfl rfl rfl hR (Nat.le_refl _) h1 h2 h (fun  hp17 h => ?_)
      exact mjq_nret D_261_96 rfl h1 h2 h
  · exact mjq_nret D_261_83 rfl h1 h2 h
noncomputable def b_261_54 (R : mjR) (k54 : Nat → mjH → mjU) (l0 : Nat) (hp : mjH) : mjU := gI hp l0 12 61 (fun v1 => (if v1 = 0 then rV hp l0 12 (bI (R 266 [.ref l0, .int (1 : Int32)] hp) (fun v2 hp3 => (if v2 = 0 then b_261_76 R l0 hp3 else rV hp3 l0 12 (bN (R 267 [.ref l0] hp3) (fun  hp4 => k54 l0 hp4))))) else b_261_76 R l0 hp))
theorem t_261_54 {X : mjX} {d C S kc ks : Nat} {R : mjR} (hR : mjC R d) (h1 : kc ≤ C) (h2 : ks ≤ S) {k54 : Nat → mjH → mjU} (hk54 : P_261_54 X (d + 1) C S kc ks k54) : P_261_54 X (d + 1) C S kc ks (b_261_54 R k54) := by
  intro l0 hp q h
  unfold b_261_54 at h
  refine mjr_aload_n (x := l0) D_261_54 rfl ?_
  refine mjq_gI D_261_55 fr_12_333 h (fun v1 h => ?_)
  refine mjq_if_ne (tgt := 76) D_261_58 rfl h (fun h => ?_) (fun h => ?_)
  · exact (t_261_76 hR h1 h2) _ _ _ h
  · refine mjr_aload_n (x := l0) D_261_61 rfl ?_
    refine mjq_ic (v := (1 : Int32)) D_261_62 rfl ?_
    refine mjq_vI (As := [.int (1 : Int32)]) (rest := []) D_261_63 mr_12_363 V_266 rfl rfl rfl hR (Nat.le_refl _) h1 h2 h (fun v2 hp3 h => ?_)
    refine mjq_if_eq (tgt := 76) D_261_66 rfl h (fun h => ?_) (fun h => ?_)
    · exact (t_261_76 hR h1 h2) _ _ _ h
    · refine mjr_aload_n (x := l0) D_261_69 rfl ?_
      refine mjq_vN (As := []) (rest := []) D_261_70 mr_12_366 V_267 rfl rfl rfl hR (Nat.le_refl _) h1 h2 h (fun  hp4 h => ?_)
      refine mjr_goto (tgt := 54) D_261_73 rfl ?_
      exact hk54 _ _ _ h
noncomputable def L_261_54 (R : mjR) (n : Nat) : Nat → mjH → mjU := Nat.rec (motive := fun _ => Nat → mjH → mjU) (fun _ _ => none) (fun _ self => b_261_54 R self) n
theorem T_261_54 {X : mjX} {d C S kc ks : Nat} {R : mjR} (hR : mjC R d) (h1 : kc ≤ C) (h2 : ks ≤ S) (n : Nat) : P_261_54 X (d + 1) C S kc ks (L_261_54 R n) := by
  induction n with
  | zero => intro _ _ _ h; exact mj_no h
  | succ n ih => exact t_261_54 hR h1 h2 ih
noncomputable def b_261_0 (R : mjR) (l0 : Nat) (hp : mjH) : mjU := gR hp l0 12 11 (fun v1 => gI hp l0 12 63 (fun v2 => sI hp v1 v2 (0 : Int32) (fun hp3 => gR hp3 l0 12 31 (fun v4 => gI hp3 l0 12 63 (fun v5 => sI hp3 v4 v5 (0 : Int32) (fun hp6 => gR hp6 l0 12 32 (fun v7 => gI hp6 l0 12 63 (fun v8 => sI hp6 v7 v8 (0 : Int32) (fun hp9 => gR hp9 l0 12 33 (fun v10 => gI hp9 l0 12 63 (fun v11 => sI hp9 v10 v11 (0 : Int32) (fun hp12 => pI hp12 l0 12 64 (0 : Int32) (fun hp13 => pI hp13 l0 12 5 (0 : Int32) (fun hp14 => rV hp14 l0 12 (bN (R 262 [.ref l0] hp14) (fun  hp15 => L_261_54 R mjN l0 hp15))))))))))))))))
theorem t_261_0 {X : mjX} {d C S kc ks : Nat} {R : mjR} (hR : mjC R d) (h1 : kc ≤ C) (h2 : ks ≤ S) : P_261_0 X (d + 1) C S kc ks (b_261_0 R) := by
  intro l0 hp q h
  unfold b_261_0 at h
  refine mjr_aload_n (x := l0) D_261_0 rfl ?_
  refine mjq_gR D_261_1 fr_12_17 h (fun v1 h => ?_)
  refine mjr_aload_n (x := l0) D_261_4 rfl ?_
  refine mjq_gI D_261_5 fr_12_356 h (fun v2 h => ?_)
  refine mjq_ic (v := (0 : Int32)) D_261_8 rfl ?_
  refine mjq_sI D_261_9 h (fun hp3 h => ?_)
  refine mjr_aload_n (x := l0) D_261_10 rfl ?_
  refine mjq_gR D_261_11 fr_12_79 h (fun v4 h => ?_)
  refine mjr_aload_n (x := l0) D_261_14 rfl ?_
  refine mjq_gI D_261_15 fr_12_356 h (fun v5 h => ?_)
  refine mjq_ic (v := (0 : Int32)) D_261_18 rfl ?_
  refine mjq_sI D_261_19 h (fun hp6 h => ?_)
  refine mjr_aload_n (x := l0) D_261_20 rfl ?_
  refine mjq_gR D_261_21 fr_12_82 h (fun v7 h => ?_)
  refine mjr_aload_n (x := l0) D_261_24 rfl ?_
  refine mjq_gI D_261_25 fr_12_356 h (fun v8 h => ?_)
  refine mjq_ic (v := (0 : Int32)) D_261_28 rfl ?_
  refine mjq_sI D_261_29 h (fun hp9 h => ?_)
  refine mjr_aload_n (x := l0) D_261_30 rfl ?_
  refine mjq_gR D_261_31 fr_12_85 h (fun v10 h => ?_)
  refine mjr_aload_n (x := l0) D_261_34 rfl ?_
  refine mjq_gI D_261_35 fr_12_356 h (fun v11 h => ?_)
  refine mjq_ic (v := (0 : Int32)) D_261_38 rfl ?_
  refine mjq_sI D_261_39 h (fun hp12 h => ?_)
  refine mjr_aload_n (x := l0) D_261_40 rfl ?_
  refine mjq_ic (v := (0 : Int32)) D_261_41 rfl ?_
  refine mjq_pI D_261_42 fr_12_353 rfl rfl h (fun hp13 h => ?_)
  refine mjr_aload_n (x := l0) D_261_45 rfl ?_
  refine mjq_ic (v := (0 : Int32)) D_261_46 rfl ?_
  refine mjq_pI D_261_47 fr_12_307 rfl rfl h (fun hp14 h => ?_)
  refine mjr_aload_n (x := l0) D_261_50 rfl ?_
  refine mjq_vN (As := []) (rest := []) D_261_51 mr_12_350 V_262 rfl rfl rfl hR (Nat.le_refl _) h1 h2 h (fun  hp15 h => ?_)
  exact (T_261_54 hR h1 h2 mjN) _ _ _ h
noncomputable def f_261 (R : mjR) (a0 : Nat) (hp : mjH) : mjU := b_261_0 R a0 hp
theorem c_261 {R : mjR} {d : Nat} (hR : mjC R d) {a0 : Nat} {hp : mjH} {q : Option Value × mjH} (h : f_261 R a0 hp = some q) : mjM (d + 1) 0 0 261 [.ref a0] hp (mjEq q) :=
  mjM_of Ja_261 (Nat.le_of_ble_eq_true rfl) (mjG.fg (lo' := [some (.ref a0)]) (And.intro rfl True.intro) ((t_261_0 hR (Nat.le_refl 0) (Nat.le_refl 0)) a0 hp q h))
def J_262 : mjI := (⟨"OwnerHeapModel", "next", "()V"⟩, 12, prog_14_method_6_code, 3, none, 0, false)
theorem Ja_262 : mjMt 262 = some J_262 := by rfl
theorem D_262_0 : decode J_262.2.2.1 0 = .ok (.aload_n 0, 1) := by decide +kernel
theorem D_262_1 : decode J_262.2.2.1 1 = .ok (.aload_n 0, 1) := by decide +kernel
theorem D_262_2 : decode J_262.2.2.1 2 = .ok (.getfield 307, 3) := by decide +kernel
theorem D_262_5 : decode J_262.2.2.1 5 = .ok (.putfield 310, 3) := by decide +kernel
theorem D_262_8 : decode J_262.2.2.1 8 = .ok (.iconst 1, 1) := by decide +kernel
theorem D_262_9 : decode J_262.2.2.1 9 = .ok (.istore_n 1, 1) := by decide +kernel
theorem D_262_10 : decode J_262.2.2.1 10 = .ok (.iload_n 1, 1) := by decide +kernel
theorem D_262_11 : decode J_262.2.2.1 11 = .ok (.ifCond .eq 110, 3) := by decide +kernel
theorem D_262_14 : decode J_262.2.2.1 14 = .ok (.aload_n 0, 1) := by decide +kernel
theorem D_262_15 : decode J_262.2.2.1 15 = .ok (.aload_n 0, 1) := by decide +kernel
theorem D_262_16 : decode J_262.2.2.1 16 = .ok (.getfield 310, 3) := by decide +kernel
theorem D_262_19 : decode J_262.2.2.1 19 = .ok (.invokevirtual 313, 3) := by decide +kernel
theorem D_262_22 : decode J_262.2.2.1 22 = .ok (.istore_n 2, 1) := by decide +kernel
theorem D_262_23 : decode J_262.2.2.1 23 = .ok (.aload_n 0, 1) := by decide +kernel
theorem D_262_24 : decode J_262.2.2.1 24 = .ok (.getfield 310, 3) := by decide +kernel
theorem D_262_27 : decode J_262.2.2.1 27 = .ok (.aload_n 0, 1) := by decide +kernel
theorem D_262_28 : decode J_262.2.2.1 28 = .ok (.getfield 304, 3) := by decide +kernel
theorem D_262_31 : decode J_262.2.2.1 31 = .ok (.if_icmp .ge 25, 3) := by decide +kernel
theorem D_262_34 : decode J_262.2.2.1 34 = .ok (.iload_n 2, 1) := by decide +kernel
theorem D_262_35 : decode J_262.2.2.1 35 = .ok (.bipush 10, 2) := by decide +kernel
theorem D_262_37 : decode J_262.2.2.1 37 = .ok (.if_icmp .eq 15, 3) := by decide +kernel
theorem D_262_40 : decode J_262.2.2.1 40 = .ok (.iload_n 2, 1) := by decide +kernel
theorem D_262_41 : decode J_262.2.2.1 41 = .ok (.bipush 32, 2) := by decide +kernel
theorem D_262_43 : decode J_262.2.2.1 43 = .ok (.if_icmp .eq 9, 3) := by decide +kernel
theorem D_262_46 : decode J_262.2.2.1 46 = .ok (.iload_n 2, 1) := by decide +kernel
theorem D_262_47 : decode J_262.2.2.1 47 = .ok (.bipush 35, 2) := by decide +kernel
theorem D_262_49 : decode J_262.2.2.1 49 = .ok (.if_icmp .ne 7, 3) := by decide +kernel
theorem D_262_52 : decode J_262.2.2.1 52 = .ok (.iconst 1, 1) := by decide +kernel
theorem D_262_53 : decode J_262.2.2.1 53 = .ok (.goto 4, 3) := by decide +kernel
theorem D_262_56 : decode J_262.2.2.1 56 = .ok (.iconst 0, 1) := by decide +kernel
theorem D_262_57 : decode J_262.2.2.1 57 = .ok (.istore_n 1, 1) := by decide +kernel
theorem D_262_58 : decode J_262.2.2.1 58 = .ok (.iload_n 1, 1) := by decide +kernel
theorem D_262_59 : decode J_262.2.2.1 59 = .ok (.ifCond .ne 6, 3) := by decide +kernel
theorem D_262_62 : decode J_262.2.2.1 62 = .ok (.goto (-52), 3) := by decide +kernel
theorem D_262_65 : decode J_262.2.2.1 65 = .ok (.iload_n 2, 1) := by decide +kernel
theorem D_262_66 : decode J_262.2.2.1 66 = .ok (.bipush 35, 2) := by decide +kernel
theorem D_262_68 : decode J_262.2.2.1 68 = .ok (.if_icmp .ne 40, 3) := by decide +kernel
theorem D_262_71 : decode J_262.2.2.1 71 = .ok (.aload_n 0, 1) := by decide +kernel
theorem D_262_72 : decode J_262.2.2.1 72 = .ok (.getfield 310, 3) := by decide +kernel
theorem D_262_75 : decode J_262.2.2.1 75 = .ok (.aload_n 0, 1) := by decide +kernel
theorem D_262_76 : decode J_262.2.2.1 76 = .ok (.getfield 304, 3) := by decide +kernel
theorem D_262_79 : decode J_262.2.2.1 79 = .ok (.if_icmp .ge 39, 3) := by decide +kernel
theorem D_262_82 : decode J_262.2.2.1 82 = .ok (.aload_n 0, 1) := by decide +kernel
theorem D_262_83 : decode J_262.2.2.1 83 = .ok (.aload_n 0, 1) := by decide +kernel
theorem D_262_84 : decode J_262.2.2.1 84 = .ok (.getfield 310, 3) := by decide +kernel
theorem D_262_87 : decode J_262.2.2.1 87 = .ok (.invokevirtual 313, 3) := by decide +kernel
theorem D_262_90 : decode J_262.2.2.1 90 = .ok (.bipush 10, 2) := by decide +kernel
theorem D_262_92 : decode J_262.2.2.1 92 = .ok (.if_icmp .eq 26, 3) := by decide +kernel
theorem D_262_95 : decode J_262.2.2.1 95 = .ok (.aload_n 0, 1) := by decide +kernel
theorem D_262_96 : decode J_262.2.2.1 96 = .ok (.dup, 1) := by decide +kernel
theorem D_262_97 : decode J_262.2.2.1 97 = .ok (.getfield 310, 3) := by decide +kernel
theorem D_262_100 : decode J_262.2.2.1 100 = .ok (.iconst 1, 1) := by decide +kernel
theorem D_262_101 : decode J_262.2.2.1 101 = .ok (.iadd, 1) := by decide +kernel
theorem D_262_102 : decode J_262.2.2.1 102 = .ok (.putfield 310, 3) := by decide +kernel
theorem D_262_105 : decode J_262.2.2.1 105 = .ok (.goto (-34), 3) := by decide +kernel
theorem D_262_108 : decode J_262.2.2.1 108 = .ok (.aload_n 0, 1) := by decide +kernel
theorem D_262_109 : decode J_262.2.2.1 109 = .ok (.dup, 1) := by decide +kernel
theorem D_262_110 : decode J_262.2.2.1 110 = .ok (.getfield 310, 3) := by decide +kernel
theorem D_262_113 : decode J_262.2.2.1 113 = .ok (.iconst 1, 1) := by decide +kernel
theorem D_262_114 : decode J_262.2.2.1 114 = .ok (.iadd, 1) := by decide +kernel
theorem D_262_115 : decode J_262.2.2.1 115 = .ok (.putfield 310, 3) := by decide +kernel
theorem D_262_118 : decode J_262.2.2.1 118 = .ok (.goto (-108), 3) := by decide +kernel
theorem D_262_121 : decode J_262.2.2.1 121 = .ok (.aload_n 0, 1) := by decide +kernel
theorem D_262_122 : decode J_262.2.2.1 122 = .ok (.aload_n 0, 1) := by decide +kernel
theorem D_262_123 : decode J_262.2.2.1 123 = .ok (.getfield 310, 3) := by decide +kernel
theorem D_262_126 : decode J_262.2.2.1 126 = .ok (.putfield 307, 3) := by decide +kernel
theorem D_262_129 : decode J_262.2.2.1 129 = .ok (.aload_n 0, 1) := by decide +kernel
theorem D_262_130 : decode J_262.2.2.1 130 = .ok (.getfield 310, 3) := by decide +kernel
theorem D_262_133 : decode J_262.2.2.1 133 = .ok (.aload_n 0, 1) := by decide +kernel
theorem D_262_134 : decode J_262.2.2.1 134 = .ok (.getfield 304, 3) := by decide +kernel
theorem D_262_137 : decode J_262.2.2.1 137 = .ok (.if_icmp .lt 25, 3) := by decide +kernel
theorem D_262_140 : decode J_262.2.2.1 140 = .ok (.aload_n 0, 1) := by decide +kernel
theorem D_262_141 : decode J_262.2.2.1 141 = .ok (.iconst 0, 1) := by decide +kernel
theorem D_262_142 : decode J_262.2.2.1 142 = .ok (.putfield 316, 3) := by decide +kernel
theorem D_262_145 : decode J_262.2.2.1 145 = .ok (.aload_n 0, 1) := by decide +kernel
theorem D_262_146 : decode J_262.2.2.1 146 = .ok (.aload_n 0, 1) := by decide +kernel
theorem D_262_147 : decode J_262.2.2.1 147 = .ok (.getfield 304, 3) := by decide +kernel
theorem D_262_150 : decode J_262.2.2.1 150 = .ok (.putfield 310, 3) := by decide +kernel
theorem D_262_153 : decode J_262.2.2.1 153 = .ok (.aload_n 0, 1) := by decide +kernel
theorem D_262_154 : decode J_262.2.2.1 154 = .ok (.aload_n 0, 1) := by decide +kernel
theorem D_262_155 : decode J_262.2.2.1 155 = .ok (.getfield 304, 3) := by decide +kernel
theorem D_262_158 : decode J_262.2.2.1 158 = .ok (.putfield 307, 3) := by decide +kernel
theorem D_262_161 : decode J_262.2.2.1 161 = .ok (.return_, 1) := by decide +kernel
theorem D_262_162 : decode J_262.2.2.1 162 = .ok (.aload_n 0, 1) := by decide +kernel
theorem D_262_163 : decode J_262.2.2.1 163 = .ok (.aload_n 0, 1) := by decide +kernel
theorem D_262_164 : decode J_262.2.2.1 164 = .ok (.getfield 310, 3) := by decide +kernel
theorem D_262_167 : decode J_262.2.2.1 167 = .ok (.invokevirtual 313, 3) := by decide +kernel
theorem D_262_170 : decode J_262.2.2.1 170 = .ok (.istore_n 2, 1) := by decide +kernel
theorem D_262_171 : decode J_262.2.2.1 171 = .ok (.iload_n 2, 1) := by decide +kernel
theorem D_262_172 : decode J_262.2.2.1 172 = .ok (.bipush 48, 2) := by decide +kernel
theorem D_262_174 : decode J_262.2.2.1 174 = .ok (.if_icmp .lt 117, 3) := by decide +kernel
theorem D_262_177 : decode J_262.2.2.1 177 = .ok (.iload_n 2, 1) := by decide +kernel
theorem D_262_178 : decode J_262.2.2.1 178 = .ok (.bipush 57, 2) := by decide +kernel
theorem D_262_180 : decode J_262.2.2.1 180 = .ok (.if_icmp .gt 111, 3) := by decide +kernel
theorem D_262_183 : decode J_262.2.2.1 183 = .ok (.aload_n 0, 1) := by decide +kernel
theorem D_262_184 : decode J_262.2.2.1 184 = .ok (.iconst 0, 1) := by decide +kernel
theorem D_262_185 : decode J_262.2.2.1 185 = .ok (.putfield 319, 3) := by decide +kernel
theorem D_262_188 : decode J_262.2.2.1 188 = .ok (.aload_n 0, 1) := by decide +kernel
theorem D_262_189 : decode J_262.2.2.1 189 = .ok (.aload_n 0, 1) := by decide +kernel
theorem D_262_190 : decode J_262.2.2.1 190 = .ok (.getfield 307, 3) := by decide +kernel
theorem D_262_193 : decode J_262.2.2.1 193 = .ok (.invokevirtual 313, 3) := by decide +kernel
theorem D_262_196 : decode J_262.2.2.1 196 = .ok (.bipush 48, 2) := by decide +kernel
theorem D_262_198 : decode J_262.2.2.1 198 = .ok (.if_icmp .lt 66, 3) := by decide +kernel
theorem D_262_201 : decode J_262.2.2.1 201 = .ok (.aload_n 0, 1) := by decide +kernel
theorem D_262_202 : decode J_262.2.2.1 202 = .ok (.aload_n 0, 1) := by decide +kernel
theorem D_262_203 : decode J_262.2.2.1 203 = .ok (.getfield 307, 3) := by decide +kernel
theorem D_262_206 : decode J_262.2.2.1 206 = .ok (.invokevirtual 313, 3) := by decide +kernel
theorem D_262_209 : decode J_262.2.2.1 209 = .ok (.bipush 57, 2) := by decide +kernel
theorem D_262_211 : decode J_262.2.2.1 211 = .ok (.if_icmp .gt 53, 3) := by decide +kernel
theorem D_262_214 : decode J_262.2.2.1 214 = .ok (.aload_n 0, 1) := by decide +kernel
theorem D_262_215 : decode J_262.2.2.1 215 = .ok (.getfield 307, 3) := by decide +kernel
theorem D_262_218 : decode J_262.2.2.1 218 = .ok (.aload_n 0, 1) := by decide +kernel
theorem D_262_219 : decode J_262.2.2.1 219 = .ok (.getfield 310, 3) := by decide +kernel
theorem D_262_222 : decode J_262.2.2.1 222 = .ok (.isub, 1) := by decide +kernel
theorem D_262_223 : decode J_262.2.2.1 223 = .ok (.bipush 9, 2) := by decide +kernel
theorem D_262_225 : decode J_262.2.2.1 225 = .ok (.if_icmp .ge 26, 3) := by decide +kernel
theorem D_262_228 : decode J_262.2.2.1 228 = .ok (.aload_n 0, 1) := by decide +kernel
theorem D_262_229 : decode J_262.2.2.1 229 = .ok (.bipush 10, 2) := by decide +kernel
theorem D_262_231 : decode J_262.2.2.1 231 = .ok (.aload_n 0, 1) := by decide +kernel
theorem D_262_232 : decode J_262.2.2.1 232 = .ok (.getfield 319, 3) := by decide +kernel
theorem D_262_235 : decode J_262.2.2.1 235 = .ok (.imul, 1) := by decide +kernel
theorem D_262_236 : decode J_262.2.2.1 236 = .ok (.aload_n 0, 1) := by decide +kernel
theorem D_262_237 : decode J_262.2.2.1 237 = .ok (.aload_n 0, 1) := by decide +kernel
theorem D_262_238 : decode J_262.2.2.1 238 = .ok (.getfield 307, 3) := by decide +kernel
theorem D_262_241 : decode J_262.2.2.1 241 = .ok (.invokevirtual 313, 3) := by decide +kernel
theorem D_262_244 : decode J_262.2.2.1 244 = .ok (.iadd, 1) := by decide +kernel
theorem D_262_245 : decode J_262.2.2.1 245 = .ok (.bipush 48, 2) := by decide +kernel
theorem D_262_247 : decode J_262.2.2.1 247 = .ok (.isub, 1) := by decide +kernel
theorem D_262_248 : decode J_262.2.2.1 248 = .ok (.putfield 319, 3) := by decide +kernel
theorem D_262_251 : decode J_262.2.2.1 251 = .ok (.aload_n 0, 1) := by decide +kernel
theorem D_262_252 : decode J_262.2.2.1 252 = .ok (.dup, 1) := by decide +kernel
theorem D_262_253 : decode J_262.2.2.1 253 = .ok (.getfield 307, 3) := by decide +kernel
theorem D_262_256 : decode J_262.2.2.1 256 = .ok (.iconst 1, 1) := by decide +kernel
theorem D_262_257 : decode J_262.2.2.1 257 = .ok (.iadd, 1) := by decide +kernel
theorem D_262_258 : decode J_262.2.2.1 258 = .ok (.putfield 307, 3) := by decide +kernel
theorem D_262_261 : decode J_262.2.2.1 261 = .ok (.goto (-73), 3) := by decide +kernel
theorem D_262_264 : decode J_262.2.2.1 264 = .ok (.aload_n 0, 1) := by decide +kernel
theorem D_262_265 : decode J_262.2.2.1 265 = .ok (.aload_n 0, 1) := by decide +kernel
theorem D_262_266 : decode J_262.2.2.1 266 = .ok (.getfield 307, 3) := by decide +kernel
theorem D_262_269 : decode J_262.2.2.1 269 = .ok (.aload_n 0, 1) := by decide +kernel
theorem D_262_270 : decode J_262.2.2.1 270 = .ok (.getfield 310, 3) := by decide +kernel
theorem D_262_273 : decode J_262.2.2.1 273 = .ok (.isub, 1) := by decide +kernel
theorem D_262_274 : decode J_262.2.2.1 274 = .ok (.bipush 9, 2) := by decide +kernel
theorem D_262_276 : decode J_262.2.2.1 276 = .ok (.if_icmp .le 8, 3) := by decide +kernel
theorem D_262_279 : decode J_262.2.2.1 279 = .ok (.bipush 6, 2) := by decide +kernel
theorem D_262_281 : decode J_262.2.2.1 281 = .ok (.goto 4, 3) := by decide +kernel
theorem D_262_284 : decode J_262.2.2.1 284 = .ok (.iconst 3, 1) := by decide +kernel
theorem D_262_285 : decode J_262.2.2.1 285 = .ok (.putfield 316, 3) := by decide +kernel
theorem D_262_288 : decode J_262.2.2.1 288 = .ok (.goto 135, 3) := by decide +kernel
theorem D_262_291 : decode J_262.2.2.1 291 = .ok (.iload_n 2, 1) := by decide +kernel
theorem D_262_292 : decode J_262.2.2.1 292 = .ok (.invokestatic 294, 3) := by decide +kernel
theorem D_262_295 : decode J_262.2.2.1 295 = .ok (.ifCond .le 123, 3) := by decide +kernel
theorem D_262_298 : decode J_262.2.2.1 298 = .ok (.aload_n 0, 1) := by decide +kernel
theorem D_262_299 : decode J_262.2.2.1 299 = .ok (.lconst 0, 1) := by decide +kernel
theorem D_262_300 : decode J_262.2.2.1 300 = .ok (.putfield 322, 3) := by decide +kernel
theorem D_262_303 : decode J_262.2.2.1 303 = .ok (.aload_n 0, 1) := by decide +kernel
theorem D_262_304 : decode J_262.2.2.1 304 = .ok (.aload_n 0, 1) := by decide +kernel
theorem D_262_305 : decode J_262.2.2.1 305 = .ok (.getfield 307, 3) := by decide +kernel
theorem D_262_308 : decode J_262.2.2.1 308 = .ok (.invokevirtual 313, 3) := by decide +kernel
theorem D_262_311 : decode J_262.2.2.1 311 = .ok (.invokestatic 294, 3) := by decide +kernel
theorem D_262_314 : decode J_262.2.2.1 314 = .ok (.ifCond .le 55, 3) := by decide +kernel
theorem D_262_317 : decode J_262.2.2.1 317 = .ok (.aload_n 0, 1) := by decide +kernel
theorem D_262_318 : decode J_262.2.2.1 318 = .ok (.getfield 307, 3) := by decide +kernel
theorem D_262_321 : decode J_262.2.2.1 321 = .ok (.aload_n 0, 1) := by decide +kernel
theorem D_262_322 : decode J_262.2.2.1 322 = .ok (.getfield 310, 3) := by decide +kernel
theorem D_262_325 : decode J_262.2.2.1 325 = .ok (.isub, 1) := by decide +kernel
theorem D_262_326 : decode J_262.2.2.1 326 = .ok (.bipush 10, 2) := by decide +kernel
theorem D_262_328 : decode J_262.2.2.1 328 = .ok (.if_icmp .ge 28, 3) := by decide +kernel
theorem D_262_331 : decode J_262.2.2.1 331 = .ok (.aload_n 0, 1) := by decide +kernel
theorem D_262_332 : decode J_262.2.2.1 332 = .ok (.ldc2_w 298, 3) := by decide +kernel
theorem D_262_335 : decode J_262.2.2.1 335 = .ok (.aload_n 0, 1) := by decide +kernel
theorem D_262_336 : decode J_262.2.2.1 336 = .ok (.getfield 322, 3) := by decide +kernel
theorem D_262_339 : decode J_262.2.2.1 339 = .ok (.lmul, 1) := by decide +kernel
theorem D_262_340 : decode J_262.2.2.1 340 = .ok (.aload_n 0, 1) := by decide +kernel
theorem D_262_341 : decode J_262.2.2.1 341 = .ok (.aload_n 0, 1) := by decide +kernel
theorem D_262_342 : decode J_262.2.2.1 342 = .ok (.getfield 307, 3) := by decide +kernel
theorem D_262_345 : decode J_262.2.2.1 345 = .ok (.invokevirtual 313, 3) := by decide +kernel
theorem D_262_348 : decode J_262.2.2.1 348 = .ok (.invokestatic 294, 3) := by decide +kernel
theorem D_262_351 : decode J_262.2.2.1 351 = .ok (.i2l, 1) := by decide +kernel
theorem D_262_352 : decode J_262.2.2.1 352 = .ok (.ladd, 1) := by decide +kernel
theorem D_262_353 : decode J_262.2.2.1 353 = .ok (.putfield 322, 3) := by decide +kernel
theorem D_262_356 : decode J_262.2.2.1 356 = .ok (.aload_n 0, 1) := by decide +kernel
theorem D_262_357 : decode J_262.2.2.1 357 = .ok (.dup, 1) := by decide +kernel
theorem D_262_358 : decode J_262.2.2.1 358 = .ok (.getfield 307, 3) := by decide +kernel
theorem D_262_361 : decode J_262.2.2.1 361 = .ok (.iconst 1, 1) := by decide +kernel
theorem D_262_362 : decode J_262.2.2.1 362 = .ok (.iadd, 1) := by decide +kernel
theorem D_262_363 : decode J_262.2.2.1 363 = .ok (.putfield 307, 3) := by decide +kernel
theorem D_262_366 : decode J_262.2.2.1 366 = .ok (.goto (-63), 3) := by decide +kernel
theorem D_262_369 : decode J_262.2.2.1 369 = .ok (.aload_n 0, 1) := by decide +kernel
theorem D_262_370 : decode J_262.2.2.1 370 = .ok (.aload_n 0, 1) := by decide +kernel
theorem D_262_371 : decode J_262.2.2.1 371 = .ok (.getfield 307, 3) := by decide +kernel
theorem D_262_374 : decode J_262.2.2.1 374 = .ok (.aload_n 0, 1) := by decide +kernel
theorem D_262_375 : decode J_262.2.2.1 375 = .ok (.getfield 310, 3) := by decide +kernel
theorem D_262_378 : decode J_262.2.2.1 378 = .ok (.isub, 1) := by decide +kernel
theorem D_262_379 : decode J_262.2.2.1 379 = .ok (.bipush 10, 2) := by decide +kernel
theorem D_262_381 : decode J_262.2.2.1 381 = .ok (.if_icmp .le 8, 3) := by decide +kernel
theorem D_262_384 : decode J_262.2.2.1 384 = .ok (.bipush 6, 2) := by decide +kernel
theorem D_262_386 : decode J_262.2.2.1 386 = .ok (.goto 14, 3) := by decide +kernel
theorem D_262_389 : decode J_262.2.2.1 389 = .ok (.iload_n 2, 1) := by decide +kernel
theorem D_262_390 : decode J_262.2.2.1 390 = .ok (.bipush 90, 2) := by decide +kernel
theorem D_262_392 : decode J_262.2.2.1 392 = .ok (.if_icmp .gt 7, 3) := by decide +kernel
theorem D_262_395 : decode J_262.2.2.1 395 = .ok (.iconst 1, 1) := by decide +kernel
theorem D_262_396 : decode J_262.2.2.1 396 = .ok (.goto 4, 3) := by decide +kernel
theorem D_262_399 : decode J_262.2.2.1 399 = .ok (.iconst 2, 1) := by decide +kernel
theorem D_262_400 : decode J_262.2.2.1 400 = .ok (.putfield 316, 3) := by decide +kernel
theorem D_262_403 : decode J_262.2.2.1 403 = .ok (.aload_n 0, 1) := by decide +kernel
theorem D_262_404 : decode J_262.2.2.1 404 = .ok (.getfield 316, 3) := by decide +kernel
theorem D_262_407 : decode J_262.2.2.1 407 = .ok (.iconst 2, 1) := by decide +kernel
theorem D_262_408 : decode J_262.2.2.1 408 = .ok (.if_icmp .ne 15, 3) := by decide +kernel
theorem D_262_411 : decode J_262.2.2.1 411 = .ok (.aload_n 0, 1) := by decide +kernel
theorem D_262_412 : decode J_262.2.2.1 412 = .ok (.invokevirtual 326, 3) := by decide +kernel
theorem D_262_415 : decode J_262.2.2.1 415 = .ok (.goto 8, 3) := by decide +kernel
theorem D_262_418 : decode J_262.2.2.1 418 = .ok (.aload_n 0, 1) := by decide +kernel
theorem D_262_419 : decode J_262.2.2.1 419 = .ok (.iload_n 2, 1) := by decide +kernel
theorem D_262_420 : decode J_262.2.2.1 420 = .ok (.invokevirtual 329, 3) := by decide +kernel
theorem D_262_423 : decode J_262.2.2.1 423 = .ok (.return_, 1) := by decide +kernel
def P_262_400 (X : mjX) (d C S kc ks : Nat) (k : Nat → Nat → Int32 → mjH → mjU) : Prop := ∀ (l0 : Nat) (s0 : Nat) (s1 : Int32) (hp : mjH) (q : Option Value × mjH), k l0 s0 s1 hp = some q → mjG X d C S J_262 (mjEq q) 400 [some (.ref l0), none, none] [.int s1, .ref s0] hp kc ks
def P_262_356 (X : mjX) (d C S kc ks : Nat) (k : Nat → Int32 → mjH → mjU) : Prop := ∀ (l0 : Nat) (l2 : Int32) (hp : mjH) (q : Option Value × mjH), k l0 l2 hp = some q → mjG X d C S J_262 (mjEq q) 356 [some (.ref l0), none, some (.int l2)] [] hp kc ks
def P_262_303 (X : mjX) (d C S kc ks : Nat) (k : Nat → Int32 → mjH → mjU) : Prop := ∀ (l0 : Nat) (l2 : Int32) (hp : mjH) (q : Option Value × mjH), k l0 l2 hp = some q → mjG X d C S J_262 (mjEq q) 303 [some (.ref l0), none, some (.int l2)] [] hp kc ks
def P_262_291 (X : mjX) (d C S kc ks : Nat) (k : Nat → Int32 → mjH → mjU) : Prop := ∀ (l0 : Nat) (l2 : Int32) (hp : mjH) (q : Option Value × mjH), k l0 l2 hp = some q → mjG X d C S J_262 (mjEq q) 291 [some (.ref l0), none, some (.int l2)] [] hp kc ks
def P_262_285 (X : mjX) (d C S kc ks : Nat) (k : Nat → Int32 → mjH → mjU) : Prop := ∀ (s0 : Nat) (s1 : Int32) (hp : mjH) (q : Option Value × mjH), k s0 s1 hp = some q → mjG X d C S J_262 (mjEq q) 285 [none, none, none] [.int s1, .ref s0] hp kc ks
def P_262_264 (X : mjX) (d C S kc ks : Nat) (k : Nat → mjH → mjU) : Prop := ∀ (l0 : Nat) (hp : mjH) (q : Option Value × mjH), k l0 hp = some q → mjG X d C S J_262 (mjEq q) 264 [some (.ref l0), none, none] [] hp kc ks
def P_262_251 (X : mjX) (d C S kc ks : Nat) (k : Nat → mjH → mjU) : Prop := ∀ (l0 : Nat) (hp : mjH) (q : Option Value × mjH), k l0 hp = some q → mjG X d C S J_262 (mjEq q) 251 [some (.ref l0), none, none] [] hp kc ks
def P_262_188 (X : mjX) (d C S kc ks : Nat) (k : Nat → mjH → mjU) : Prop := ∀ (l0 : Nat) (hp : mjH) (q : Option Value × mjH), k l0 hp = some q → mjG X d C S J_262 (mjEq q) 188 [some (.ref l0), none, none] [] hp kc ks
def P_262_118 (X : mjX) (d C S kc ks : Nat) (k : Nat → Int32 → mjH → mjU) : Prop := ∀ (l0 : Nat) (l1 : Int32) (hp : mjH) (q : Option Value × mjH), k l0 l1 hp = some q → mjG X d C S J_262 (mjEq q) 118 [some (.ref l0), some (.int l1), none] [] hp kc ks
def P_262_71 (X : mjX) (d C S kc ks : Nat) (k : Nat → Int32 → mjH → mjU) : Prop := ∀ (l0 : Nat) (l1 : Int32) (hp : mjH) (q : Option Value × mjH), k l0 l1 hp = some q → mjG X d C S J_262 (mjEq q) 71 [some (.ref l0), some (.int l1), none] [] hp kc ks
def P_262_57 (X : mjX) (d C S kc ks : Nat) (k : Nat → Int32 → Int32 → mjH → mjU) : Prop := ∀ (l0 : Nat) (l2 : Int32) (s0 : Int32) (hp : mjH) (q : Option Value × mjH), k l0 l2 s0 hp = some q → mjG X d C S J_262 (mjEq q) 57 [some (.ref l0), none, some (.int l2)] [.int s0] hp kc ks
def P_262_56 (X : mjX) (d C S kc ks : Nat) (k : Nat → Int32 → mjH → mjU) : Prop := ∀ (l0 : Nat) (l2 : Int32) (hp : mjH) (q : Option Value × mjH), k l0 l2 hp = some q → mjG X d C S J_262 (mjEq q) 56 [some (.ref l0), none, some (.int l2)] [] hp kc ks
def P_262_52 (X : mjX) (d C S kc ks : Nat) (k : Nat → Int32 → mjH → mjU) : Prop := ∀ (l0 : Nat) (l2 : Int32) (hp : mjH) (q : Option Value × mjH), k l0 l2 hp = some q → mjG X d C S J_262 (mjEq q) 52 [some (.ref l0), none, some (.int l2)] [] hp kc ks
def P_262_10 (X : mjX) (d C S kc ks : Nat) (k : Nat → Int32 → mjH → mjU) : Prop := ∀ (l0 : Nat) (l1 : Int32) (hp : mjH) (q : Option Value × mjH), k l0 l1 hp = some q → mjG X d C S J_262 (mjEq q) 10 [some (.ref l0), some (.int l1), none] [] hp kc ks
def P_262_0 (X : mjX) (d C S kc ks : Nat) (k : Nat → mjH → mjU) : Prop := ∀ (l0 : Nat) (hp : mjH) (q : Option Value × mjH), k l0 hp = some q → mjG X d C S J_262 (mjEq q) 0 [some (.ref l0), none, none] [] hp kc ks
noncomputable def b_262_400 (R : mjR) (l0 : Nat) (s0 : Nat) (s1 : Int32) (hp : mjH) : mjU := pI hp s0 12 3 s1 (fun hp1 => gI hp1 l0 12 3 (fun v2 => (if v2 = (2 : Int32) then rV hp1 l0 12 (bN (R 264 [.ref l0] hp1) (fun  hp3 => some (none, hp3))) else some (none, hp1))))
theorem t_262_400 {X : mjX} {d C S kc ks : Nat} {R : mjR} (hR : mjC R d) (h1 : kc ≤ C) (h2 : ks ≤ S) : P_262_400 X (d + 1) C S kc ks (b_262_400 R) := by
  intro l0 s0 s1 hp q h
  unfold b_262_400 at h
  refine mjq_pI D_262_400 fr_12_316 rfl rfl h (fun hp1 h => ?_)
  refine mjr_aload_n (x := l0) D_262_403 rfl ?_
  refine mjq_gI D_262_404 fr_12_316 h (fun v2 h => ?_)
  refine mjq_ic (v := (2 : Int32)) D_262_407 rfl ?_
  refine mjq_icmp_ne (tgt := 423) D_262_408 rfl h (fun h => ?_) (fun h => ?_)
  · exact mjq_nret D_262_423 rfl h1 h2 h
  · refine mjr_aload_n (x := l0) D_262_411 rfl ?_
    refine mjq_vN (As := []) (rest := []) D_262_412 mr_12_326 V_264 rfl rfl rfl hR (Nat.le_refl _) h1 h2 h (fun  hp3 h => ?_)
    refine mjr_goto (tgt := 423) D_262_415 rfl ?_
    exact mjq_nret D_262_423 rfl h1 h2 h
noncomputable def b_262_356 (R : mjR) (k303 : Nat → Int32 → mjH → mjU) (l0 : Nat) (l2 : Int32) (hp : mjH) : mjU := gI hp l0 12 5 (fun v1 => pI hp l0 12 5 (v1 + (1 : Int32)) (fun hp2 => k303 l0 l2 hp2))
theorem t_262_356 {X : mjX} {d C S kc ks : Nat} {R : mjR} (hR : mjC R d) (h1 : kc ≤ C) (h2 : ks ≤ S) {k303 : Nat → Int32 → mjH → mjU} (hk303 : P_262_303 X (d + 1) C S kc ks k303) : P_262_356 X (d + 1) C S kc ks (b_262_356 R k303) := by
  intro l0 l2 hp q h
  unfold b_262_356 at h
  refine mjr_aload_n (x := l0) D_262_356 rfl ?_
  refine mjr_dup D_262_357 rfl ?_
  refine mjq_gI D_262_358 fr_12_307 h (fun v1 h => ?_)
  refine mjq_ic (v := (1 : Int32)) D_262_361 rfl ?_
  refine mjr_iadd D_262_362 ?_
  refine mjq_pI D_262_363 fr_12_307 rfl rfl h (fun hp2 h => ?_)
  refine mjr_goto (tgt := 303) D_262_366 rfl ?_
  exact hk303 _ _ _ _ h
noncomputable def b_262_303 (R : mjR) (k303 : Nat → Int32 → mjH → mjU) (l0 : Nat) (l2 : Int32) (hp : mjH) : mjU := gI hp l0 12 5 (fun v1 => rV hp l0 12 (bI (R 263 [.ref l0, .int v1] hp) (fun v2 hp3 => bI (R 228 [.int v2] hp3) (fun v4 hp5 => (if v4 ≤ 0 then gI hp5 l0 12 5 (fun v6 => gI hp5 l0 12 4 (fun v7 => (if (v6 - v7) ≤ (10 : Int32) then (if (90 : Int32) < l2 then b_262_400 R l0 l0 (2 : Int32) hp5 else b_262_400 R l0 l0 (1 : Int32) hp5) else b_262_400 R l0 l0 (6 : Int32) hp5))) else gI hp5 l0 12 5 (fun v8 => gI hp5 l0 12 4 (fun v9 => (if (10 : Int32) ≤ (v8 - v9) then b_262_356 R k303 l0 l2 hp5 else gL hp5 l0 12 7 (fun v10 => gI hp5 l0 12 5 (fun v11 => rV hp5 l0 12 (bI (R 263 [.ref l0, .int v11] hp5) (fun v12 hp13 => bI (R 228 [.int v12] hp13) (fun v14 hp15 => pL hp15 l0 12 7 (((64 : Int64) * v10) + (v14).toInt64) (fun hp16 => b_262_356 R k303 l0 l2 hp16))))))))))))))
theorem t_262_303 {X : mjX} {d C S kc ks : Nat} {R : mjR} (hR : mjC R d) (h1 : kc ≤ C) (h2 : ks ≤ S) {k303 : Nat → Int32 → mjH → mjU} (hk303 : P_262_303 X (d + 1) C S kc ks k303) : P_262_303 X (d + 1) C S kc ks (b_262_303 R k303) := by
  intro l0 l2 hp q h
  unfold b_262_303 at h
  refine mjr_aload_n (x := l0) D_262_303 rfl ?_
  refine mjr_aload_n (x := l0) D_262_304 rfl ?_
  refine mjq_gI D_262_305 fr_12_307 h (fun v1 h => ?_)
  refine mjq_vI (As := [.int v1]) (rest := []) D_262_308 mr_12_313 V_263 rfl rfl rfl hR (Nat.le_refl _) h1 h2 h (fun v2 hp3 h => ?_)
  refine mjq_scI (As := [.int v2]) (rest := []) D_262_311 mr_12_294 V_228 rfl rfl rfl hR (Nat.le_refl _) h1 h2 h (fun v4 hp5 h => ?_)
  refine mjq_if_le (tgt := 369) D_262_314 rfl h (fun h => ?_) (fun h => ?_)
  · refine mjr_aload_n (x := l0) D_262_369 rfl ?_
    refine mjr_aload_n (x := l0) D_262_370 rfl ?_
    refine mjq_gI D_262_371 fr_12_307 h (fun v6 h => ?_)
    refine mjr_aload_n (x := l0) D_262_374 rfl ?_
    refine mjq_gI D_262_375 fr_12_310 h (fun v7 h => ?_)
    refine mjr_isub D_262_378 ?_
    refine mjq_bi (v := (10 : Int32)) D_262_379 rfl ?_
    refine mjq_icmp_le (tgt := 389) D_262_381 rfl h (fun h => ?_) (fun h => ?_)
    · refine mjr_iload_n (x := l2) D_262_389 rfl ?_
      refine mjq_bi (v := (90 : Int32)) D_262_390 rfl ?_
      refine mjq_icmp_gt (tgt := 399) D_262_392 rfl h (fun h => ?_) (fun h => ?_)
      · refine mjq_ic (v := (2 : Int32)) D_262_399 rfl ?_
        exact mjG.fg (lo' := [some (.ref l0), none, none]) (And.intro rfl True.intro) ((t_262_400 hR h1 h2) _ _ _ _ _ h)
      · refine mjq_ic (v := (1 : Int32)) D_262_395 rfl ?_
        refine mjr_goto (tgt := 400) D_262_396 rfl ?_
        exact mjG.fg (lo' := [some (.ref l0), none, none]) (And.intro rfl True.intro) ((t_262_400 hR h1 h2) _ _ _ _ _ h)
    · refine mjq_bi (v := (6 : Int32)) D_262_384 rfl ?_
      refine mjr_goto (tgt := 400) D_262_386 rfl ?_
      exact mjG.fg (lo' := [some (.ref l0), none, none]) (And.intro rfl True.intro) ((t_262_400 hR h1 h2) _ _ _ _ _ h)
  · refine mjr_aload_n (x := l0) D_262_317 rfl ?_
    refine mjq_gI D_262_318 fr_12_307 h (fun v8 h => ?_)
    refine mjr_aload_n (x := l0) D_262_321 rfl ?_
    refine mjq_gI D_262_322 fr_12_310 h (fun v9 h => ?_)
    refine mjr_isub D_262_325 ?_
    refine mjq_bi (v := (10 : Int32)) D_262_326 rfl ?_
    refine mjq_icmp_ge (tgt := 356) D_262_328 rfl h (fun h => ?_) (fun h => ?_)
    · exact (t_262_356 hR h1 h2 hk303) _ _ _ _ h
    · refine mjr_aload_n (x := l0) D_262_331 rfl ?_
      refine mjr_ldc2 (v := (64 : Int64)) D_262_332 (by decide +kernel) ?_
      refine mjr_aload_n (x := l0) D_262_335 rfl ?_
      refine mjq_gL D_262_336 fr_12_322 h (fun v10 h => ?_)
      refine mjr_lmul D_262_339 ?_
      refine mjr_aload_n (x := l0) D_262_340 rfl ?_
      refine mjr_aload_n (x := l0) D_262_341 rfl ?_
      refine mjq_gI D_262_342 fr_12_307 h (fun v11 h => ?_)
      refine mjq_vI (As := [.int v11]) (rest := [.long ((64 : Int64) * v10), .ref l0]) D_262_345 mr_12_313 V_263 rfl rfl rfl hR (Nat.le_refl _) h1 h2 h (fun v12 hp13 h => ?_)
      refine mjq_scI (As := [.int v12]) (rest := [.long ((64 : Int64) * v10), .ref l0]) D_262_348 mr_12_294 V_228 rfl rfl rfl hR (Nat.le_refl _) h1 h2 h (fun v14 hp15 h => ?_)
      refine mjr_i2l D_262_351 ?_
      refine mjr_ladd D_262_352 ?_
      refine mjq_pL D_262_353 fr_12_322 rfl rfl h (fun hp16 h => ?_)
      exact (t_262_356 hR h1 h2 hk303) _ _ _ _ h
noncomputable def L_262_303 (R : mjR) (n : Nat) : Nat → Int32 → mjH → mjU := Nat.rec (motive := fun _ => Nat → Int32 → mjH → mjU) (fun _ _ _ => none) (fun _ self => b_262_303 R self) n
theorem T_262_303 {X : mjX} {d C S kc ks : Nat} {R : mjR} (hR : mjC R d) (h1 : kc ≤ C) (h2 : ks ≤ S) (n : Nat) : P_262_303 X (d + 1) C S kc ks (L_262_303 R n) := by
  induction n with
  | zero => intro _ _ _ _ h; exact mj_no h
  | succ n ih => exact t_262_303 hR h1 h2 ih
noncomputable def b_262_291 (R : mjR) (l0 : Nat) (l2 : Int32) (hp : mjH) : mjU := bI (R 228 [.int l2] hp) (fun v1 hp2 => (if v1 ≤ 0 then rV hp2 l0 12 (bN (R 265 [.ref l0, .int l2] hp2) (fun  hp3 => some (none, hp3))) else pL hp2 l0 12 7 (0 : Int64) (fun hp4 => L_262_303 R mjN l0 l2 hp4)))
theorem t_262_291 {X : mjX} {d C S kc ks : Nat} {R : mjR} (hR : mjC R d) (h1 : kc ≤ C) (h2 : ks ≤ S) : P_262_291 X (d + 1) C S kc ks (b_262_291 R) := by
  intro l0 l2 hp q h
  unfold b_262_291 at h
  refine mjr_iload_n (x := l2) D_262_291 rfl ?_
  refine mjq_scI (As := [.int l2]) (rest := []) D_262_292 mr_12_294 V_228 rfl rfl rfl hR (Nat.le_refl _) h1 h2 h (fun v1 hp2 h => ?_)
  refine mjq_if_le (tgt := 418) D_262_295 rfl h (fun h => ?_) (fun h => ?_)
  · refine mjr_aload_n (x := l0) D_262_418 rfl ?_
    refine mjr_iload_n (x := l2) D_262_419 rfl ?_
    refine mjq_vN (As := [.int l2]) (rest := []) D_262_420 mr_12_329 V_265 rfl rfl rfl hR (Nat.le_refl _) h1 h2 h (fun  hp3 h => ?_)
    exact mjq_nret D_262_423 rfl h1 h2 h
  · refine mjr_aload_n (x := l0) D_262_298 rfl ?_
    refine mjq_lc (v := (0 : Int64)) D_262_299 rfl ?_
    refine mjq_pL D_262_300 fr_12_322 rfl rfl h (fun hp4 h => ?_)
    exact (T_262_303 hR h1 h2 mjN) _ _ _ _ h
noncomputable def b_262_285 (R : mjR) (s0 : Nat) (s1 : Int32) (hp : mjH) : mjU := pI hp s0 12 3 s1 (fun hp1 => some (none, hp1))
theorem t_262_285 {X : mjX} {d C S kc ks : Nat} {R : mjR} (hR : mjC R d) (h1 : kc ≤ C) (h2 : ks ≤ S) : P_262_285 X (d + 1) C S kc ks (b_262_285 R) := by
  intro s0 s1 hp q h
  unfold b_262_285 at h
  refine mjq_pI D_262_285 fr_12_316 rfl rfl h (fun hp1 h => ?_)
  refine mjr_goto (tgt := 423) D_262_288 rfl ?_
  exact mjq_nret D_262_423 rfl h1 h2 h
noncomputable def b_262_264 (R : mjR) (l0 : Nat) (hp : mjH) : mjU := gI hp l0 12 5 (fun v1 => gI hp l0 12 4 (fun v2 => (if (v1 - v2) ≤ (9 : Int32) then b_262_285 R l0 (3 : Int32) hp else b_262_285 R l0 (6 : Int32) hp)))
theorem t_262_264 {X : mjX} {d C S kc ks : Nat} {R : mjR} (hR : mjC R d) (h1 : kc ≤ C) (h2 : ks ≤ S) : P_262_264 X (d + 1) C S kc ks (b_262_264 R) := by
  intro l0 hp q h
  unfold b_262_264 at h
  refine mjr_aload_n (x := l0) D_262_264 rfl ?_
  refine mjr_aload_n (x := l0) D_262_265 rfl ?_
  refine mjq_gI D_262_266 fr_12_307 h (fun v1 h => ?_)
  refine mjr_aload_n (x := l0) D_262_269 rfl ?_
  refine mjq_gI D_262_270 fr_12_310 h (fun v2 h => ?_)
  refine mjr_isub D_262_273 ?_
  refine mjq_bi (v := (9 : Int32)) D_262_274 rfl ?_
  refine mjq_icmp_le (tgt := 284) D_262_276 rfl h (fun h => ?_) (fun h => ?_)
  · refine mjq_ic (v := (3 : Int32)) D_262_284 rfl ?_
    exact mjG.fg (lo' := [none, none, none]) True.intro ((t_262_285 hR h1 h2) _ _ _ _ h)
  · refine mjq_bi (v := (6 : Int32)) D_262_279 rfl ?_
    refine mjr_goto (tgt := 285) D_262_281 rfl ?_
    exact mjG.fg (lo' := [none, none, none]) True.intro ((t_262_285 hR h1 h2) _ _ _ _ h)
noncomputable def b_262_251 (R : mjR) (k188 : Nat → mjH → mjU) (l0 : Nat) (hp : mjH) : mjU := gI hp l0 12 5 (fun v1 => pI hp l0 12 5 (v1 + (1 : Int32)) (fun hp2 => k188 l0 hp2))
theorem t_262_251 {X : mjX} {d C S kc ks : Nat} {R : mjR} (hR : mjC R d) (h1 : kc ≤ C) (h2 : ks ≤ S) {k188 : Nat → mjH → mjU} (hk188 : P_262_188 X (d + 1) C S kc ks k188) : P_262_251 X (d + 1) C S kc ks (b_262_251 R k188) := by
  intro l0 hp q h
  unfold b_262_251 at h
  refine mjr_aload_n (x := l0) D_262_251 rfl ?_
  refine mjr_dup D_262_252 rfl ?_
  refine mjq_gI D_262_253 fr_12_307 h (fun v1 h => ?_)
  refine mjq_ic (v := (1 : Int32)) D_262_256 rfl ?_
  refine mjr_iadd D_262_257 ?_
  refine mjq_pI D_262_258 fr_12_307 rfl rfl h (fun hp2 h => ?_)
  refine mjr_goto (tgt := 188) D_262_261 rfl ?_
  exact hk188 _ _ _ h
noncomputable def b_262_188 (R : mjR) (k188 : Nat → mjH → mjU) (l0 : Nat) (hp : mjH) : mjU := gI hp l0 12 5 (fun v1 => rV hp l0 12 (bI (R 263 [.ref l0, .int v1] hp) (fun v2 hp3 => (if v2 < (48 : Int32) then b_262_264 R l0 hp3 else gI hp3 l0 12 5 (fun v4 => rV hp3 l0 12 (bI (R 263 [.ref l0, .int v4] hp3) (fun v5 hp6 => (if (57 : Int32) < v5 then b_262_264 R l0 hp6 else gI hp6 l0 12 5 (fun v7 => gI hp6 l0 12 4 (fun v8 => (if (9 : Int32) ≤ (v7 - v8) then b_262_251 R k188 l0 hp6 else gI hp6 l0 12 6 (fun v9 => gI hp6 l0 12 5 (fun v10 => rV hp6 l0 12 (bI (R 263 [.ref l0, .int v10] hp6) (fun v11 hp12 => pI hp12 l0 12 6 ((((10 : Int32) * v9) + v11) - (48 : Int32)) (fun hp13 => b_262_251 R k188 l0 hp13))))))))))))))))
theorem t_262_188 {X : mjX} {d C S kc ks : Nat} {R : mjR} (hR : mjC R d) (h1 : kc ≤ C) (h2 : ks ≤ S) {k188 : Nat → mjH → mjU} (hk188 : P_262_188 X (d + 1) C S kc ks k188) : P_262_188 X (d + 1) C S kc ks (b_262_188 R k188) := by
  intro l0 hp q h
  unfold b_262_188 at h
  refine mjr_aload_n (x := l0) D_262_188 rfl ?_
  refine mjr_aload_n (x := l0) D_262_189 rfl ?_
  refine mjq_gI D_262_190 fr_12_307 h (fun v1 h => ?_)
  refine mjq_vI (As := [.int v1]) (rest := []) D_262_193 mr_12_313 V_263 rfl rfl rfl hR (Nat.le_refl _) h1 h2 h (fun v2 hp3 h => ?_)
  refine mjq_bi (v := (48 : Int32)) D_262_196 rfl ?_
  refine mjq_icmp_lt (tgt := 264) D_262_198 rfl h (fun h => ?_) (fun h => ?_)
  · exact (t_262_264 hR h1 h2) _ _ _ h
  · refine mjr_aload_n (x := l0) D_262_201 rfl ?_
    refine mjr_aload_n (x := l0) D_262_202 rfl ?_
    refine mjq_gI D_262_203 fr_12_307 h (fun v4 h => ?_)
    refine mjq_vI (As := [.int v4]) (rest := []) D_262_206 mr_12_313 V_263 rfl rfl rfl hR (Nat.le_refl _) h1 h2 h (fun v5 hp6 h => ?_)
    refine mjq_bi (v := (57 : Int32)) D_262_209 rfl ?_
    refine mjq_icmp_gt (tgt := 264) D_262_211 rfl h (fun h => ?_) (fun h => ?_)
    · exact (t_262_264 hR h1 h2) _ _ _ h
    · refine mjr_aload_n (x := l0) D_262_214 rfl ?_
      refine mjq_gI D_262_215 fr_12_307 h (fun v7 h => ?_)
      refine mjr_aload_n (x := l0) D_262_218 rfl ?_
      refine mjq_gI D_262_219 fr_12_310 h (fun v8 h => ?_)
      refine mjr_isub D_262_222 ?_
      refine mjq_bi (v := (9 : Int32)) D_262_223 rfl ?_
      refine mjq_icmp_ge (tgt := 251) D_262_225 rfl h (fun h => ?_) (fun h => ?_)
      · exact (t_262_251 hR h1 h2 hk188) _ _ _ h
      · refine mjr_aload_n (x := l0) D_262_228 rfl ?_
        refine mjq_bi (v := (10 : Int32)) D_262_229 rfl ?_
        refine mjr_aload_n (x := l0) D_262_231 rfl ?_
        refine mjq_gI D_262_232 fr_12_319 h (fun v9 h => ?_)
        refine mjr_imul D_262_235 ?_
        refine mjr_aload_n (x := l0) D_262_236 rfl ?_
        refine mjr_aload_n (x := l0) D_262_237 rfl ?_
        refine mjq_gI D_262_238 fr_12_307 h (fun v10 h => ?_)
        refine mjq_vI (As := [.int v10]) (rest := [.int ((10 : Int32) * v9), .ref l0]) D_262_241 mr_12_313 V_263 rfl rfl rfl hR (Nat.le_refl _) h1 h2 h (fun v11 hp12 h => ?_)
        refine mjr_iadd D_262_244 ?_
        refine mjq_bi (v := (48 : Int32)) D_262_245 rfl ?_
        refine mjr_isub D_262_247 ?_
        refine mjq_pI D_262_248 fr_12_319 rfl rfl h (fun hp13 h => ?_)
        exact (t_262_251 hR h1 h2 hk188) _ _ _ h
noncomputable def L_262_188 (R : mjR) (n : Nat) : Nat → mjH → mjU := Nat.rec (motive := fun _ => Nat → mjH → mjU) (fun _ _ => none) (fun _ self => b_262_188 R self) n
theorem T_262_188 {X : mjX} {d C S kc ks : Nat} {R : mjR} (hR : mjC R d) (h1 : kc ≤ C) (h2 : ks ≤ S) (n : Nat) : P_262_188 X (d + 1) C S kc ks (L_262_188 R n) := by
  induction n with
  | zero => intro _ _ _ h; exact mj_no h
  | succ n ih => exact t_262_188 hR h1 h2 ih
noncomputable def b_262_118 (R : mjR) (k10 : Nat → Int32 → mjH → mjU) (l0 : Nat) (l1 : Int32) (hp : mjH) : mjU := k10 l0 l1 hp
theorem t_262_118 {X : mjX} {d C S kc ks : Nat} {R : mjR} (hR : mjC R d) (h1 : kc ≤ C) (h2 : ks ≤ S) {k10 : Nat → Int32 → mjH → mjU} (hk10 : P_262_10 X (d + 1) C S kc ks k10) : P_262_118 X (d + 1) C S kc ks (b_262_118 R k10) := by
  intro l0 l1 hp q h
  unfold b_262_118 at h
  refine mjr_goto (tgt := 10) D_262_118 rfl ?_
  exact hk10 _ _ _ _ h
noncomputable def b_262_71 (R : mjR) (k10 : Nat → Int32 → mjH → mjU) (k71 : Nat → Int32 → mjH → mjU) (l0 : Nat) (l1 : Int32) (hp : mjH) : mjU := gI hp l0 12 4 (fun v1 => gI hp l0 12 2 (fun v2 => (if v2 ≤ v1 then b_262_118 R k10 l0 l1 hp else gI hp l0 12 4 (fun v3 => rV hp l0 12 (bI (R 263 [.ref l0, .int v3] hp) (fun v4 hp5 => (if v4 = (10 : Int32) then b_262_118 R k10 l0 l1 hp5 else gI hp5 l0 12 4 (fun v6 => pI hp5 l0 12 4 (v6 + (1 : Int32)) (fun hp7 => k71 l0 l1 hp7)))))))))
theorem t_262_71 {X : mjX} {d C S kc ks : Nat} {R : mjR} (hR : mjC R d) (h1 : kc ≤ C) (h2 : ks ≤ S) {k10 : Nat → Int32 → mjH → mjU} (hk10 : P_262_10 X (d + 1) C S kc ks k10) {k71 : Nat → Int32 → mjH → mjU} (hk71 : P_262_71 X (d + 1) C S kc ks k71) : P_262_71 X (d + 1) C S kc ks (b_262_71 R k10 k71) := by
  intro l0 l1 hp q h
  unfold b_262_71 at h
  refine mjr_aload_n (x := l0) D_262_71 rfl ?_
  refine mjq_gI D_262_72 fr_12_310 h (fun v1 h => ?_)
  refine mjr_aload_n (x := l0) D_262_75 rfl ?_
  refine mjq_gI D_262_76 fr_12_304 h (fun v2 h => ?_)
  refine mjq_icmp_ge (tgt := 118) D_262_79 rfl h (fun h => ?_) (fun h => ?_)
  · exact (t_262_118 hR h1 h2 hk10) _ _ _ _ h
  · refine mjr_aload_n (x := l0) D_262_82 rfl ?_
    refine mjr_aload_n (x := l0) D_262_83 rfl ?_
    refine mjq_gI D_262_84 fr_12_310 h (fun v3 h => ?_)
    refine mjq_vI (As := [.int v3]) (rest := []) D_262_87 mr_12_313 V_263 rfl rfl rfl hR (Nat.le_refl _) h1 h2 h (fun v4 hp5 h => ?_)
    refine mjq_bi (v := (10 : Int32)) D_262_90 rfl ?_
    refine mjq_icmp_eq (tgt := 118) D_262_92 rfl h (fun h => ?_) (fun h => ?_)
    · exact (t_262_118 hR h1 h2 hk10) _ _ _ _ h
    · refine mjr_aload_n (x := l0) D_262_95 rfl ?_
      refine mjr_dup D_262_96 rfl ?_
      refine mjq_gI D_262_97 fr_12_310 h (fun v6 h => ?_)
      refine mjq_ic (v := (1 : Int32)) D_262_100 rfl ?_
      refine mjr_iadd D_262_101 ?_
      refine mjq_pI D_262_102 fr_12_310 rfl rfl h (fun hp7 h => ?_)
      refine mjr_goto (tgt := 71) D_262_105 rfl ?_
      exact hk71 _ _ _ _ h
noncomputable def L_262_71 (R : mjR) (k10 : Nat → Int32 → mjH → mjU) (n : Nat) : Nat → Int32 → mjH → mjU := Nat.rec (motive := fun _ => Nat → Int32 → mjH → mjU) (fun _ _ _ => none) (fun _ self => b_262_71 R k10 self) n
theorem T_262_71 {X : mjX} {d C S kc ks : Nat} {R : mjR} (hR : mjC R d) (h1 : kc ≤ C) (h2 : ks ≤ S) {k10 : Nat → Int32 → mjH → mjU} (hk10 : P_262_10 X (d + 1) C S kc ks k10) (n : Nat) : P_262_71 X (d + 1) C S kc ks (L_262_71 R k10 n) := by
  induction n with
  | zero => intro _ _ _ _ h; exact mj_no h
  | succ n ih => exact t_262_71 hR h1 h2 hk10 ih
noncomputable def b_262_57 (R : mjR) (k10 : Nat → Int32 → mjH → mjU) (l0 : Nat) (l2 : Int32) (s0 : Int32) (hp : mjH) : mjU := (if s0 = 0 then k10 l0 s0 hp else (if l2 = (35 : Int32) then L_262_71 R k10 mjN l0 s0 hp else gI hp l0 12 4 (fun v1 => pI hp l0 12 4 (v1 + (1 : Int32)) (fun hp2 => b_262_118 R k10 l0 s0 hp2))))
theorem t_262_57 {X : mjX} {d C S kc ks : Nat} {R : mjR} (hR : mjC R d) (h1 : kc ≤ C) (h2 : ks ≤ S) {k10 : Nat → Int32 → mjH → mjU} (hk10 : P_262_10 X (d + 1) C S kc ks k10) : P_262_57 X (d + 1) C S kc ks (b_262_57 R k10) := by
  intro l0 l2 s0 hp q h
  unfold b_262_57 at h
  refine mjq_istore_n (lo' := [some (.ref l0), some (.int s0), some (.int l2)]) D_262_57 (Nat.le_of_ble_eq_true rfl) rfl ?_
  refine mjr_iload_n (x := s0) D_262_58 rfl ?_
  refine mjq_if_ne (tgt := 65) D_262_59 rfl h (fun h => ?_) (fun h => ?_)
  · refine mjr_iload_n (x := l2) D_262_65 rfl ?_
    refine mjq_bi (v := (35 : Int32)) D_262_66 rfl ?_
    refine mjq_icmp_ne (tgt := 108) D_262_68 rfl h (fun h => ?_) (fun h => ?_)
    · refine mjr_aload_n (x := l0) D_262_108 rfl ?_
      refine mjr_dup D_262_109 rfl ?_
      refine mjq_gI D_262_110 fr_12_310 h (fun v1 h => ?_)
      refine mjq_ic (v := (1 : Int32)) D_262_113 rfl ?_
      refine mjr_iadd D_262_114 ?_
      refine mjq_pI D_262_115 fr_12_310 rfl rfl h (fun hp2 h => ?_)
      exact mjG.fg (lo' := [some (.ref l0), some (.int s0), none]) (And.intro rfl (And.intro rfl True.intro)) ((t_262_118 hR h1 h2 hk10) _ _ _ _ h)
    · exact mjG.fg (lo' := [some (.ref l0), some (.int s0), none]) (And.intro rfl (And.intro rfl True.intro)) ((T_262_71 hR h1 h2 hk10 mjN) _ _ _ _ h)
  · refine mjr_goto (tgt := 10) D_262_62 rfl ?_
    exact mjG.fg (lo' := [some (.ref l0), some (.int s0), none]) (And.intro rfl (And.intro rfl True.intro)) (hk10 _ _ _ _ h)
noncomputable def b_262_56 (R : mjR) (k10 : Nat → Int32 → mjH → mjU) (l0 : Nat) (l2 : Int32) (hp : mjH) : mjU := b_262_57 R k10 l0 l2 (0 : Int32) hp
theorem t_262_56 {X : mjX} {d C S kc ks : Nat} {R : mjR} (hR : mjC R d) (h1 : kc ≤ C) (h2 : ks ≤ S) {k10 : Nat → Int32 → mjH → mjU} (hk10 : P_262_10 X (d + 1) C S kc ks k10) : P_262_56 X (d + 1) C S kc ks (b_262_56 R k10) := by
  intro l0 l2 hp q h
  unfold b_262_56 at h
  refine mjq_ic (v := (0 : Int32)) D_262_56 rfl ?_
  exact (t_262_57 hR h1 h2 hk10) _ _ _ _ _ h
noncomputable def b_262_52 (R : mjR) (k10 : Nat → Int32 → mjH → mjU) (l0 : Nat) (l2 : Int32) (hp : mjH) : mjU := b_262_57 R k10 l0 l2 (1 : Int32) hp
theorem t_262_52 {X : mjX} {d C S kc ks : Nat} {R : mjR} (hR : mjC R d) (h1 : kc ≤ C) (h2 : ks ≤ S) {k10 : Nat → Int32 → mjH → mjU} (hk10 : P_262_10 X (d + 1) C S kc ks k10) : P_262_52 X (d + 1) C S kc ks (b_262_52 R k10) := by
  intro l0 l2 hp q h
  unfold b_262_52 at h
  refine mjq_ic (v := (1 : Int32)) D_262_52 rfl ?_
  refine mjr_goto (tgt := 57) D_262_53 rfl ?_
  exact (t_262_57 hR h1 h2 hk10) _ _ _ _ _ h
noncomputable def b_262_10 (R : mjR) (k10 : Nat → Int32 → mjH → mjU) (l0 : Nat) (l1 : Int32) (hp : mjH) : mjU := (if l1 = 0 then gI hp l0 12 4 (fun v1 => pI hp l0 12 5 v1 (fun hp2 => gI hp2 l0 12 4 (fun v3 => gI hp2 l0 12 2 (fun v4 => (if v3 < v4 then gI hp2 l0 12 4 (fun v5 => rV hp2 l0 12 (bI (R 263 [.ref l0, .int v5] hp2) (fun v6 hp7 => (if v6 < (48 : Int32) then b_262_291 R l0 v6 hp7 else (if (57 : Int32) < v6 then b_262_291 R l0 v6 hp7 else pI hp7 l0 12 6 (0 : Int32) (fun hp8 => L_262_188 R mjN l0 hp8)))))) else pI hp2 l0 12 3 (0 : Int32) (fun hp9 => gI hp9 l0 12 2 (fun v10 => pI hp9 l0 12 4 v10 (fun hp11 => gI hp11 l0 12 2 (fun v12 => pI hp11 l0 12 5 v12 (fun hp13 => some (none, hp13))))))))))) else gI hp l0 12 4 (fun v14 => rV hp l0 12 (bI (R 263 [.ref l0, .int v14] hp) (fun v15 hp16 => gI hp16 l0 12 4 (fun v17 => gI hp16 l0 12 2 (fun v18 => (if v18 ≤ v17 then b_262_56 R k10 l0 v15 hp16 else (if v15 = (10 : Int32) then b_262_52 R k10 l0 v15 hp16 else (if v15 = (32 : Int32) then b_262_52 R k10 l0 v15 hp16 else (if v15 = (35 : Int32) then b_262_52 R k10 l0 v15 hp16 else b_262_56 R k10 l0 v15 hp16))))))))))
theorem t_262_10 {X : mjX} {d C S kc ks : Nat} {R : mjR} (hR : mjC R d) (h1 : kc ≤ C) (h2 : ks ≤ S) {k10 : Nat → Int32 → mjH → mjU} (hk10 : P_262_10 X (d + 1) C S kc ks k10) : P_262_10 X (d + 1) C S kc ks (b_262_10 R k10) := by
  intro l0 l1 hp q h
  unfold b_262_10 at h
  refine mjr_iload_n (x := l1) D_262_10 rfl ?_
  refine mjq_if_eq (tgt := 121) D_262_11 rfl h (fun h => ?_) (fun h => ?_)
  · refine mjr_aload_n (x := l0) D_262_121 rfl ?_
    refine mjr_aload_n (x := l0) D_262_122 rfl ?_
    refine mjq_gI D_262_123 fr_12_310 h (fun v1 h => ?_)
    refine mjq_pI D_262_126 fr_12_307 rfl rfl h (fun hp2 h => ?_)
    refine mjr_aload_n (x := l0) D_262_129 rfl ?_
    refine mjq_gI D_262_130 fr_12_310 h (fun v3 h => ?_)
    refine mjr_aload_n (x := l0) D_262_133 rfl ?_
    refine mjq_gI D_262_134 fr_12_304 h (fun v4 h => ?_)
    refine mjq_icmp_lt (tgt := 162) D_262_137 rfl h (fun h => ?_) (fun h => ?_)
    · refine mjr_aload_n (x := l0) D_262_162 rfl ?_
      refine mjr_aload_n (x := l0) D_262_163 rfl ?_
      refine mjq_gI D_262_164 fr_12_310 h (fun v5 h => ?_)
      refine mjq_vI (As := [.int v5]) (rest := []) D_262_167 mr_12_313 V_263 rfl rfl rfl hR (Nat.le_refl _) h1 h2 h (fun v6 hp7 h => ?_)
      refine mjq_istore_n (lo' := [some (.ref l0), some (.int l1), some (.int v6)]) D_262_170 (Nat.le_of_ble_eq_true rfl) rfl ?_
      refine mjr_iload_n (x := v6) D_262_171 rfl ?_
      refine mjq_bi (v := (48 : Int32)) D_262_172 rfl ?_
      refine mjq_icmp_lt (tgt := 291) D_262_174 rfl h (fun h => ?_) (fun h => ?_)
      · exact mjG.fg (lo' := [some (.ref l0), none, some (.int v6)]) (And.intro rfl (And.intro rfl True.intro)) ((t_262_291 hR h1 h2) _ _ _ _ h)
      · refine mjr_iload_n (x := v6) D_262_177 rfl ?_
        refine mjq_bi (v := (57 : Int32)) D_262_178 rfl ?_
        refine mjq_icmp_gt (tgt := 291) D_262_180 rfl h (fun h => ?_) (fun h => ?_)
        · exact mjG.fg (lo' := [some (.ref l0), none, some (.int v6)]) (And.intro rfl (And.intro rfl True.intro)) ((t_262_291 hR h1 h2) _ _ _ _ h)
        · refine mjr_aload_n (x := l0) D_262_183 rfl ?_
          refine mjq_ic (v := (0 : Int32)) D_262_184 rfl ?_
          refine mjq_pI D_262_185 fr_12_319 rfl rfl h (fun hp8 h => ?_)
          exact mjG.fg (lo' := [some (.ref l0), none, none]) (And.intro rfl True.intro) ((T_262_188 hR h1 h2 mjN) _ _ _ h)
    · refine mjr_aload_n (x := l0) D_262_140 rfl ?_
      refine mjq_ic (v := (0 : Int32)) D_262_141 rfl ?_
      refine mjq_pI D_262_142 fr_12_316 rfl rfl h (fun hp9 h => ?_)
      refine mjr_aload_n (x := l0) D_262_145 rfl ?_
      refine mjr_aload_n (x := l0) D_262_146 rfl ?_
      refine mjq_gI D_262_147 fr_12_304 h (fun v10 h => ?_)
      refine mjq_pI D_262_150 fr_12_310 rfl rfl h (fun hp11 h => ?_)
      refine mjr_aload_n (x := l0) D_262_153 rfl ?_
      refine mjr_aload_n (x := l0) D_262_154 rfl ?_
      refine mjq_gI D_262_155 fr_12_304 h (fun v12 h => ?_)
      refine mjq_pI D_262_158 fr_12_307 rfl rfl h (fun hp13 h => ?_)
      exact mjq_nret D_262_161 rfl h1 h2 h
  · refine mjr_aload_n (x := l0) D_262_14 rfl ?_
    refine mjr_aload_n (x := l0) D_262_15 rfl ?_
    refine mjq_gI D_262_16 fr_12_310 h (fun v14 h => ?_)
    refine mjq_vI (As := [.int v14]) (rest := []) D_262_19 mr_12_313 V_263 rfl rfl rfl hR (Nat.le_refl _) h1 h2 h (fun v15 hp16 h => ?_)
    refine mjq_istore_n (lo' := [some (.ref l0), some (.int l1), some (.int v15)]) D_262_22 (Nat.le_of_ble_eq_true rfl) rfl ?_
    refine mjr_aload_n (x := l0) D_262_23 rfl ?_
    refine mjq_gI D_262_24 fr_12_310 h (fun v17 h => ?_)
    refine mjr_aload_n (x := l0) D_262_27 rfl ?_
    refine mjq_gI D_262_28 fr_12_304 h (fun v18 h => ?_)
    refine mjq_icmp_ge (tgt := 56) D_262_31 rfl h (fun h => ?_) (fun h => ?_)
    · exact mjG.fg (lo' := [some (.ref l0), none, some (.int v15)]) (And.intro rfl (And.intro rfl True.intro)) ((t_262_56 hR h1 h2 hk10) _ _ _ _ h)
    · refine mjr_iload_n (x := v15) D_262_34 rfl ?_
      refine mjq_bi (v := (10 : Int32)) D_262_35 rfl ?_
      refine mjq_icmp_eq (tgt := 52) D_262_37 rfl h (fun h => ?_) (fun h => ?_)
      · exact mjG.fg (lo' := [some (.ref l0), none, some (.int v15)]) (And.intro rfl (And.intro rfl True.intro)) ((t_262_52 hR h1 h2 hk10) _ _ _ _ h)
      · refine mjr_iload_n (x := v15) D_262_40 rfl ?_
        refine mjq_bi (v := (32 : Int32)) D_262_41 rfl ?_
        refine mjq_icmp_eq (tgt := 52) D_262_43 rfl h (fun h => ?_) (fun h => ?_)
        · exact mjG.fg (lo' := [some (.ref l0), none, some (.int v15)]) (And.intro rfl (And.intro rfl True.intro)) ((t_262_52 hR h1 h2 hk10) _ _ _ _ h)
        · refine mjr_iload_n (x := v15) D_262_46 rfl ?_
          refine mjq_bi (v := (35 : Int32)) D_262_47 rfl ?_
          refine mjq_icmp_ne (tgt := 56) D_262_49 rfl h (fun h => ?_) (fun h => ?_)
          · exact mjG.fg (lo' := [some (.ref l0), none, some (.int v15)]) (And.intro rfl (And.intro rfl True.intro)) ((t_262_56 hR h1 h2 hk10) _ _ _ _ h)
          · exact mjG.fg (lo' := [some (.ref l0), none, some (.int v15)]) (And.intro rfl (And.intro rfl True.intro)) ((t_262_52 hR h1 h2 hk10) _ _ _ _ h)
noncomputable def L_262_10 (R : mjR) (n : Nat) : Nat → Int32 → mjH → mjU := Nat.rec (motive := fun _ => Nat → Int32 → mjH → mjU) (fun _ _ _ => none) (fun _ self => b_262_10 R self) n
theorem T_262_10 {X : mjX} {d C S kc ks : Nat} {R : mjR} (hR : mjC R d) (h1 : kc ≤ C) (h2 : ks ≤ S) (n : Nat) : P_262_10 X (d + 1) C S kc ks (L_262_10 R n) := by
  induction n with
  | zero => intro _ _ _ _ h; exact mj_no h
  | succ n ih => exact t_262_10 hR h1 h2 ih
noncomputable def b_262_0 (R : mjR) (l0 : Nat) (hp : mjH) : mjU := gI hp l0 12 5 (fun v1 => pI hp l0 12 4 v1 (fun hp2 => L_262_10 R mjN l0 (1 : Int32) hp2))
theorem t_262_0 {X : mjX} {d C S kc ks : Nat} {R : mjR} (hR : mjC R d) (h1 : kc ≤ C) (h2 : ks ≤ S) : P_262_0 X (d + 1) C S kc ks (b_262_0 R) := by
  intro l0 hp q h
  unfold b_262_0 at h
  refine mjr_aload_n (x := l0) D_262_0 rfl ?_
  refine mjr_aload_n (x := l0) D_262_1 rfl ?_
  refine mjq_gI D_262_2 fr_12_307 h (fun v1 h => ?_)
  refine mjq_pI D_262_5 fr_12_310 rfl rfl h (fun hp2 h => ?_)
  refine mjq_ic (v := (1 : Int32)) D_262_8 rfl ?_
  refine mjq_istore_n (lo' := [some (.ref l0), some (.int (1 : Int32)), none]) D_262_9 (Nat.le_of_ble_eq_true rfl) rfl ?_
  exact (T_262_10 hR h1 h2 mjN) _ _ _ _ h
noncomputable def f_262 (R : mjR) (a0 : Nat) (hp : mjH) : mjU := b_262_0 R a0 hp
theorem c_262 {R : mjR} {d : Nat} (hR : mjC R d) {a0 : Nat} {hp : mjH} {q : Option Value × mjH} (h : f_262 R a0 hp = some q) : mjM (d + 1) 0 0 262 [.ref a0] hp (mjEq q) :=
  mjM_of Ja_262 (Nat.le_of_ble_eq_true rfl) (mjG.fg (lo' := [some (.ref a0), none, none]) (And.intro rfl True.intro) ((t_262_0 hR (Nat.le_refl 0) (Nat.le_refl 0)) a0 hp q h))
def J_263 : mjI := (⟨"OwnerHeapModel", "look", "(I)I"⟩, 12, prog_14_method_5_code, 2, (some .int), 1, false)
theorem Ja_263 : mjMt 263 = some J_263 := by rfl
theorem D_263_0 : decode J_263.2.2.1 0 = .ok (.iload_n 1, 1) := by decide +kernel
theorem D_263_1 : decode J_263.2.2.1 1 = .ok (.aload_n 0, 1) := by decide +kernel
theorem D_263_2 : decode J_263.2.2.1 2 = .ok (.getfield 304, 3) := by decide +kernel
theorem D_263_5 : decode J_263.2.2.1 5 = .ok (.if_icmp .ge 16, 3) := by decide +kernel
theorem D_263_8 : decode J_263.2.2.1 8 = .ok (.aload_n 0, 1) := by decide +kernel
theorem D_263_9 : decode J_263.2.2.1 9 = .ok (.getfield 7, 3) := by decide +kernel
theorem D_263_12 : decode J_263.2.2.1 12 = .ok (.iload_n 1, 1) := by decide +kernel
theorem D_263_13 : decode J_263.2.2.1 13 = .ok (.baload, 1) := by decide +kernel
theorem D_263_14 : decode J_263.2.2.1 14 = .ok (.sipush 255, 3) := by decide +kernel
theorem D_263_17 : decode J_263.2.2.1 17 = .ok (.iand, 1) := by decide +kernel
theorem D_263_18 : decode J_263.2.2.1 18 = .ok (.goto 4, 3) := by decide +kernel
theorem D_263_21 : decode J_263.2.2.1 21 = .ok (.iconst 0, 1) := by decide +kernel
theorem D_263_22 : decode J_263.2.2.1 22 = .ok (.ireturn, 1) := by decide +kernel
def P_263_0 (X : mjX) (d C S kc ks : Nat) (k : Nat → Int32 → mjH → mjU) : Prop := ∀ (l0 : Nat) (l1 : Int32) (hp : mjH) (q : Option Value × mjH), k l0 l1 hp = some q → mjG X d C S J_263 (mjEq q) 0 [some (.ref l0), some (.int l1)] [] hp kc ks
noncomputable def b_263_0 (R : mjR) (l0 : Nat) (l1 : Int32) (hp : mjH) : mjU := gI hp l0 12 2 (fun v1 => (if v1 ≤ l1 then some (some (.int (0 : Int32)), hp) else gR hp l0 12 0 (fun v2 => aB hp v2 l1 (fun v3 => some (some (.int (v3 &&& (255 : Int32))), hp)))))
theorem t_263_0 {X : mjX} {d C S kc ks : Nat} {R : mjR} (hR : mjC R d) (h1 : kc ≤ C) (h2 : ks ≤ S) : P_263_0 X (d + 1) C S kc ks (b_263_0 R) := by
  intro l0 l1 hp q h
  unfold b_263_0 at h
  refine mjr_iload_n (x := l1) D_263_0 rfl ?_
  refine mjr_aload_n (x := l0) D_263_1 rfl ?_
  refine mjq_gI D_263_2 fr_12_304 h (fun v1 h => ?_)
  refine mjq_icmp_ge (tgt := 21) D_263_5 rfl h (fun h => ?_) (fun h => ?_)
  · refine mjq_ic (v := (0 : Int32)) D_263_21 rfl ?_
    exact mjq_ret D_263_22 rfl h1 h2 h
  · refine mjr_aload_n (x := l0) D_263_8 rfl ?_
    refine mjq_gR D_263_9 fr_12_7 h (fun v2 h => ?_)
    refine mjr_iload_n (x := l1) D_263_12 rfl ?_
    refine mjq_aB D_263_13 h (fun v3 h => ?_)
    refine mjq_si (v := (255 : Int32)) D_263_14 rfl ?_
    refine mjr_iand D_263_17 ?_
    refine mjr_goto (tgt := 22) D_263_18 rfl ?_
    exact mjq_ret D_263_22 rfl h1 h2 h
noncomputable def f_263 (R : mjR) (a0 : Nat) (a1 : Int32) (hp : mjH) : mjU := b_263_0 R a0 a1 hp
theorem c_263 {R : mjR} {d : Nat} (hR : mjC R d) {a0 : Nat} {a1 : Int32} {hp : mjH} {q : Option Value × mjH} (h : f_263 R a0 a1 hp = some q) : mjM (d + 1) 0 0 263 [.ref a0, .int a1] hp (mjEq q) :=
  mjM_of Ja_263 (Nat.le_of_ble_eq_true rfl) (mjG.fg (lo' := [some (.ref a0), some (.int a1)]) (And.intro rfl (And.intro rfl True.intro)) ((t_263_0 hR (Nat.le_refl 0) (Nat.le_refl 0)) a0 a1 hp q h))
def J_264 : mjI := (⟨"OwnerHeapModel", "keptWord", "()V"⟩, 12, prog_14_method_7_code, 2, none, 0, false)
theorem Ja_264 : mjMt 264 = some J_264 := by rfl
theorem D_264_0 : decode J_264.2.2.1 0 = .ok (.iconst 1, 1) := by decide +kernel
theorem D_264_1 : decode J_264.2.2.1 1 = .ok (.istore_n 1, 1) := by decide +kernel
theorem D_264_2 : decode J_264.2.2.1 2 = .ok (.iload_n 1, 1) := by decide +kernel
theorem D_264_3 : decode J_264.2.2.1 3 = .ok (.bipush 16, 2) := by decide +kernel
theorem D_264_5 : decode J_264.2.2.1 5 = .ok (.if_icmp .gt 36, 3) := by decide +kernel
theorem D_264_8 : decode J_264.2.2.1 8 = .ok (.aload_n 0, 1) := by decide +kernel
theorem D_264_9 : decode J_264.2.2.1 9 = .ok (.getfield 13, 3) := by decide +kernel
theorem D_264_12 : decode J_264.2.2.1 12 = .ok (.iload_n 1, 1) := by decide +kernel
theorem D_264_13 : decode J_264.2.2.1 13 = .ok (.laload, 1) := by decide +kernel
theorem D_264_14 : decode J_264.2.2.1 14 = .ok (.aload_n 0, 1) := by decide +kernel
theorem D_264_15 : decode J_264.2.2.1 15 = .ok (.getfield 322, 3) := by decide +kernel
theorem D_264_18 : decode J_264.2.2.1 18 = .ok (.lcmp, 1) := by decide +kernel
theorem D_264_19 : decode J_264.2.2.1 19 = .ok (.ifCond .eq 6, 3) := by decide +kernel
theorem D_264_22 : decode J_264.2.2.1 22 = .ok (.goto 13, 3) := by decide +kernel
theorem D_264_25 : decode J_264.2.2.1 25 = .ok (.aload_n 0, 1) := by decide +kernel
theorem D_264_26 : decode J_264.2.2.1 26 = .ok (.iconst 5, 1) := by decide +kernel
theorem D_264_27 : decode J_264.2.2.1 27 = .ok (.putfield 316, 3) := by decide +kernel
theorem D_264_30 : decode J_264.2.2.1 30 = .ok (.aload_n 0, 1) := by decide +kernel
theorem D_264_31 : decode J_264.2.2.1 31 = .ok (.iload_n 1, 1) := by decide +kernel
theorem D_264_32 : decode J_264.2.2.1 32 = .ok (.putfield 319, 3) := by decide +kernel
theorem D_264_35 : decode J_264.2.2.1 35 = .ok (.iinc 1 1, 3) := by decide +kernel
theorem D_264_38 : decode J_264.2.2.1 38 = .ok (.goto (-36), 3) := by decide +kernel
theorem D_264_41 : decode J_264.2.2.1 41 = .ok (.return_, 1) := by decide +kernel
def P_264_35 (X : mjX) (d C S kc ks : Nat) (k : Nat → Int32 → mjH → mjU) : Prop := ∀ (l0 : Nat) (l1 : Int32) (hp : mjH) (q : Option Value × mjH), k l0 l1 hp = some q → mjG X d C S J_264 (mjEq q) 35 [some (.ref l0), some (.int l1)] [] hp kc ks
def P_264_2 (X : mjX) (d C S kc ks : Nat) (k : Nat → Int32 → mjH → mjU) : Prop := ∀ (l0 : Nat) (l1 : Int32) (hp : mjH) (q : Option Value × mjH), k l0 l1 hp = some q → mjG X d C S J_264 (mjEq q) 2 [some (.ref l0), some (.int l1)] [] hp kc ks
def P_264_0 (X : mjX) (d C S kc ks : Nat) (k : Nat → mjH → mjU) : Prop := ∀ (l0 : Nat) (hp : mjH) (q : Option Value × mjH), k l0 hp = some q → mjG X d C S J_264 (mjEq q) 0 [some (.ref l0), none] [] hp kc ks
noncomputable def b_264_35 (R : mjR) (k2 : Nat → Int32 → mjH → mjU) (l0 : Nat) (l1 : Int32) (hp : mjH) : mjU := k2 l0 (l1 + (1 : Int32)) hp
theorem t_264_35 {X : mjX} {d C S kc ks : Nat} {R : mjR} (hR : mjC R d) (h1 : kc ≤ C) (h2 : ks ≤ S) {k2 : Nat → Int32 → mjH → mjU} (hk2 : P_264_2 X (d + 1) C S kc ks k2) : P_264_35 X (d + 1) C S kc ks (b_264_35 R k2) := by
  intro l0 l1 hp q h
  unfold b_264_35 at h
  refine mjq_iinc (x := l1) (c := (1 : Int32)) (lo' := [some (.ref l0), some (.int (l1 + (1 : Int32)))]) D_264_35 rfl (Nat.le_of_ble_eq_true rfl) rfl rfl ?_
  refine mjr_goto (tgt := 2) D_264_38 rfl ?_
  exact hk2 _ _ _ _ h
noncomputable def b_264_2 (R : mjR) (k2 : Nat → Int32 → mjH → mjU) (l0 : Nat) (l1 : Int32) (hp : mjH) : mjU := (if (16 : Int32) < l1 then some (none, hp) else gR hp l0 12 8 (fun v1 => aL hp v1 l1 (fun v2 => gL hp l0 12 7 (fun v3 => (if (lg_cmp v2 v3) = 0 then pI hp l0 12 3 (5 : Int32) (fun hp4 => pI hp4 l0 12 6 l1 (fun hp5 => b_264_35 R k2 l0 l1 hp5)) else b_264_35 R k2 l0 l1 hp)))))
theorem t_264_2 {X : mjX} {d C S kc ks : Nat} {R : mjR} (hR : mjC R d) (h1 : kc ≤ C) (h2 : ks ≤ S) {k2 : Nat → Int32 → mjH → mjU} (hk2 : P_264_2 X (d + 1) C S kc ks k2) : P_264_2 X (d + 1) C S kc ks (b_264_2 R k2) := by
  intro l0 l1 hp q h
  unfold b_264_2 at h
  refine mjr_iload_n (x := l1) D_264_2 rfl ?_
  refine mjq_bi (v := (16 : Int32)) D_264_3 rfl ?_
  refine mjq_icmp_gt (tgt := 41) D_264_5 rfl h (fun h => ?_) (fun h => ?_)
  · exact mjq_nret D_264_41 rfl h1 h2 h
  · refine mjr_aload_n (x := l0) D_264_8 rfl ?_
    refine mjq_gR D_264_9 fr_12_13 h (fun v1 h => ?_)
    refine mjr_iload_n (x := l1) D_264_12 rfl ?_
    refine mjq_aL D_264_13 h (fun v2 h => ?_)
    refine mjr_aload_n (x := l0) D_264_14 rfl ?_
    refine mjq_gL D_264_15 fr_12_322 h (fun v3 h => ?_)
    refine mjr_lcmp D_264_18 ?_
    refine mjq_if_eq (tgt := 25) D_264_19 rfl h (fun h => ?_) (fun h => ?_)
    · refine mjr_aload_n (x := l0) D_264_25 rfl ?_
      refine mjq_ic (v := (5 : Int32)) D_264_26 rfl ?_
      refine mjq_pI D_264_27 fr_12_316 rfl rfl h (fun hp4 h => ?_)
      refine mjr_aload_n (x := l0) D_264_30 rfl ?_
      refine mjr_iload_n (x := l1) D_264_31 rfl ?_
      refine mjq_pI D_264_32 fr_12_319 rfl rfl h (fun hp5 h => ?_)
      exact (t_264_35 hR h1 h2 hk2) _ _ _ _ h
    · refine mjr_goto (tgt := 35) D_264_22 rfl ?_
      exact (t_264_35 hR h1 h2 hk2) _ _ _ _ h
noncomputable def L_264_2 (R : mjR) (n : Nat) : Nat → Int32 → mjH → mjU := Nat.rec (motive := fun _ => Nat → Int32 → mjH → mjU) (fun _ _ _ => none) (fun _ self => b_264_2 R self) n
theorem T_264_2 {X : mjX} {d C S kc ks : Nat} {R : mjR} (hR : mjC R d) (h1 : kc ≤ C) (h2 : ks ≤ S) (n : Nat) : P_264_2 X (d + 1) C S kc ks (L_264_2 R n) := by
  induction n with
  | zero => intro _ _ _ _ h; exact mj_no h
  | succ n ih => exact t_264_2 hR h1 h2 ih
noncomputable def b_264_0 (R : mjR) (l0 : Nat) (hp : mjH) : mjU := L_264_2 R mjN l0 (1 : Int32) hp
theorem t_264_0 {X : mjX} {d C S kc ks : Nat} {R : mjR} (hR : mjC R d) (h1 : kc ≤ C) (h2 : ks ≤ S) : P_264_0 X (d + 1) C S kc ks (b_264_0 R) := by
  intro l0 hp q h
  unfold b_264_0 at h
  refine mjq_ic (v := (1 : Int32)) D_264_0 rfl ?_
  refine mjq_istore_n (lo' := [some (.ref l0), some (.int (1 : Int32))]) D_264_1 (Nat.le_of_ble_eq_true rfl) rfl ?_
  exact (T_264_2 hR h1 h2 mjN) _ _ _ _ h
noncomputable def f_264 (R : mjR) (a0 : Nat) (hp : mjH) : mjU := b_264_0 R a0 hp
theorem c_264 {R : mjR} {d : Nat} (hR : mjC R d) {a0 : Nat} {hp : mjH} {q : Option Value × mjH} (h : f_264 R a0 hp = some q) : mjM (d + 1) 0 0 264 [.ref a0] hp (mjEq q) :=
  mjM_of Ja_264 (Nat.le_of_ble_eq_true rfl) (mjG.fg (lo' := [some (.ref a0), none]) (And.intro rfl True.intro) ((t_264_0 hR (Nat.le_refl 0) (Nat.le_refl 0)) a0 hp q h))
def J_265 : mjI := (⟨"OwnerHeapModel", "sign", "(I)V"⟩, 12, prog_14_method_8_code, 3, none, 1, false)
theorem Ja_265 : mjMt 265 = some J_265 := by rfl
theorem D_265_0 : decode J_265.2.2.1 0 = .ok (.aload_n 0, 1) := by decide +kernel
theorem D_265_1 : decode J_265.2.2.1 1 = .ok (.iconst 4, 1) := by decide +kernel
theorem D_265_2 : decode J_265.2.2.1 2 = .ok (.putfield 316, 3) := by decide +kernel
theorem D_265_5 : decode J_265.2.2.1 5 = .ok (.aload_n 0, 1) := by decide +kernel
theorem D_265_6 : decode J_265.2.2.1 6 = .ok (.iload_n 1, 1) := by decide +kernel
theorem D_265_7 : decode J_265.2.2.1 7 = .ok (.putfield 319, 3) := by decide +kernel
theorem D_265_10 : decode J_265.2.2.1 10 = .ok (.aload_n 0, 1) := by decide +kernel
theorem D_265_11 : decode J_265.2.2.1 11 = .ok (.aload_n 0, 1) := by decide +kernel
theorem D_265_12 : decode J_265.2.2.1 12 = .ok (.getfield 310, 3) := by decide +kernel
theorem D_265_15 : decode J_265.2.2.1 15 = .ok (.iconst 1, 1) := by decide +kernel
theorem D_265_16 : decode J_265.2.2.1 16 = .ok (.iadd, 1) := by decide +kernel
theorem D_265_17 : decode J_265.2.2.1 17 = .ok (.putfield 307, 3) := by decide +kernel
theorem D_265_20 : decode J_265.2.2.1 20 = .ok (.aload_n 0, 1) := by decide +kernel
theorem D_265_21 : decode J_265.2.2.1 21 = .ok (.aload_n 0, 1) := by decide +kernel
theorem D_265_22 : decode J_265.2.2.1 22 = .ok (.getfield 310, 3) := by decide +kernel
theorem D_265_25 : decode J_265.2.2.1 25 = .ok (.iconst 1, 1) := by decide +kernel
theorem D_265_26 : decode J_265.2.2.1 26 = .ok (.iadd, 1) := by decide +kernel
theorem D_265_27 : decode J_265.2.2.1 27 = .ok (.invokevirtual 313, 3) := by decide +kernel
theorem D_265_30 : decode J_265.2.2.1 30 = .ok (.bipush 61, 2) := by decide +kernel
theorem D_265_32 : decode J_265.2.2.1 32 = .ok (.if_icmp .ne 19, 3) := by decide +kernel
theorem D_265_35 : decode J_265.2.2.1 35 = .ok (.iload_n 1, 1) := by decide +kernel
theorem D_265_36 : decode J_265.2.2.1 36 = .ok (.bipush 61, 2) := by decide +kernel
theorem D_265_38 : decode J_265.2.2.1 38 = .ok (.if_icmp .eq 9, 3) := by decide +kernel
theorem D_265_41 : decode J_265.2.2.1 41 = .ok (.iload_n 1, 1) := by decide +kernel
theorem D_265_42 : decode J_265.2.2.1 42 = .ok (.bipush 33, 2) := by decide +kernel
theorem D_265_44 : decode J_265.2.2.1 44 = .ok (.if_icmp .ne 7, 3) := by decide +kernel
theorem D_265_47 : decode J_265.2.2.1 47 = .ok (.iconst 1, 1) := by decide +kernel
theorem D_265_48 : decode J_265.2.2.1 48 = .ok (.goto 4, 3) := by decide +kernel
theorem D_265_51 : decode J_265.2.2.1 51 = .ok (.iconst 0, 1) := by decide +kernel
theorem D_265_52 : decode J_265.2.2.1 52 = .ok (.istore_n 2, 1) := by decide +kernel
theorem D_265_53 : decode J_265.2.2.1 53 = .ok (.iload_n 2, 1) := by decide +kernel
theorem D_265_54 : decode J_265.2.2.1 54 = .ok (.ifCond .eq 33, 3) := by decide +kernel
theorem D_265_57 : decode J_265.2.2.1 57 = .ok (.aload_n 0, 1) := by decide +kernel
theorem D_265_58 : decode J_265.2.2.1 58 = .ok (.iload_n 1, 1) := by decide +kernel
theorem D_265_59 : decode J_265.2.2.1 59 = .ok (.bipush 61, 2) := by decide +kernel
theorem D_265_61 : decode J_265.2.2.1 61 = .ok (.if_icmp .ne 9, 3) := by decide +kernel
theorem D_265_64 : decode J_265.2.2.1 64 = .ok (.sipush 257, 3) := by decide +kernel
theorem D_265_67 : decode J_265.2.2.1 67 = .ok (.goto 6, 3) := by decide +kernel
theorem D_265_70 : decode J_265.2.2.1 70 = .ok (.sipush 258, 3) := by decide +kernel
theorem D_265_73 : decode J_265.2.2.1 73 = .ok (.putfield 319, 3) := by decide +kernel
theorem D_265_76 : decode J_265.2.2.1 76 = .ok (.aload_n 0, 1) := by decide +kernel
theorem D_265_77 : decode J_265.2.2.1 77 = .ok (.aload_n 0, 1) := by decide +kernel
theorem D_265_78 : decode J_265.2.2.1 78 = .ok (.getfield 310, 3) := by decide +kernel
theorem D_265_81 : decode J_265.2.2.1 81 = .ok (.iconst 2, 1) := by decide +kernel
theorem D_265_82 : decode J_265.2.2.1 82 = .ok (.iadd, 1) := by decide +kernel
theorem D_265_83 : decode J_265.2.2.1 83 = .ok (.putfield 307, 3) := by decide +kernel
theorem D_265_86 : decode J_265.2.2.1 86 = .ok (.return_, 1) := by decide +kernel
theorem D_265_87 : decode J_265.2.2.1 87 = .ok (.iload_n 1, 1) := by decide +kernel
theorem D_265_88 : decode J_265.2.2.1 88 = .ok (.lookupswitch 143 #[(37, 140), (40, 140), (41, 140), (42, 140), (43, 140), (44, 140), (45, 140), (46, 140), (47, 140), (59, 140), (60, 140), (61, 140), (91, 140), (93, 140), (123, 140), (125, 140)], 140) := by decide +kernel
theorem D_265_228 : decode J_265.2.2.1 228 = .ok (.goto 9, 3) := by decide +kernel
theorem D_265_231 : decode J_265.2.2.1 231 = .ok (.aload_n 0, 1) := by decide +kernel
theorem D_265_232 : decode J_265.2.2.1 232 = .ok (.bipush 6, 2) := by decide +kernel
theorem D_265_234 : decode J_265.2.2.1 234 = .ok (.putfield 316, 3) := by decide +kernel
theorem D_265_237 : decode J_265.2.2.1 237 = .ok (.return_, 1) := by decide +kernel
def P_265_228 (X : mjX) (d C S kc ks : Nat) (k : mjH → mjU) : Prop := ∀  (hp : mjH) (q : Option Value × mjH), k  hp = some q → mjG X d C S J_265 (mjEq q) 228 [none, none, none] [] hp kc ks
def P_265_73 (X : mjX) (d C S kc ks : Nat) (k : Nat → Nat → Int32 → mjH → mjU) : Prop := ∀ (l0 : Nat) (s0 : Nat) (s1 : Int32) (hp : mjH) (q : Option Value × mjH), k l0 s0 s1 hp = some q → mjG X d C S J_265 (mjEq q) 73 [some (.ref l0), none, none] [.int s1, .ref s0] hp kc ks
def P_265_52 (X : mjX) (d C S kc ks : Nat) (k : Nat → Int32 → Int32 → mjH → mjU) : Prop := ∀ (l0 : Nat) (l1 : Int32) (s0 : Int32) (hp : mjH) (q : Option Value × mjH), k l0 l1 s0 hp = some q → mjG X d C S J_265 (mjEq q) 52 [some (.ref l0), some (.int l1), none] [.int s0] hp kc ks
def P_265_51 (X : mjX) (d C S kc ks : Nat) (k : Nat → Int32 → mjH → mjU) : Prop := ∀ (l0 : Nat) (l1 : Int32) (hp : mjH) (q : Option Value × mjH), k l0 l1 hp = some q → mjG X d C S J_265 (mjEq q) 51 [some (.ref l0), some (.int l1), none] [] hp kc ks
def P_265_47 (X : mjX) (d C S kc ks : Nat) (k : Nat → Int32 → mjH → mjU) : Prop := ∀ (l0 : Nat) (l1 : Int32) (hp : mjH) (q : Option Value × mjH), k l0 l1 hp = some q → mjG X d C S J_265 (mjEq q) 47 [some (.ref l0), some (.int l1), none] [] hp kc ks
def P_265_0 (X : mjX) (d C S kc ks : Nat) (k : Nat → Int32 → mjH → mjU) : Prop := ∀ (l0 : Nat) (l1 : Int32) (hp : mjH) (q : Option Value × mjH), k l0 l1 hp = some q → mjG X d C S J_265 (mjEq q) 0 [some (.ref l0), some (.int l1), none] [] hp kc ks
noncomputable def b_265_228 (R : mjR)  (hp : mjH) : mjU := some (none, hp)
theorem t_265_228 {X : mjX} {d C S kc ks : Nat} {R : mjR} (hR : mjC R d) (h1 : kc ≤ C) (h2 : ks ≤ S) : P_265_228 X (d + 1) C S kc ks (b_265_228 R) := by
  intro  hp q h
  unfold b_265_228 at h
  refine mjr_goto (tgt := 237) D_265_228 rfl ?_
  exact mjq_nret D_265_237 rfl h1 h2 h
noncomputable def b_265_73 (R : mjR) (l0 : Nat) (s0 : Nat) (s1 : Int32) (hp : mjH) : mjU := pI hp s0 12 6 s1 (fun hp1 => gI hp1 l0 12 4 (fun v2 => pI hp1 l0 12 5 (v2 + (2 : Int32)) (fun hp3 => some (none, hp3))))
theorem t_265_73 {X : mjX} {d C S kc ks : Nat} {R : mjR} (hR : mjC R d) (h1 : kc ≤ C) (h2 : ks ≤ S) : P_265_73 X (d + 1) C S kc ks (b_265_73 R) := by
  intro l0 s0 s1 hp q h
  unfold b_265_73 at h
  refine mjq_pI D_265_73 fr_12_319 rfl rfl h (fun hp1 h => ?_)
  refine mjr_aload_n (x := l0) D_265_76 rfl ?_
  refine mjr_aload_n (x := l0) D_265_77 rfl ?_
  refine mjq_gI D_265_78 fr_12_310 h (fun v2 h => ?_)
  refine mjq_ic (v := (2 : Int32)) D_265_81 rfl ?_
  refine mjr_iadd D_265_82 ?_
  refine mjq_pI D_265_83 fr_12_307 rfl rfl h (fun hp3 h => ?_)
  exact mjq_nret D_265_86 rfl h1 h2 h
noncomputable def b_265_52 (R : mjR) (l0 : Nat) (l1 : Int32) (s0 : Int32) (hp : mjH) : mjU := (if s0 = 0 then (if l1 = (37 : Int32) then b_265_228 R hp else if l1 = (40 : Int32) then b_265_228 R hp else if l1 = (41 : Int32) then b_265_228 R hp else if l1 = (42 : Int32) then b_265_228 R hp else if l1 = (43 : Int32) then b_265_228 R hp else if l1 = (44 : Int32) then b_265_228 R hp else if l1 = (45 : Int32) then b_265_228 R hp else if l1 = (46 : Int32) then b_265_228 R hp else if l1 = (47 : Int32) then b_265_228 R hp else if l1 = (59 : Int32) then b_265_228 R hp else if l1 = (60 : Int32) then b_265_228 R hp else if l1 = (61 : Int32) then b_265_228 R hp else if l1 = (91 : Int32) then b_265_228 R hp else if l1 = (93 : Int32) then b_265_228 R hp else if l1 = (123 : Int32) then b_265_228 R hp else if l1 = (125 : Int32) then b_265_228 R hp else pI hp l0 12 3 (6 : Int32) (fun hp17 => some (none, hp17))) else (if l1 = (61 : Int32) then b_265_73 R l0 l0 (257 : Int32) hp else b_265_73 R l0 l0 (258 : Int32) hp))
theorem t_265_52 {X : mjX} {d C S kc ks : Nat} {R : mjR} (hR : mjC R d) (h1 : kc ≤ C) (h2 : ks ≤ S) : P_265_52 X (d + 1) C S kc ks (b_265_52 R) := by
  intro l0 l1 s0 hp q h
  unfold b_265_52 at h
  refine mjq_istore_n (lo' := [some (.ref l0), some (.int l1), some (.int s0)]) D_265_52 (Nat.le_of_ble_eq_true rfl) rfl ?_
  refine mjr_iload_n (x := s0) D_265_53 rfl ?_
  refine mjq_if_eq (tgt := 87) D_265_54 rfl h (fun h => ?_) (fun h => ?_)
  · refine mjr_iload_n (x := l1) D_265_87 rfl ?_
    refine mjq_lsw (c := (37 : Int32)) (tgt := 228) D_265_88 rfl (by decide) h (fun h => ?_) (fun n1 h => ?_)
    · exact mjG.fg (lo' := [none, none, none]) True.intro ((t_265_228 hR h1 h2) _ _ h)
    refine mjq_lsw (c := (40 : Int32)) (tgt := 228) D_265_88 rfl (by decide) h (fun h => ?_) (fun n2 h => ?_)
    · exact mjG.fg (lo' := [none, none, none]) True.intro ((t_265_228 hR h1 h2) _ _ h)
    refine mjq_lsw (c := (41 : Int32)) (tgt := 228) D_265_88 rfl (by decide) h (fun h => ?_) (fun n3 h => ?_)
    · exact mjG.fg (lo' := [none, none, none]) True.intro ((t_265_228 hR h1 h2) _ _ h)
    refine mjq_lsw (c := (42 : Int32)) (tgt := 228) D_265_88 rfl (by decide) h (fun h => ?_) (fun n4 h => ?_)
    · exact mjG.fg (lo' := [none, none, none]) True.intro ((t_265_228 hR h1 h2) _ _ h)
    refine mjq_lsw (c := (43 : Int32)) (tgt := 228) D_265_88 rfl (by decide) h (fun h => ?_) (fun n5 h => ?_)
    · exact mjG.fg (lo' := [none, none, none]) True.intro ((t_265_228 hR h1 h2) _ _ h)
    refine mjq_lsw (c := (44 : Int32)) (tgt := 228) D_265_88 rfl (by decide) h (fun h => ?_) (fun n6 h => ?_)
    · exact mjG.fg (lo' := [none, none, none]) True.intro ((t_265_228 hR h1 h2) _ _ h)
    refine mjq_lsw (c := (45 : Int32)) (tgt := 228) D_265_88 rfl (by decide) h (fun h => ?_) (fun n7 h => ?_)
    · exact mjG.fg (lo' := [none, none, none]) True.intro ((t_265_228 hR h1 h2) _ _ h)
    refine mjq_lsw (c := (46 : Int32)) (tgt := 228) D_265_88 rfl (by decide) h (fun h => ?_) (fun n8 h => ?_)
    · exact mjG.fg (lo' := [none, none, none]) True.intro ((t_265_228 hR h1 h2) _ _ h)
    refine mjq_lsw (c := (47 : Int32)) (tgt := 228) D_265_88 rfl (by decide) h (fun h => ?_) (fun n9 h => ?_)
    · exact mjG.fg (lo' := [none, none, none]) True.intro ((t_265_228 hR h1 h2) _ _ h)
    refine mjq_lsw (c := (59 : Int32)) (tgt := 228) D_265_88 rfl (by decide) h (fun h => ?_) (fun n10 h => ?_)
    · exact mjG.fg (lo' := [none, none, none]) True.intro ((t_265_228 hR h1 h2) _ _ h)
    refine mjq_lsw (c := (60 : Int32)) (tgt := 228) D_265_88 rfl (by decide) h (fun h => ?_) (fun n11 h => ?_)
    · exact mjG.fg (lo' := [none, none, none]) True.intro ((t_265_228 hR h1 h2) _ _ h)
    refine mjq_lsw (c := (61 : Int32)) (tgt := 228) D_265_88 rfl (by decide) h (fun h => ?_) (fun n12 h => ?_)
    · exact mjG.fg (lo' := [none, none, none]) True.intro ((t_265_228 hR h1 h2) _ _ h)
    refine mjq_lsw (c := (91 : Int32)) (tgt := 228) D_265_88 rfl (by decide) h (fun h => ?_) (fun n13 h => ?_)
    · exact mjG.fg (lo' := [none, none, none]) True.intro ((t_265_228 hR h1 h2) _ _ h)
    refine mjq_lsw (c := (93 : Int32)) (tgt := 228) D_265_88 rfl (by decide) h (fun h => ?_) (fun n14 h => ?_)
    · exact mjG.fg (lo' := [none, none, none]) True.intro ((t_265_228 hR h1 h2) _ _ h)
    refine mjq_lsw (c := (123 : Int32)) (tgt := 228) D_265_88 rfl (by decide) h (fun h => ?_) (fun n15 h => ?_)
    · exact mjG.fg (lo' := [none, none, none]) True.intro ((t_265_228 hR h1 h2) _ _ h)
    refine mjq_lsw (c := (125 : Int32)) (tgt := 228) D_265_88 rfl (by decide) h (fun h => ?_) (fun n16 h => ?_)
    · exact mjG.fg (lo' := [none, none, none]) True.intro ((t_265_228 hR h1 h2) _ _ h)
    refine mjq_lswD (tgt := 231) [(37 : Int32), (40 : Int32), (41 : Int32), (42 : Int32), (43 : Int32), (44 : Int32), (45 : Int32), (46 : Int32), (47 : Int32), (59 : Int32), (60 : Int32), (61 : Int32), (91 : Int32), (93 : Int32), (123 : Int32), (125 : Int32)] D_265_88 rfl (by decide) (mj_all1 n1 (mj_all1 n2 (mj_all1 n3 (mj_all1 n4 (mj_all1 n5 (mj_all1 n6 (mj_all1 n7 (mj_all1 n8 (mj_all1 n9 (mj_all1 n10 (mj_all1 n11 (mj_all1 n12 (mj_all1 n13 (mj_all1 n14 (mj_all1 n15 (mj_all1 n16 mj_all0)))))))))))))))) rfl ?_
    refine mjr_aload_n (x := l0) D_265_231 rfl ?_
    refine mjq_bi (v := (6 : Int32)) D_265_232 rfl ?_
    refine mjq_pI D_265_234 fr_12_316 rfl rfl h (fun hp17 h => ?_)
    exact mjq_nret D_265_237 rfl h1 h2 h
  · refine mjr_aload_n (x := l0) D_265_57 rfl ?_
    refine mjr_iload_n (x := l1) D_265_58 rfl ?_
    refine mjq_bi (v := (61 : Int32)) D_265_59 rfl ?_
    refine mjq_icmp_ne (tgt := 70) D_265_61 rfl h (fun h => ?_) (fun h => ?_)
    · refine mjq_si (v := (258 : Int32)) D_265_70 rfl ?_
      exact mjG.fg (lo' := [some (.ref l0), none, none]) (And.intro rfl True.intro) ((t_265_73 hR h1 h2) _ _ _ _ _ h)
    · refine mjq_si (v := (257 : Int32)) D_265_64 rfl ?_
      refine mjr_goto (tgt := 73) D_265_67 rfl ?_
      exact mjG.fg (lo' := [some (.ref l0), none, none]) (And.intro rfl True.intro) ((t_265_73 hR h1 h2) _ _ _ _ _ h)
noncomputable def b_265_51 (R : mjR) (l0 : Nat) (l1 : Int32) (hp : mjH) : mjU := b_265_52 R l0 l1 (0 : Int32) hp
theorem t_265_51 {X : mjX} {d C S kc ks : Nat} {R : mjR} (hR : mjC R d) (h1 : kc ≤ C) (h2 : ks ≤ S) : P_265_51 X (d + 1) C S kc ks (b_265_51 R) := by
  intro l0 l1 hp q h
  unfold b_265_51 at h
  refine mjq_ic (v := (0 : Int32)) D_265_51 rfl ?_
  exact (t_265_52 hR h1 h2) _ _ _ _ _ h
noncomputable def b_265_47 (R : mjR) (l0 : Nat) (l1 : Int32) (hp : mjH) : mjU := b_265_52 R l0 l1 (1 : Int32) hp
theorem t_265_47 {X : mjX} {d C S kc ks : Nat} {R : mjR} (hR : mjC R d) (h1 : kc ≤ C) (h2 : ks ≤ S) : P_265_47 X (d + 1) C S kc ks (b_265_47 R) := by
  intro l0 l1 hp q h
  unfold b_265_47 at h
  refine mjq_ic (v := (1 : Int32)) D_265_47 rfl ?_
  refine mjr_goto (tgt := 52) D_265_48 rfl ?_
  exact (t_265_52 hR h1 h2) _ _ _ _ _ h
noncomputable def b_265_0 (R : mjR) (l0 : Nat) (l1 : Int32) (hp : mjH) : mjU := pI hp l0 12 3 (4 : Int32) (fun hp1 => pI hp1 l0 12 6 l1 (fun hp2 => gI hp2 l0 12 4 (fun v3 => pI hp2 l0 12 5 (v3 + (1 : Int32)) (fun hp4 => gI hp4 l0 12 4 (fun v5 => rV hp4 l0 12 (bI (R 263 [.ref l0, .int (v5 + (1 : Int32))] hp4) (fun v6 hp7 => (if v6 = (61 : Int32) then (if l1 = (61 : Int32) then b_265_47 R l0 l1 hp7 else (if l1 = (33 : Int32) then b_265_47 R l0 l1 hp7 else b_265_51 R l0 l1 hp7)) else b_265_51 R l0 l1 hp7))))))))
theorem t_265_0 {X : mjX} {d C S kc ks : Nat} {R : mjR} (hR : mjC R d) (h1 : kc ≤ C) (h2 : ks ≤ S) : P_265_0 X (d + 1) C S kc ks (b_265_0 R) := by
  intro l0 l1 hp q h
  unfold b_265_0 at h
  refine mjr_aload_n (x := l0) D_265_0 rfl ?_
  refine mjq_ic (v := (4 : Int32)) D_265_1 rfl ?_
  refine mjq_pI D_265_2 fr_12_316 rfl rfl h (fun hp1 h => ?_)
  refine mjr_aload_n (x := l0) D_265_5 rfl ?_
  refine mjr_iload_n (x := l1) D_265_6 rfl ?_
  refine mjq_pI D_265_7 fr_12_319 rfl rfl h (fun hp2 h => ?_)
  refine mjr_aload_n (x := l0) D_265_10 rfl ?_
  refine mjr_aload_n (x := l0) D_265_11 rfl ?_
  refine mjq_gI D_265_12 fr_12_310 h (fun v3 h => ?_)
  refine mjq_ic (v := (1 : Int32)) D_265_15 rfl ?_
  refine mjr_iadd D_265_16 ?_
  refine mjq_pI D_265_17 fr_12_307 rfl rfl h (fun hp4 h => ?_)
  refine mjr_aload_n (x := l0) D_265_20 rfl ?_
  refine mjr_aload_n (x := l0) D_265_21 rfl ?_
  refine mjq_gI D_265_22 fr_12_310 h (fun v5 h => ?_)
  refine mjq_ic (v := (1 : Int32)) D_265_25 rfl ?_
  refine mjr_iadd D_265_26 ?_
  refine mjq_vI (As := [.int (v5 + (1 : Int32))]) (rest := []) D_265_27 mr_12_313 V_263 rfl rfl rfl hR (Nat.le_refl _) h1 h2 h (fun v6 hp7 h => ?_)
  refine mjq_bi (v := (61 : Int32)) D_265_30 rfl ?_
  refine mjq_icmp_ne (tgt := 51) D_265_32 rfl h (fun h => ?_) (fun h => ?_)
  · exact (t_265_51 hR h1 h2) _ _ _ _ h
  · refine mjr_iload_n (x := l1) D_265_35 rfl ?_
    refine mjq_bi (v := (61 : Int32)) D_265_36 rfl ?_
    refine mjq_icmp_eq (tgt := 47) D_265_38 rfl h (fun h => ?_) (fun h => ?_)
    · exact (t_265_47 hR h1 h2) _ _ _ _ h
    · refine mjr_iload_n (x := l1) D_265_41 rfl ?_
      refine mjq_bi (v := (33 : Int32)) D_265_42 rfl ?_
      refine mjq_icmp_ne (tgt := 51) D_265_44 rfl h (fun h => ?_) (fun h => ?_)
      · exact (t_265_51 hR h1 h2) _ _ _ _ h
      · exact (t_265_47 hR h1 h2) _ _ _ _ h
noncomputable def f_265 (R : mjR) (a0 : Nat) (a1 : Int32) (hp : mjH) : mjU := b_265_0 R a0 a1 hp
theorem c_265 {R : mjR} {d : Nat} (hR : mjC R d) {a0 : Nat} {a1 : Int32} {hp : mjH} {q : Option Value × mjH} (h : f_265 R a0 a1 hp = some q) : mjM (d + 1) 0 0 265 [.ref a0, .int a1] hp (mjEq q) :=
  mjM_of Ja_265 (Nat.le_of_ble_eq_true rfl) (mjG.fg (lo' := [some (.ref a0), some (.int a1), none]) (And.intro rfl (And.intro rfl True.intro)) ((t_265_0 hR (Nat.le_refl 0) (Nat.le_refl 0)) a0 a1 hp q h))
def J_266 : mjI := (⟨"OwnerHeapModel", "isWord", "(I)Z"⟩, 12, prog_14_method_10_code, 2, (some .boolean), 1, false)
theorem Ja_266 : mjMt 266 = some J_266 := by rfl
theorem D_266_0 : decode J_266.2.2.1 0 = .ok (.aload_n 0, 1) := by decide +kernel
theorem D_266_1 : decode J_266.2.2.1 1 = .ok (.getfield 316, 3) := by decide +kernel
theorem D_266_4 : decode J_266.2.2.1 4 = .ok (.iconst 5, 1) := by decide +kernel
theorem D_266_5 : decode J_266.2.2.1 5 = .ok (.if_icmp .ne 15, 3) := by decide +kernel
theorem D_266_8 : decode J_266.2.2.1 8 = .ok (.aload_n 0, 1) := by decide +kernel
theorem D_266_9 : decode J_266.2.2.1 9 = .ok (.getfield 319, 3) := by decide +kernel
theorem D_266_12 : decode J_266.2.2.1 12 = .ok (.iload_n 1, 1) := by decide +kernel
theorem D_266_13 : decode J_266.2.2.1 13 = .ok (.if_icmp .ne 7, 3) := by decide +kernel
theorem D_266_16 : decode J_266.2.2.1 16 = .ok (.iconst 1, 1) := by decide +kernel
theorem D_266_17 : decode J_266.2.2.1 17 = .ok (.goto 4, 3) := by decide +kernel
theorem D_266_20 : decode J_266.2.2.1 20 = .ok (.iconst 0, 1) := by decide +kernel
theorem D_266_21 : decode J_266.2.2.1 21 = .ok (.ireturn, 1) := by decide +kernel
def P_266_20 (X : mjX) (d C S kc ks : Nat) (k : mjH → mjU) : Prop := ∀  (hp : mjH) (q : Option Value × mjH), k  hp = some q → mjG X d C S J_266 (mjEq q) 20 [none, none] [] hp kc ks
def P_266_0 (X : mjX) (d C S kc ks : Nat) (k : Nat → Int32 → mjH → mjU) : Prop := ∀ (l0 : Nat) (l1 : Int32) (hp : mjH) (q : Option Value × mjH), k l0 l1 hp = some q → mjG X d C S J_266 (mjEq q) 0 [some (.ref l0), some (.int l1)] [] hp kc ks
noncomputable def b_266_20 (R : mjR)  (hp : mjH) : mjU := some (some (.int (0 : Int32)), hp)
theorem t_266_20 {X : mjX} {d C S kc ks : Nat} {R : mjR} (hR : mjC R d) (h1 : kc ≤ C) (h2 : ks ≤ S) : P_266_20 X (d + 1) C S kc ks (b_266_20 R) := by
  intro  hp q h
  unfold b_266_20 at h
  refine mjq_ic (v := (0 : Int32)) D_266_20 rfl ?_
  exact mjr_ireturn D_266_21 rfl rfl h1 h2 (Option.some.inj h)
noncomputable def b_266_0 (R : mjR) (l0 : Nat) (l1 : Int32) (hp : mjH) : mjU := gI hp l0 12 3 (fun v1 => (if v1 = (5 : Int32) then gI hp l0 12 6 (fun v2 => (if v2 = l1 then some (some (.int (1 : Int32)), hp) else b_266_20 R hp)) else b_266_20 R hp))
theorem t_266_0 {X : mjX} {d C S kc ks : Nat} {R : mjR} (hR : mjC R d) (h1 : kc ≤ C) (h2 : ks ≤ S) : P_266_0 X (d + 1) C S kc ks (b_266_0 R) := by
  intro l0 l1 hp q h
  unfold b_266_0 at h
  refine mjr_aload_n (x := l0) D_266_0 rfl ?_
  refine mjq_gI D_266_1 fr_12_316 h (fun v1 h => ?_)
  refine mjq_ic (v := (5 : Int32)) D_266_4 rfl ?_
  refine mjq_icmp_ne (tgt := 20) D_266_5 rfl h (fun h => ?_) (fun h => ?_)
  · exact mjG.fg (lo' := [none, none]) True.intro ((t_266_20 hR h1 h2) _ _ h)
  · refine mjr_aload_n (x := l0) D_266_8 rfl ?_
    refine mjq_gI D_266_9 fr_12_319 h (fun v2 h => ?_)
    refine mjr_iload_n (x := l1) D_266_12 rfl ?_
    refine mjq_icmp_ne (tgt := 20) D_266_13 rfl h (fun h => ?_) (fun h => ?_)
    · exact mjG.fg (lo' := [none, none]) True.intro ((t_266_20 hR h1 h2) _ _ h)
    · refine mjq_ic (v := (1 : Int32)) D_266_16 rfl ?_
      refine mjr_goto (tgt := 21) D_266_17 rfl ?_
      exact mjr_ireturn D_266_21 rfl rfl h1 h2 (Option.some.inj h)
noncomputable def f_266 (R : mjR) (a0 : Nat) (a1 : Int32) (hp : mjH) : mjU := b_266_0 R a0 a1 hp
theorem c_266 {R : mjR} {d : Nat} (hR : mjC R d) {a0 : Nat} {a1 : Int32} {hp : mjH} {q : Option Value × mjH} (h : f_266 R a0 a1 hp = some q) : mjM (d + 1) 0 0 266 [.ref a0, .int a1] hp (mjEq q) :=
  mjM_of Ja_266 (Nat.le_of_ble_eq_true rfl) (mjG.fg (lo' := [some (.ref a0), some (.int a1)]) (And.intro rfl (And.intro rfl True.intro)) ((t_266_0 hR (Nat.le_refl 0) (Nat.le_refl 0)) a0 a1 hp q h))
def J_268 : mjI := (⟨"OwnerHeapModel", "fail", "(II)V"⟩, 12, prog_14_method_11_code, 3, none, 2, false)
theorem Ja_268 : mjMt 268 = some J_268 := by rfl
theorem D_268_0 : decode J_268.2.2.1 0 = .ok (.aload_n 0, 1) := by decide +kernel
theorem D_268_1 : decode J_268.2.2.1 1 = .ok (.getfield 333, 3) := by decide +kernel
theorem D_268_4 : decode J_268.2.2.1 4 = .ok (.ifCond .le 4, 3) := by decide +kernel
theorem D_268_7 : decode J_268.2.2.1 7 = .ok (.return_, 1) := by decide +kernel
theorem D_268_8 : decode J_268.2.2.1 8 = .ok (.aload_n 0, 1) := by decide +kernel
theorem D_268_9 : decode J_268.2.2.1 9 = .ok (.iload_n 1, 1) := by decide +kernel
theorem D_268_10 : decode J_268.2.2.1 10 = .ok (.putfield 333, 3) := by decide +kernel
theorem D_268_13 : decode J_268.2.2.1 13 = .ok (.aload_n 0, 1) := by decide +kernel
theorem D_268_14 : decode J_268.2.2.1 14 = .ok (.iload_n 2, 1) := by decide +kernel
theorem D_268_15 : decode J_268.2.2.1 15 = .ok (.putfield 336, 3) := by decide +kernel
theorem D_268_18 : decode J_268.2.2.1 18 = .ok (.return_, 1) := by decide +kernel
def P_268_0 (X : mjX) (d C S kc ks : Nat) (k : Nat → Int32 → Int32 → mjH → mjU) : Prop := ∀ (l0 : Nat) (l1 : Int32) (l2 : Int32) (hp : mjH) (q : Option Value × mjH), k l0 l1 l2 hp = some q → mjG X d C S J_268 (mjEq q) 0 [some (.ref l0), some (.int l1), some (.int l2)] [] hp kc ks
noncomputable def b_268_0 (R : mjR) (l0 : Nat) (l1 : Int32) (l2 : Int32) (hp : mjH) : mjU := gI hp l0 12 61 (fun v1 => (if v1 ≤ 0 then pI hp l0 12 61 l1 (fun hp2 => pI hp2 l0 12 62 l2 (fun hp3 => some (none, hp3))) else some (none, hp)))
theorem t_268_0 {X : mjX} {d C S kc ks : Nat} {R : mjR} (hR : mjC R d) (h1 : kc ≤ C) (h2 : ks ≤ S) : P_268_0 X (d + 1) C S kc ks (b_268_0 R) := by
  intro l0 l1 l2 hp q h
  unfold b_268_0 at h
  refine mjr_aload_n (x := l0) D_268_0 rfl ?_
  refine mjq_gI D_268_1 fr_12_333 h (fun v1 h => ?_)
  refine mjq_if_le (tgt := 8) D_268_4 rfl h (fun h => ?_) (fun h => ?_)
  · refine mjr_aload_n (x := l0) D_268_8 rfl ?_
    refine mjr_iload_n (x := l1) D_268_9 rfl ?_
    refine mjq_pI D_268_10 fr_12_333 rfl rfl h (fun hp2 h => ?_)
    refine mjr_aload_n (x := l0) D_268_13 rfl ?_
    refine mjr_iload_n (x := l2) D_268_14 rfl ?_
    refine mjq_pI D_268_15 fr_12_336 rfl rfl h (fun hp3 h => ?_)
    exact mjq_nret D_268_18 rfl h1 h2 h
  · exact mjq_nret D_268_7 rfl h1 h2 h
noncomputable def f_268 (R : mjR) (a0 : Nat) (a1 : Int32) (a2 : Int32) (hp : mjH) : mjU := b_268_0 R a0 a1 a2 hp
theorem c_268 {R : mjR} {d : Nat} (hR : mjC R d) {a0 : Nat} {a1 : Int32} {a2 : Int32} {hp : mjH} {q : Option Value × mjH} (h : f_268 R a0 a1 a2 hp = some q) : mjM (d + 1) 0 0 268 [.ref a0, .int a1, .int a2] hp (mjEq q) :=
  mjM_of Ja_268 (Nat.le_of_ble_eq_true rfl) (mjG.fg (lo' := [some (.ref a0), some (.int a1), some (.int a2)]) (And.intro rfl (And.intro rfl (And.intro rfl True.intro))) ((t_268_0 hR (Nat.le_refl 0) (Nat.le_refl 0)) a0 a1 a2 hp q h))
def J_269 : mjI := (⟨"OwnerHeapModel", "wrong", "()V"⟩, 12, prog_14_method_12_code, 1, none, 0, false)
theorem Ja_269 : mjMt 269 = some J_269 := by rfl
theorem D_269_0 : decode J_269.2.2.1 0 = .ok (.aload_n 0, 1) := by decide +kernel
theorem D_269_1 : decode J_269.2.2.1 1 = .ok (.aload_n 0, 1) := by decide +kernel
theorem D_269_2 : decode J_269.2.2.1 2 = .ok (.getfield 316, 3) := by decide +kernel
theorem D_269_5 : decode J_269.2.2.1 5 = .ok (.bipush 6, 2) := by decide +kernel
theorem D_269_7 : decode J_269.2.2.1 7 = .ok (.if_icmp .ne 7, 3) := by decide +kernel
theorem D_269_10 : decode J_269.2.2.1 10 = .ok (.iconst 1, 1) := by decide +kernel
theorem D_269_11 : decode J_269.2.2.1 11 = .ok (.goto 4, 3) := by decide +kernel
theorem D_269_14 : decode J_269.2.2.1 14 = .ok (.iconst 2, 1) := by decide +kernel
theorem D_269_15 : decode J_269.2.2.1 15 = .ok (.aload_n 0, 1) := by decide +kernel
theorem D_269_16 : decode J_269.2.2.1 16 = .ok (.getfield 310, 3) := by decide +kernel
theorem D_269_19 : decode J_269.2.2.1 19 = .ok (.invokevirtual 339, 3) := by decide +kernel
theorem D_269_22 : decode J_269.2.2.1 22 = .ok (.return_, 1) := by decide +kernel
def P_269_15 (X : mjX) (d C S kc ks : Nat) (k : Nat → Nat → Int32 → mjH → mjU) : Prop := ∀ (l0 : Nat) (s0 : Nat) (s1 : Int32) (hp : mjH) (q : Option Value × mjH), k l0 s0 s1 hp = some q → mjG X d C S J_269 (mjEq q) 15 [some (.ref l0)] [.int s1, .ref s0] hp kc ks
def P_269_0 (X : mjX) (d C S kc ks : Nat) (k : Nat → mjH → mjU) : Prop := ∀ (l0 : Nat) (hp : mjH) (q : Option Value × mjH), k l0 hp = some q → mjG X d C S J_269 (mjEq q) 0 [some (.ref l0)] [] hp kc ks
noncomputable def b_269_15 (R : mjR) (l0 : Nat) (s0 : Nat) (s1 : Int32) (hp : mjH) : mjU := gI hp l0 12 4 (fun v1 => rV hp s0 12 (bN (R 268 [.ref s0, .int s1, .int v1] hp) (fun  hp2 => some (none, hp2))))
theorem t_269_15 {X : mjX} {d C S kc ks : Nat} {R : mjR} (hR : mjC R d) (h1 : kc ≤ C) (h2 : ks ≤ S) : P_269_15 X (d + 1) C S kc ks (b_269_15 R) := by
  intro l0 s0 s1 hp q h
  unfold b_269_15 at h
  refine mjr_aload_n (x := l0) D_269_15 rfl ?_
  refine mjq_gI D_269_16 fr_12_310 h (fun v1 h => ?_)
  refine mjq_vN (As := [.int s1, .int v1]) (rest := []) D_269_19 mr_12_339 V_268 rfl rfl rfl hR (Nat.le_refl _) h1 h2 h (fun  hp2 h => ?_)
  exact mjq_nret D_269_22 rfl h1 h2 h
noncomputable def b_269_0 (R : mjR) (l0 : Nat) (hp : mjH) : mjU := gI hp l0 12 3 (fun v1 => (if v1 = (6 : Int32) then b_269_15 R l0 l0 (1 : Int32) hp else b_269_15 R l0 l0 (2 : Int32) hp))
theorem t_269_0 {X : mjX} {d C S kc ks : Nat} {R : mjR} (hR : mjC R d) (h1 : kc ≤ C) (h2 : ks ≤ S) : P_269_0 X (d + 1) C S kc ks (b_269_0 R) := by
  intro l0 hp q h
  unfold b_269_0 at h
  refine mjr_aload_n (x := l0) D_269_0 rfl ?_
  refine mjr_aload_n (x := l0) D_269_1 rfl ?_
  refine mjq_gI D_269_2 fr_12_316 h (fun v1 h => ?_)
  refine mjq_bi (v := (6 : Int32)) D_269_5 rfl ?_
  refine mjq_icmp_ne (tgt := 14) D_269_7 rfl h (fun h => ?_) (fun h => ?_)
  · refine mjq_ic (v := (2 : Int32)) D_269_14 rfl ?_
    exact (t_269_15 hR h1 h2) _ _ _ _ _ h
  · refine mjq_ic (v := (1 : Int32)) D_269_10 rfl ?_
    refine mjr_goto (tgt := 15) D_269_11 rfl ?_
    exact (t_269_15 hR h1 h2) _ _ _ _ _ h
noncomputable def f_269 (R : mjR) (a0 : Nat) (hp : mjH) : mjU := b_269_0 R a0 hp
theorem c_269 {R : mjR} {d : Nat} (hR : mjC R d) {a0 : Nat} {hp : mjH} {q : Option Value × mjH} (h : f_269 R a0 hp = some q) : mjM (d + 1) 0 0 269 [.ref a0] hp (mjEq q) :=
  mjM_of Ja_269 (Nat.le_of_ble_eq_true rfl) (mjG.fg (lo' := [some (.ref a0)]) (And.intro rfl True.intro) ((t_269_0 hR (Nat.le_refl 0) (Nat.le_refl 0)) a0 hp q h))
def J_336 : mjI := (⟨"OwnerHeapModel", "fault", "(I)I"⟩, 12, prog_14_method_112_code, 2, (some .int), 1, false)
theorem Ja_336 : mjMt 336 = some J_336 := by rfl
theorem D_336_0 : decode J_336.2.2.1 0 = .ok (.iload_n 1, 1) := by decide +kernel
theorem D_336_1 : decode J_336.2.2.1 1 = .ok (.ifCond .ne 10, 3) := by decide +kernel
theorem D_336_4 : decode J_336.2.2.1 4 = .ok (.aload_n 0, 1) := by decide +kernel
theorem D_336_5 : decode J_336.2.2.1 5 = .ok (.getfield 163, 3) := by decide +kernel
theorem D_336_8 : decode J_336.2.2.1 8 = .ok (.goto 16, 3) := by decide +kernel
theorem D_336_11 : decode J_336.2.2.1 11 = .ok (.iload_n 1, 1) := by decide +kernel
theorem D_336_12 : decode J_336.2.2.1 12 = .ok (.iconst 1, 1) := by decide +kernel
theorem D_336_13 : decode J_336.2.2.1 13 = .ok (.if_icmp .ne 10, 3) := by decide +kernel
theorem D_336_16 : decode J_336.2.2.1 16 = .ok (.aload_n 0, 1) := by decide +kernel
theorem D_336_17 : decode J_336.2.2.1 17 = .ok (.getfield 167, 3) := by decide +kernel
theorem D_336_20 : decode J_336.2.2.1 20 = .ok (.goto 4, 3) := by decide +kernel
theorem D_336_23 : decode J_336.2.2.1 23 = .ok (.iconst (-1), 1) := by decide +kernel
theorem D_336_24 : decode J_336.2.2.1 24 = .ok (.ireturn, 1) := by decide +kernel
def P_336_0 (X : mjX) (d C S kc ks : Nat) (k : Nat → Int32 → mjH → mjU) : Prop := ∀ (l0 : Nat) (l1 : Int32) (hp : mjH) (q : Option Value × mjH), k l0 l1 hp = some q → mjG X d C S J_336 (mjEq q) 0 [some (.ref l0), some (.int l1)] [] hp kc ks
noncomputable def b_336_0 (R : mjR) (l0 : Nat) (l1 : Int32) (hp : mjH) : mjU := (if l1 = 0 then gI hp l0 12 59 (fun v2 => some (some (.int v2), hp)) else (if l1 = (1 : Int32) then gI hp l0 12 60 (fun v1 => some (some (.int v1), hp)) else some (some (.int (-1 : Int32)), hp)))
theorem t_336_0 {X : mjX} {d C S kc ks : Nat} {R : mjR} (hR : mjC R d) (h1 : kc ≤ C) (h2 : ks ≤ S) : P_336_0 X (d + 1) C S kc ks (b_336_0 R) := by
  intro l0 l1 hp q h
  unfold b_336_0 at h
  refine mjr_iload_n (x := l1) D_336_0 rfl ?_
  refine mjq_if_ne (tgt := 11) D_336_1 rfl h (fun h => ?_) (fun h => ?_)
  · refine mjr_iload_n (x := l1) D_336_11 rfl ?_
    refine mjq_ic (v := (1 : Int32)) D_336_12 rfl ?_
    refine mjq_icmp_ne (tgt := 23) D_336_13 rfl h (fun h => ?_) (fun h => ?_)
    · refine mjq_ic (v := (-1 : Int32)) D_336_23 rfl ?_
      exact mjq_ret D_336_24 rfl h1 h2 h
    · refine mjr_aload_n (x := l0) D_336_16 rfl ?_
      refine mjq_gI D_336_17 fr_12_167 h (fun v1 h => ?_)
      refine mjr_goto (tgt := 24) D_336_20 rfl ?_
      exact mjq_ret D_336_24 rfl h1 h2 h
  · refine mjr_aload_n (x := l0) D_336_4 rfl ?_
    refine mjq_gI D_336_5 fr_12_163 h (fun v2 h => ?_)
    refine mjr_goto (tgt := 24) D_336_8 rfl ?_
    exact mjq_ret D_336_24 rfl h1 h2 h
noncomputable def f_336 (R : mjR) (a0 : Nat) (a1 : Int32) (hp : mjH) : mjU := b_336_0 R a0 a1 hp
theorem c_336 {R : mjR} {d : Nat} (hR : mjC R d) {a0 : Nat} {a1 : Int32} {hp : mjH} {q : Option Value × mjH} (h : f_336 R a0 a1 hp = some q) : mjM (d + 1) 0 0 336 [.ref a0, .int a1] hp (mjEq q) :=
  mjM_of Ja_336 (Nat.le_of_ble_eq_true rfl) (mjG.fg (lo' := [some (.ref a0), some (.int a1)]) (And.intro rfl (And.intro rfl True.intro)) ((t_336_0 hR (Nat.le_refl 0) (Nat.le_refl 0)) a0 a1 hp q h))
def J_337 : mjI := (⟨"OwnerHeapModel", "type", "(II)I"⟩, 12, prog_14_method_114_code, 4, (some .int), 2, false)
theorem Ja_337 : mjMt 337 = some J_337 := by rfl
theorem D_337_0 : decode J_337.2.2.1 0 = .ok (.aload_n 0, 1) := by decide +kernel
theorem D_337_1 : decode J_337.2.2.1 1 = .ok (.iload_n 1, 1) := by decide +kernel
theorem D_337_2 : decode J_337.2.2.1 2 = .ok (.invokevirtual 759, 3) := by decide +kernel
theorem D_337_5 : decode J_337.2.2.1 5 = .ok (.ifCond .ne 5, 3) := by decide +kernel
theorem D_337_8 : decode J_337.2.2.1 8 = .ok (.iconst (-1), 1) := by decide +kernel
theorem D_337_9 : decode J_337.2.2.1 9 = .ok (.ireturn, 1) := by decide +kernel
theorem D_337_10 : decode J_337.2.2.1 10 = .ok (.bipush 16, 2) := by decide +kernel
theorem D_337_12 : decode J_337.2.2.1 12 = .ok (.aload_n 0, 1) := by decide +kernel
theorem D_337_13 : decode J_337.2.2.1 13 = .ok (.getfield 648, 3) := by decide +kernel
theorem D_337_16 : decode J_337.2.2.1 16 = .ok (.imul, 1) := by decide +kernel
theorem D_337_17 : decode J_337.2.2.1 17 = .ok (.iload_n 1, 1) := by decide +kernel
theorem D_337_18 : decode J_337.2.2.1 18 = .ok (.iadd, 1) := by decide +kernel
theorem D_337_19 : decode J_337.2.2.1 19 = .ok (.istore_n 3, 1) := by decide +kernel
theorem D_337_20 : decode J_337.2.2.1 20 = .ok (.iload_n 2, 1) := by decide +kernel
theorem D_337_21 : decode J_337.2.2.1 21 = .ok (.tableswitch 101 0 5 #[39, 46, 73, 80, 87, 94], 39) := by decide +kernel
theorem D_337_60 : decode J_337.2.2.1 60 = .ok (.aload_n 0, 1) := by decide +kernel
theorem D_337_61 : decode J_337.2.2.1 61 = .ok (.getfield 30, 3) := by decide +kernel
theorem D_337_64 : decode J_337.2.2.1 64 = .ok (.iload_n 3, 1) := by decide +kernel
theorem D_337_65 : decode J_337.2.2.1 65 = .ok (.iaload, 1) := by decide +kernel
theorem D_337_66 : decode J_337.2.2.1 66 = .ok (.ireturn, 1) := by decide +kernel
theorem D_337_67 : decode J_337.2.2.1 67 = .ok (.aload_n 0, 1) := by decide +kernel
theorem D_337_68 : decode J_337.2.2.1 68 = .ok (.iload_n 3, 1) := by decide +kernel
theorem D_337_69 : decode J_337.2.2.1 69 = .ok (.invokevirtual 538, 3) := by decide +kernel
theorem D_337_72 : decode J_337.2.2.1 72 = .ok (.iconst (-1), 1) := by decide +kernel
theorem D_337_73 : decode J_337.2.2.1 73 = .ok (.if_icmp .ne 7, 3) := by decide +kernel
theorem D_337_76 : decode J_337.2.2.1 76 = .ok (.iconst (-1), 1) := by decide +kernel
theorem D_337_77 : decode J_337.2.2.1 77 = .ok (.goto 16, 3) := by decide +kernel
theorem D_337_80 : decode J_337.2.2.1 80 = .ok (.aload_n 0, 1) := by decide +kernel
theorem D_337_81 : decode J_337.2.2.1 81 = .ok (.iload_n 3, 1) := by decide +kernel
theorem D_337_82 : decode J_337.2.2.1 82 = .ok (.invokevirtual 538, 3) := by decide +kernel
theorem D_337_85 : decode J_337.2.2.1 85 = .ok (.bipush 16, 2) := by decide +kernel
theorem D_337_87 : decode J_337.2.2.1 87 = .ok (.aload_n 0, 1) := by decide +kernel
theorem D_337_88 : decode J_337.2.2.1 88 = .ok (.getfield 648, 3) := by decide +kernel
theorem D_337_91 : decode J_337.2.2.1 91 = .ok (.imul, 1) := by decide +kernel
theorem D_337_92 : decode J_337.2.2.1 92 = .ok (.isub, 1) := by decide +kernel
theorem D_337_93 : decode J_337.2.2.1 93 = .ok (.ireturn, 1) := by decide +kernel
theorem D_337_94 : decode J_337.2.2.1 94 = .ok (.aload_n 0, 1) := by decide +kernel
theorem D_337_95 : decode J_337.2.2.1 95 = .ok (.getfield 45, 3) := by decide +kernel
theorem D_337_98 : decode J_337.2.2.1 98 = .ok (.iload_n 3, 1) := by decide +kernel
theorem D_337_99 : decode J_337.2.2.1 99 = .ok (.iaload, 1) := by decide +kernel
theorem D_337_100 : decode J_337.2.2.1 100 = .ok (.ireturn, 1) := by decide +kernel
theorem D_337_101 : decode J_337.2.2.1 101 = .ok (.aload_n 0, 1) := by decide +kernel
theorem D_337_102 : decode J_337.2.2.1 102 = .ok (.getfield 48, 3) := by decide +kernel
theorem D_337_105 : decode J_337.2.2.1 105 = .ok (.iload_n 3, 1) := by decide +kernel
theorem D_337_106 : decode J_337.2.2.1 106 = .ok (.iaload, 1) := by decide +kernel
theorem D_337_107 : decode J_337.2.2.1 107 = .ok (.ireturn, 1) := by decide +kernel
theorem D_337_108 : decode J_337.2.2.1 108 = .ok (.aload_n 0, 1) := by decide +kernel
theorem D_337_109 : decode J_337.2.2.1 109 = .ok (.getfield 36, 3) := by decide +kernel
theorem D_337_112 : decode J_337.2.2.1 112 = .ok (.iload_n 3, 1) := by decide +kernel
theorem D_337_113 : decode J_337.2.2.1 113 = .ok (.iaload, 1) := by decide +kernel
theorem D_337_114 : decode J_337.2.2.1 114 = .ok (.ireturn, 1) := by decide +kernel
theorem D_337_115 : decode J_337.2.2.1 115 = .ok (.aload_n 0, 1) := by decide +kernel
theorem D_337_116 : decode J_337.2.2.1 116 = .ok (.getfield 24, 3) := by decide +kernel
theorem D_337_119 : decode J_337.2.2.1 119 = .ok (.iload_n 3, 1) := by decide +kernel
theorem D_337_120 : decode J_337.2.2.1 120 = .ok (.iaload, 1) := by decide +kernel
theorem D_337_121 : decode J_337.2.2.1 121 = .ok (.ireturn, 1) := by decide +kernel
theorem D_337_122 : decode J_337.2.2.1 122 = .ok (.iconst (-1), 1) := by decide +kernel
theorem D_337_123 : decode J_337.2.2.1 123 = .ok (.ireturn, 1) := by decide +kernel
def P_337_0 (X : mjX) (d C S kc ks : Nat) (k : Nat → Int32 → Int32 → mjH → mjU) : Prop := ∀ (l0 : Nat) (l1 : Int32) (l2 : Int32) (hp : mjH) (q : Option Value × mjH), k l0 l1 l2 hp = some q → mjG X d C S J_337 (mjEq q) 0 [some (.ref l0), some (.int l1), some (.int l2), none] [] hp kc ks
noncomputable def b_337_0 (R : mjR) (l0 : Nat) (l1 : Int32) (l2 : Int32) (hp : mjH) : mjU := rV hp l0 12 (bI (R 338 [.ref l0, .int l1] hp) (fun v1 hp2 => (if v1 = 0 then some (some (.int (-1 : Int32)), hp2) else gI hp2 l0 12 9 (fun v3 => (if l2 = (0 : Int32) then gR hp2 l0 12 15 (fun v5 => aI hp2 v5 (((16 : Int32) * v3) + l1) (fun v6 => some (some (.int v6), hp2))) else if l2 = (1 : Int32) then rV hp2 l0 12 (bI (R 242 [.ref l0, .int (((16 : Int32) * v3) + l1)] hp2) (fun v8 hp9 => (if v8 = (-1 : Int32) then some (some (.int (-1 : Int32)), hp9) else rV hp9 l0 12 (bI (R 242 [.ref l0, .int (((16 : Int32) * v3) + l1)] hp9) (fun v10 hp11 => gI hp11 l0 12 9 (fun v12 => some (some (.int (v10 - ((16 : Int32) * v12))), hp11))))))) else if l2 = (2 : Int32) then gR hp2 l0 12 20 (fun v14 => aI hp2 v14 (((16 : Int32) * v3) + l1) (fun v15 => some (some (.int v15), hp2))) else if l2 = (3 : Int32) then gR hp2 l0 12 21 (fun v17 => aI hp2 v17 (((16 : Int32) * v3) + l1) (fun v18 => some (some (.int v18), hp2))) else if l2 = (4 : Int32) then gR hp2 l0 12 17 (fun v20 => aI hp2 v20 (((16 : Int32) * v3) + l1) (fun v21 => some (some (.int v21), hp2))) else if l2 = (5 : Int32) then gR hp2 l0 12 13 (fun v23 => aI hp2 v23 (((16 : Int32) * v3) + l1) (fun v24 => some (some (.int v24), hp2))) else some (some (.int (-1 : Int32)), hp2))))))
theorem t_337_0 {X : mjX} {d C S kc ks : Nat} {R : mjR} (hR : mjC R d) (h1 : kc ≤ C) (h2 : ks ≤ S) : P_337_0 X (d + 1) C S kc ks (b_337_0 R) := by
  intro l0 l1 l2 hp q h
  unfold b_337_0 at h
  refine mjr_aload_n (x := l0) D_337_0 rfl ?_
  refine mjr_iload_n (x := l1) D_337_1 rfl ?_
  refine mjq_vI (As := [.int l1]) (rest := []) D_337_2 mr_12_759 V_338 rfl rfl rfl hR (Nat.le_refl _) h1 h2 h (fun v1 hp2 h => ?_)
  refine mjq_if_ne (tgt := 10) D_337_5 rfl h (fun h => ?_) (fun h => ?_)
  · refine mjq_bi (v := (16 : Int32)) D_337_10 rfl ?_
    refine mjr_aload_n (x := l0) D_337_12 rfl ?_
    refine mjq_gI D_337_13 fr_12_648 h (fun v3 h => ?_)
    refine mjr_imul D_337_16 ?_
    refine mjr_iload_n (x := l1) D_337_17 rfl ?_
    refine mjr_iadd D_337_18 ?_
    refine mjq_istore_n (lo' := [some (.ref l0), some (.int l1), some (.int l2), some (.int (((16 : Int32) * v3) + l1))]) D_337_19 (Nat.le_of_ble_eq_true rfl) rfl ?_
    refine mjr_iload_n (x := l2) D_337_20 rfl ?_
    refine mjq_tsw (c := (0 : Int32)) (tgt := 60) D_337_21 (by decide) (by decide) rfl rfl h (fun h => ?_) (fun n4 h => ?_)
    · refine mjr_aload_n (x := l0) D_337_60 rfl ?_
      refine mjq_gR D_337_61 fr_12_30 h (fun v5 h => ?_)
      refine mjr_iload_n (x := (((16 : Int32) * v3) + l1)) D_337_64 rfl ?_
      refine mjq_aI D_337_65 h (fun v6 h => ?_)
      exact mjq_ret D_337_66 rfl h1 h2 h
    refine mjq_tsw (c := (1 : Int32)) (tgt := 67) D_337_21 (by decide) (by decide) rfl rfl h (fun h => ?_) (fun n7 h => ?_)
    · refine mjr_aload_n (x := l0) D_337_67 rfl ?_
      refine mjr_iload_n (x := (((16 : Int32) * v3) + l1)) D_337_68 rfl ?_
      refine mjq_vI (As := [.int (((16 : Int32) * v3) + l1)]) (rest := []) D_337_69 mr_12_538 V_242 rfl rfl rfl hR (Nat.le_refl _) h1 h2 h (fun v8 hp9 h => ?_)
      refine mjq_ic (v := (-1 : Int32)) D_337_72 rfl ?_
      refine mjq_icmp_ne (tgt := 80) D_337_73 rfl h (fun h => ?_) (fun h => ?_)
      · refine mjr_aload_n (x := l0) D_337_80 rfl ?_
        refine mjr_iload_n (x := (((16 : Int32) * v3) + l1)) D_337_81 rfl ?_
        refine mjq_vI (As := [.int (((16 : Int32) * v3) + l1)]) (rest := []) D_337_82 mr_12_538 V_242 rfl rfl rfl hR (Nat.le_refl _) h1 h2 h (fun v10 hp11 h => ?_)
        refine mjq_bi (v := (16 : Int32)) D_337_85 rfl ?_
        refine mjr_aload_n (x := l0) D_337_87 rfl ?_
        refine mjq_gI D_337_88 fr_12_648 h (fun v12 h => ?_)
        refine mjr_imul D_337_91 ?_
        refine mjr_isub D_337_92 ?_
        exact mjq_ret D_337_93 rfl h1 h2 h
      · refine mjq_ic (v := (-1 : Int32)) D_337_76 rfl ?_
        refine mjr_goto (tgt := 93) D_337_77 rfl ?_
        exact mjq_ret D_337_93 rfl h1 h2 h
    refine mjq_tsw (c := (2 : Int32)) (tgt := 94) D_337_21 (by decide) (by decide) rfl rfl h (fun h => ?_) (fun n13 h => ?_)
    · refine mjr_aload_n (x := l0) D_337_94 rfl ?_
      refine mjq_gR D_337_95 fr_12_45 h (fun v14 h => ?_)
      refine mjr_iload_n (x := (((16 : Int32) * v3) + l1)) D_337_98 rfl ?_
      refine mjq_aI D_337_99 h (fun v15 h => ?_)
      exact mjq_ret D_337_100 rfl h1 h2 h
    refine mjq_tsw (c := (3 : Int32)) (tgt := 101) D_337_21 (by decide) (by decide) rfl rfl h (fun h => ?_) (fun n16 h => ?_)
    · refine mjr_aload_n (x := l0) D_337_101 rfl ?_
      refine mjq_gR D_337_102 fr_12_48 h (fun v17 h => ?_)
      refine mjr_iload_n (x := (((16 : Int32) * v3) + l1)) D_337_105 rfl ?_
      refine mjq_aI D_337_106 h (fun v18 h => ?_)
      exact mjq_ret D_337_107 rfl h1 h2 h
    refine mjq_tsw (c := (4 : Int32)) (tgt := 108) D_337_21 (by decide) (by decide) rfl rfl h (fun h => ?_) (fun n19 h => ?_)
    · refine mjr_aload_n (x := l0) D_337_108 rfl ?_
      refine mjq_gR D_337_109 fr_12_36 h (fun v20 h => ?_)
      refine mjr_iload_n (x := (((16 : Int32) * v3) + l1)) D_337_112 rfl ?_
      refine mjq_aI D_337_113 h (fun v21 h => ?_)
      exact mjq_ret D_337_114 rfl h1 h2 h
    refine mjq_tsw (c := (5 : Int32)) (tgt := 115) D_337_21 (by decide) (by decide) rfl rfl h (fun h => ?_) (fun n22 h => ?_)
    · refine mjr_aload_n (x := l0) D_337_115 rfl ?_
      refine mjq_gR D_337_116 fr_12_24 h (fun v23 h => ?_)
      refine mjr_iload_n (x := (((16 : Int32) * v3) + l1)) D_337_119 rfl ?_
      refine mjq_aI D_337_120 h (fun v24 h => ?_)
      exact mjq_ret D_337_121 rfl h1 h2 h
    refine mjr_tableOut (tgt := 122) D_337_21 (mj_swout [(0 : Int32), (1 : Int32), (2 : Int32), (3 : Int32), (4 : Int32), (5 : Int32)] (by decide) (mj_all1 n4 (mj_all1 n7 (mj_all1 n13 (mj_all1 n16 (mj_all1 n19 (mj_all1 n22 mj_all0))))))) rfl ?_
    refine mjq_ic (v := (-1 : Int32)) D_337_122 rfl ?_
    exact mjq_ret D_337_123 rfl h1 h2 h
  · refine mjq_ic (v := (-1 : Int32)) D_337_8 rfl ?_
    exact mjq_ret D_337_9 rfl h1 h2 h
noncomputable def f_337 (R : mjR) (a0 : Nat) (a1 : Int32) (a2 : Int32) (hp : mjH) : mjU := b_337_0 R a0 a1 a2 hp
theorem c_337 {R : mjR} {d : Nat} (hR : mjC R d) {a0 : Nat} {a1 : Int32} {a2 : Int32} {hp : mjH} {q : Option Value × mjH} (h : f_337 R a0 a1 a2 hp = some q) : mjM (d + 1) 0 0 337 [.ref a0, .int a1, .int a2] hp (mjEq q) :=
  mjM_of Ja_337 (Nat.le_of_ble_eq_true rfl) (mjG.fg (lo' := [some (.ref a0), some (.int a1), some (.int a2), none]) (And.intro rfl (And.intro rfl (And.intro rfl True.intro))) ((t_337_0 hR (Nat.le_refl 0) (Nat.le_refl 0)) a0 a1 a2 hp q h))
def J_338 : mjI := (⟨"OwnerHeapModel", "isClass", "(I)Z"⟩, 12, prog_14_method_113_code, 2, (some .boolean), 1, false)
theorem Ja_338 : mjMt 338 = some J_338 := by rfl
theorem D_338_0 : decode J_338.2.2.1 0 = .ok (.aload_n 0, 1) := by decide +kernel
theorem D_338_1 : decode J_338.2.2.1 1 = .ok (.getfield 756, 3) := by decide +kernel
theorem D_338_4 : decode J_338.2.2.1 4 = .ok (.ifCond .eq 24, 3) := by decide +kernel
theorem D_338_7 : decode J_338.2.2.1 7 = .ok (.iload_n 1, 1) := by decide +kernel
theorem D_338_8 : decode J_338.2.2.1 8 = .ok (.ifCond .lt 20, 3) := by decide +kernel
theorem D_338_11 : decode J_338.2.2.1 11 = .ok (.iload_n 1, 1) := by decide +kernel
theorem D_338_12 : decode J_338.2.2.1 12 = .ok (.aload_n 0, 1) := by decide +kernel
theorem D_338_13 : decode J_338.2.2.1 13 = .ok (.getfield 17, 3) := by decide +kernel
theorem D_338_16 : decode J_338.2.2.1 16 = .ok (.aload_n 0, 1) := by decide +kernel
theorem D_338_17 : decode J_338.2.2.1 17 = .ok (.getfield 648, 3) := by decide +kernel
theorem D_338_20 : decode J_338.2.2.1 20 = .ok (.iaload, 1) := by decide +kernel
theorem D_338_21 : decode J_338.2.2.1 21 = .ok (.if_icmp .ge 7, 3) := by decide +kernel
theorem D_338_24 : decode J_338.2.2.1 24 = .ok (.iconst 1, 1) := by decide +kernel
theorem D_338_25 : decode J_338.2.2.1 25 = .ok (.goto 4, 3) := by decide +kernel
theorem D_338_28 : decode J_338.2.2.1 28 = .ok (.iconst 0, 1) := by decide +kernel
theorem D_338_29 : decode J_338.2.2.1 29 = .ok (.ireturn, 1) := by decide +kernel
def P_338_28 (X : mjX) (d C S kc ks : Nat) (k : mjH → mjU) : Prop := ∀  (hp : mjH) (q : Option Value × mjH), k  hp = some q → mjG X d C S J_338 (mjEq q) 28 [none, none] [] hp kc ks
def P_338_0 (X : mjX) (d C S kc ks : Nat) (k : Nat → Int32 → mjH → mjU) : Prop := ∀ (l0 : Nat) (l1 : Int32) (hp : mjH) (q : Option Value × mjH), k l0 l1 hp = some q → mjG X d C S J_338 (mjEq q) 0 [some (.ref l0), some (.int l1)] [] hp kc ks
noncomputable def b_338_28 (R : mjR)  (hp : mjH) : mjU := some (some (.int (0 : Int32)), hp)
theorem t_338_28 {X : mjX} {d C S kc ks : Nat} {R : mjR} (hR : mjC R d) (h1 : kc ≤ C) (h2 : ks ≤ S) : P_338_28 X (d + 1) C S kc ks (b_338_28 R) := by
  intro  hp q h
  unfold b_338_28 at h
  refine mjq_ic (v := (0 : Int32)) D_338_28 rfl ?_
  exact mjr_ireturn D_338_29 rfl rfl h1 h2 (Option.some.inj h)
noncomputable def b_338_0 (R : mjR) (l0 : Nat) (l1 : Int32) (hp : mjH) : mjU := gI hp l0 12 10 (fun v1 => (if v1 = 0 then b_338_28 R hp else (if l1 < 0 then b_338_28 R hp else gR hp l0 12 11 (fun v2 => gI hp l0 12 9 (fun v3 => aI hp v2 v3 (fun v4 => (if v4 ≤ l1 then b_338_28 R hp else some (some (.int (1 : Int32)), hp))))))))
theorem t_338_0 {X : mjX} {d C S kc ks : Nat} {R : mjR} (hR : mjC R d) (h1 : kc ≤ C) (h2 : ks ≤ S) : P_338_0 X (d + 1) C S kc ks (b_338_0 R) := by
  intro l0 l1 hp q h
  unfold b_338_0 at h
  refine mjr_aload_n (x := l0) D_338_0 rfl ?_
  refine mjq_gI D_338_1 fr_12_756 h (fun v1 h => ?_)
  refine mjq_if_eq (tgt := 28) D_338_4 rfl h (fun h => ?_) (fun h => ?_)
  · exact mjG.fg (lo' := [none, none]) True.intro ((t_338_28 hR h1 h2) _ _ h)
  · refine mjr_iload_n (x := l1) D_338_7 rfl ?_
    refine mjq_if_lt (tgt := 28) D_338_8 rfl h (fun h => ?_) (fun h => ?_)
    · exact mjG.fg (lo' := [none, none]) True.intro ((t_338_28 hR h1 h2) _ _ h)
    · refine mjr_iload_n (x := l1) D_338_11 rfl ?_
      refine mjr_aload_n (x := l0) D_338_12 rfl ?_
      refine mjq_gR D_338_13 fr_12_17 h (fun v2 h => ?_)
      refine mjr_aload_n (x := l0) D_338_16 rfl ?_
      refine mjq_gI D_338_17 fr_12_648 h (fun v3 h => ?_)
      refine mjq_aI D_338_20 h (fun v4 h => ?_)
      refine mjq_icmp_ge (tgt := 28) D_338_21 rfl h (fun h => ?_) (fun h => ?_)
      · exact mjG.fg (lo' := [none, none]) True.intro ((t_338_28 hR h1 h2) _ _ h)
      · refine mjq_ic (v := (1 : Int32)) D_338_24 rfl ?_
        refine mjr_goto (tgt := 29) D_338_25 rfl ?_
        exact mjr_ireturn D_338_29 rfl rfl h1 h2 (Option.some.inj h)
noncomputable def f_338 (R : mjR) (a0 : Nat) (a1 : Int32) (hp : mjH) : mjU := b_338_0 R a0 a1 hp
theorem c_338 {R : mjR} {d : Nat} (hR : mjC R d) {a0 : Nat} {a1 : Int32} {hp : mjH} {q : Option Value × mjH} (h : f_338 R a0 a1 hp = some q) : mjM (d + 1) 0 0 338 [.ref a0, .int a1] hp (mjEq q) :=
  mjM_of Ja_338 (Nat.le_of_ble_eq_true rfl) (mjG.fg (lo' := [some (.ref a0), some (.int a1)]) (And.intro rfl (And.intro rfl True.intro)) ((t_338_0 hR (Nat.le_refl 0) (Nat.le_refl 0)) a0 a1 hp q h))
def J_339 : mjI := (⟨"OwnerHeapModel", "isIn", "(III)Z"⟩, 12, prog_14_method_115_code, 5, (some .boolean), 3, false)
theorem Ja_339 : mjMt 339 = some J_339 := by rfl
theorem D_339_0 : decode J_339.2.2.1 0 = .ok (.aload_n 0, 1) := by decide +kernel
theorem D_339_1 : decode J_339.2.2.1 1 = .ok (.iload_n 1, 1) := by decide +kernel
theorem D_339_2 : decode J_339.2.2.1 2 = .ok (.invokevirtual 759, 3) := by decide +kernel
theorem D_339_5 : decode J_339.2.2.1 5 = .ok (.ifCond .ne 5, 3) := by decide +kernel
theorem D_339_8 : decode J_339.2.2.1 8 = .ok (.iconst 0, 1) := by decide +kernel
theorem D_339_9 : decode J_339.2.2.1 9 = .ok (.ireturn, 1) := by decide +kernel
theorem D_339_10 : decode J_339.2.2.1 10 = .ok (.bipush 16, 2) := by decide +kernel
theorem D_339_12 : decode J_339.2.2.1 12 = .ok (.aload_n 0, 1) := by decide +kernel
theorem D_339_13 : decode J_339.2.2.1 13 = .ok (.getfield 648, 3) := by decide +kernel
theorem D_339_16 : decode J_339.2.2.1 16 = .ok (.imul, 1) := by decide +kernel
theorem D_339_17 : decode J_339.2.2.1 17 = .ok (.iload_n 1, 1) := by decide +kernel
theorem D_339_18 : decode J_339.2.2.1 18 = .ok (.iadd, 1) := by decide +kernel
theorem D_339_19 : decode J_339.2.2.1 19 = .ok (.istore 4, 2) := by decide +kernel
theorem D_339_21 : decode J_339.2.2.1 21 = .ok (.iload_n 2, 1) := by decide +kernel
theorem D_339_22 : decode J_339.2.2.1 22 = .ok (.bipush (-2), 2) := by decide +kernel
theorem D_339_24 : decode J_339.2.2.1 24 = .ok (.if_icmp .lt 31, 3) := by decide +kernel
theorem D_339_27 : decode J_339.2.2.1 27 = .ok (.iload_n 3, 1) := by decide +kernel
theorem D_339_28 : decode J_339.2.2.1 28 = .ok (.bipush (-2), 2) := by decide +kernel
theorem D_339_30 : decode J_339.2.2.1 30 = .ok (.if_icmp .lt 25, 3) := by decide +kernel
theorem D_339_33 : decode J_339.2.2.1 33 = .ok (.iload_n 2, 1) := by decide +kernel
theorem D_339_34 : decode J_339.2.2.1 34 = .ok (.aload_n 0, 1) := by decide +kernel
theorem D_339_35 : decode J_339.2.2.1 35 = .ok (.getfield 30, 3) := by decide +kernel
theorem D_339_38 : decode J_339.2.2.1 38 = .ok (.iload 4, 2) := by decide +kernel
theorem D_339_40 : decode J_339.2.2.1 40 = .ok (.iaload, 1) := by decide +kernel
theorem D_339_41 : decode J_339.2.2.1 41 = .ok (.if_icmp .ge 14, 3) := by decide +kernel
theorem D_339_44 : decode J_339.2.2.1 44 = .ok (.iload_n 3, 1) := by decide +kernel
theorem D_339_45 : decode J_339.2.2.1 45 = .ok (.aload_n 0, 1) := by decide +kernel
theorem D_339_46 : decode J_339.2.2.1 46 = .ok (.getfield 30, 3) := by decide +kernel
theorem D_339_49 : decode J_339.2.2.1 49 = .ok (.iload 4, 2) := by decide +kernel
theorem D_339_51 : decode J_339.2.2.1 51 = .ok (.iaload, 1) := by decide +kernel
theorem D_339_52 : decode J_339.2.2.1 52 = .ok (.if_icmp .lt 5, 3) := by decide +kernel
theorem D_339_55 : decode J_339.2.2.1 55 = .ok (.iconst 0, 1) := by decide +kernel
theorem D_339_56 : decode J_339.2.2.1 56 = .ok (.ireturn, 1) := by decide +kernel
theorem D_339_57 : decode J_339.2.2.1 57 = .ok (.aload_n 0, 1) := by decide +kernel
theorem D_339_58 : decode J_339.2.2.1 58 = .ok (.getfield 75, 3) := by decide +kernel
theorem D_339_61 : decode J_339.2.2.1 61 = .ok (.bipush 49, 2) := by decide +kernel
theorem D_339_63 : decode J_339.2.2.1 63 = .ok (.iload 4, 2) := by decide +kernel
theorem D_339_65 : decode J_339.2.2.1 65 = .ok (.imul, 1) := by decide +kernel
theorem D_339_66 : decode J_339.2.2.1 66 = .ok (.bipush 7, 2) := by decide +kernel
theorem D_339_68 : decode J_339.2.2.1 68 = .ok (.iload_n 2, 1) := by decide +kernel
theorem D_339_69 : decode J_339.2.2.1 69 = .ok (.invokestatic 485, 3) := by decide +kernel
theorem D_339_72 : decode J_339.2.2.1 72 = .ok (.imul, 1) := by decide +kernel
theorem D_339_73 : decode J_339.2.2.1 73 = .ok (.iadd, 1) := by decide +kernel
theorem D_339_74 : decode J_339.2.2.1 74 = .ok (.iload_n 3, 1) := by decide +kernel
theorem D_339_75 : decode J_339.2.2.1 75 = .ok (.invokestatic 485, 3) := by decide +kernel
theorem D_339_78 : decode J_339.2.2.1 78 = .ok (.iadd, 1) := by decide +kernel
theorem D_339_79 : decode J_339.2.2.1 79 = .ok (.baload, 1) := by decide +kernel
theorem D_339_80 : decode J_339.2.2.1 80 = .ok (.ireturn, 1) := by decide +kernel
def P_339_55 (X : mjX) (d C S kc ks : Nat) (k : mjH → mjU) : Prop := ∀  (hp : mjH) (q : Option Value × mjH), k  hp = some q → mjG X d C S J_339 (mjEq q) 55 [none, none, none, none, none] [] hp kc ks
def P_339_0 (X : mjX) (d C S kc ks : Nat) (k : Nat → Int32 → Int32 → Int32 → mjH → mjU) : Prop := ∀ (l0 : Nat) (l1 : Int32) (l2 : Int32) (l3 : Int32) (hp : mjH) (q : Option Value × mjH), k l0 l1 l2 l3 hp = some q → mjG X d C S J_339 (mjEq q) 0 [some (.ref l0), some (.int l1), some (.int l2), some (.int l3), none] [] hp kc ks
noncomputable def b_339_55 (R : mjR)  (hp : mjH) : mjU := some (some (.int (0 : Int32)), hp)
theorem t_339_55 {X : mjX} {d C S kc ks : Nat} {R : mjR} (hR : mjC R d) (h1 : kc ≤ C) (h2 : ks ≤ S) : P_339_55 X (d + 1) C S kc ks (b_339_55 R) := by
  intro  hp q h
  unfold b_339_55 at h
  refine mjq_ic (v := (0 : Int32)) D_339_55 rfl ?_
  exact mjr_ireturn D_339_56 rfl rfl h1 h2 (Option.some.inj h)
noncomputable def b_339_0 (R : mjR) (l0 : Nat) (l1 : Int32) (l2 : Int32) (l3 : Int32) (hp : mjH) : mjU := rV hp l0 12 (bI (R 338 [.ref l0, .int l1] hp) (fun v1 hp2 => (if v1 = 0 then some (some (.int (0 : Int32)), hp2) else gI hp2 l0 12 9 (fun v3 => (if l2 < (-2 : Int32) then b_339_55 R hp2 else (if l3 < (-2 : Int32) then b_339_55 R hp2 else gR hp2 l0 12 15 (fun v4 => aI hp2 v4 (((16 : Int32) * v3) + l1) (fun v5 => (if v5 ≤ l2 then b_339_55 R hp2 else gR hp2 l0 12 15 (fun v6 => aI hp2 v6 (((16 : Int32) * v3) + l1) (fun v7 => (if l3 < v7 then gR hp2 l0 12 30 (fun v8 => bI (R 312 [.int l2] hp2) (fun v9 hp10 => bI (R 312 [.int l3] hp10) (fun v11 hp12 => aB hp12 v8 ((((49 : Int32) * (((16 : Int32) * v3) + l1)) + ((7 : Int32) * v9)) + v11) (fun v13 => (if narrow .boolean (.int v13) = .int v13 then some (some (.int v13), hp12) else none))))) else b_339_55 R hp2))))))))))))
theorem t_339_0 {X : mjX} {d C S kc ks : Nat} {R : mjR} (hR : mjC R d) (h1 : kc ≤ C) (h2 : ks ≤ S) : P_339_0 X (d + 1) C S kc ks (b_339_0 R) := by
  intro l0 l1 l2 l3 hp q h
  unfold b_339_0 at h
  refine mjr_aload_n (x := l0) D_339_0 rfl ?_
  refine mjr_iload_n (x := l1) D_339_1 rfl ?_
  refine mjq_vI (As := [.int l1]) (rest := []) D_339_2 mr_12_759 V_338 rfl rfl rfl hR (Nat.le_refl _) h1 h2 h (fun v1 hp2 h => ?_)
  refine mjq_if_ne (tgt := 10) D_339_5 rfl h (fun h => ?_) (fun h => ?_)
  · refine mjq_bi (v := (16 : Int32)) D_339_10 rfl ?_
    refine mjr_aload_n (x := l0) D_339_12 rfl ?_
    refine mjq_gI D_339_13 fr_12_648 h (fun v3 h => ?_)
    refine mjr_imul D_339_16 ?_
    refine mjr_iload_n (x := l1) D_339_17 rfl ?_
    refine mjr_iadd D_339_18 ?_
    refine mjq_istore (lo' := [some (.ref l0), some (.int l1), some (.int l2), some (.int l3), some (.int (((16 : Int32) * v3) + l1))]) D_339_19 (Nat.le_of_ble_eq_true rfl) rfl ?_
    refine mjr_iload_n (x := l2) D_339_21 rfl ?_
    refine mjq_bi (v := (-2 : Int32)) D_339_22 rfl ?_
    refine mjq_icmp_lt (tgt := 55) D_339_24 rfl h (fun h => ?_) (fun h => ?_)
    · exact mjG.fg (lo' := [none, none, none, none, none]) True.intro ((t_339_55 hR h1 h2) _ _ h)
    · refine mjr_iload_n (x := l3) D_339_27 rfl ?_
      refine mjq_bi (v := (-2 : Int32)) D_339_28 rfl ?_
      refine mjq_icmp_lt (tgt := 55) D_339_30 rfl h (fun h => ?_) (fun h => ?_)
      · exact mjG.fg (lo' := [none, none, none, none, none]) True.intro ((t_339_55 hR h1 h2) _ _ h)
      · refine mjr_iload_n (x := l2) D_339_33 rfl ?_
        refine mjr_aload_n (x := l0) D_339_34 rfl ?_
        refine mjq_gR D_339_35 fr_12_30 h (fun v4 h => ?_)
        refine mjr_iload (x := (((16 : Int32) * v3) + l1)) D_339_38 rfl ?_
        refine mjq_aI D_339_40 h (fun v5 h => ?_)
        refine mjq_icmp_ge (tgt := 55) D_339_41 rfl h (fun h => ?_) (fun h => ?_)
        · exact mjG.fg (lo' := [none, none, none, none, none]) True.intro ((t_339_55 hR h1 h2) _ _ h)
        · refine mjr_iload_n (x := l3) D_339_44 rfl ?_
          refine mjr_aload_n (x := l0) D_339_45 rfl ?_
          refine mjq_gR D_339_46 fr_12_30 h (fun v6 h => ?_)
          refine mjr_iload (x := (((16 : Int32) * v3) + l1)) D_339_49 rfl ?_
          refine mjq_aI D_339_51 h (fun v7 h => ?_)
          refine mjq_icmp_lt (tgt := 57) D_339_52 rfl h (fun h => ?_) (fun h => ?_)
          · refine mjr_aload_n (x := l0) D_339_57 rfl ?_
            refine mjq_gR D_339_58 fr_12_75 h (fun v8 h => ?_)
            refine mjq_bi (v := (49 : Int32)) D_339_61 rfl ?_
            refine mjr_iload (x := (((16 : Int32) * v3) + l1)) D_339_63 rfl ?_
            refine mjr_imul D_339_65 ?_
            refine mjq_bi (v := (7 : Int32)) D_339_66 rfl ?_
            refine mjr_iload_n (x := l2) D_339_68 rfl ?_
            refine mjq_scI (As := [.int l2]) (rest := [.int (7 : Int32), .int ((49 : Int32) * (((16 : Int32) * v3) + l1)), .ref v8]) D_339_69 mr_12_485 V_312 rfl rfl rfl hR (Nat.le_refl _) h1 h2 h (fun v9 hp10 h => ?_)
            refine mjr_imul D_339_72 ?_
            refine mjr_iadd D_339_73 ?_
            refine mjr_iload_n (x := l3) D_339_74 rfl ?_
            refine mjq_scI (As := [.int l3]) (rest := [.int (((49 : Int32) * (((16 : Int32) * v3) + l1)) + ((7 : Int32) * v9)), .ref v8]) D_339_75 mr_12_485 V_312 rfl rfl rfl hR (Nat.le_refl _) h1 h2 h (fun v11 hp12 h => ?_)
            refine mjr_iadd D_339_78 ?_
            refine mjq_aB D_339_79 h (fun v13 h => ?_)
            exact mjq_retZ (ty := .boolean) D_339_80 rfl h1 h2 h
          · exact mjG.fg (lo' := [none, none, none, none, none]) True.intro ((t_339_55 hR h1 h2) _ _ h)
  · refine mjq_ic (v := (0 : Int32)) D_339_8 rfl ?_
    exact mjr_ireturn D_339_9 rfl rfl h1 h2 (Option.some.inj h)
noncomputable def f_339 (R : mjR) (a0 : Nat) (a1 : Int32) (a2 : Int32) (a3 : Int32) (hp : mjH) : mjU := b_339_0 R a0 a1 a2 a3 hp
theorem c_339 {R : mjR} {d : Nat} (hR : mjC R d) {a0 : Nat} {a1 : Int32} {a2 : Int32} {a3 : Int32} {hp : mjH} {q : Option Value × mjH} (h : f_339 R a0 a1 a2 a3 hp = some q) : mjM (d + 1) 0 0 339 [.ref a0, .int a1, .int a2, .int a3] hp (mjEq q) :=
  mjM_of Ja_339 (Nat.le_of_ble_eq_true rfl) (mjG.fg (lo' := [some (.ref a0), some (.int a1), some (.int a2), some (.int a3), none]) (And.intro rfl (And.intro rfl (And.intro rfl (And.intro rfl True.intro)))) ((t_339_0 hR (Nat.le_refl 0) (Nat.le_refl 0)) a0 a1 a2 a3 hp q h))
