/-! ===== the small machine: making cells, calls, returns, contracts ===== -/
section MJ2
variable {X : mjX} {d C S : Nat} {I : mjI} {Post : Option Value → mjH → Prop} {pc : Nat} {lo : mjLo} {st : List Value} {hp : mjH} {kc ks : Nat}
theorem mjr_newarray_int {n : Int32} (hd : decode I.2.2.1 pc = .ok (.newarray .int, 2)) (hn : ¬ n < 0) (hb : n.toNatClampNeg * 4 ≤ 536870912) (h6 : hp.length < 1000000) (hw : (mjWl hp.length lo && mjWs hp.length st && mjWh hp.length hp) = true) (hkc : kc + 1 ≤ C) (hks : ks + n.toNatClampNeg ≤ S) (k : mjG X d C S I Post (pc + 2) lo (.ref hp.length :: st) (hp ++ [.inl (0, n.toNatClampNeg, .inl (fun _ => 0))]) (kc + 1) (ks + n.toNatClampNeg)) : mjG X d C S I Post pc lo (.int n :: st) hp kc ks := by
  intro l D cy ad0 N0 A p e s m args below meth c R hR hAt hK hA hC hX ad H locs ls h1 h2 h3 h4 h5
  simp only [Bool.and_eq_true] at hw
  refine va_newa (A := A) (atype := .int) (ty := .int) (a0 := (n.toNatClampNeg, .inl (fun _ => 0))) hAt.1 hAt.2.1 (hAt.2.2.2.2.2.2.2 _ mjA_words.1) rfl hK h4.1 h4.2.1 h4.2.2 hA (fun cA => rfl) hn rfl hb (Nat.le_trans hkc hR.2.2.1) (Nat.le_trans hks hR.2.2.2) hd (fun q cA H1 g1 g2 g3 g4 => ?_)
  have hcA : cA = cy 0 := by
    have e1 : s.vm.findClass _ = some cA := (g1.2 4 (cA, .int) rfl).2
    have e2 : s.vm.findClass _ = some (cy 0) := (g1.2 0 (cy 0, .int) rfl).2
    exact Option.some.inj (e1.symm.trans e2)
  subst hcA
  have ha : mjAg hp.length ad (fun h => if h = hp.length then q else ad h) := mjAg.up h6
  have e3 := mjW_push (q := q) (ad := ad) (cy := cy) (x := .inl (0, n.toNatClampNeg, .inl (fun _ => 0))) rfl h6 hw.2 rfl
  have e4 := k l D cy ad0 N0 A p e s m args below meth c R hR hAt hK hA hC hX (fun h => if h = hp.length then q else ad h) H1 locs ls (h1.tr ha h3) (fun hz => absurd hkc (by omega)) (by simp; omega) ⟨by rw [e3]; exact g2, by rw [e3]; exact g3, g4⟩ (mjWl_ag ha hw.1.1 h5)
  have e5 : (Value.ref hp.length :: st).map (mjV (fun h => if h = hp.length then q else ad h)) = .ref q :: st.map (mjV ad) := by
    rw [List.map_cons, mjWs_ag ha hw.1.2]
    simp [mjV]
  rw [e5] at e4
  exact e4
theorem mjr_newarray_long {n : Int32} (hd : decode I.2.2.1 pc = .ok (.newarray .long, 2)) (hn : ¬ n < 0) (hb : n.toNatClampNeg * 8 ≤ 536870912) (h6 : hp.length < 1000000) (hw : (mjWl hp.length lo && mjWs hp.length st && mjWh hp.length hp) = true) (hkc : kc + 1 ≤ C) (hks : ks + n.toNatClampNeg ≤ S) (k : mjG X d C S I Post (pc + 2) lo (.ref hp.length :: st) (hp ++ [.inl (1, n.toNatClampNeg, .inr (.inl (fun _ => 0)))]) (kc + 1) (ks + n.toNatClampNeg)) : mjG X d C S I Post pc lo (.int n :: st) hp kc ks := by
  intro l D cy ad0 N0 A p e s m args below meth c R hR hAt hK hA hC hX ad H locs ls h1 h2 h3 h4 h5
  simp only [Bool.and_eq_true] at hw
  refine va_newa (A := A) (atype := .long) (ty := .long) (a0 := (n.toNatClampNeg, .inr (.inl (fun _ => 0)))) hAt.1 hAt.2.1 (hAt.2.2.2.2.2.2.2 _ mjA_words.2.1) rfl hK h4.1 h4.2.1 h4.2.2 hA (fun cA => rfl) hn rfl hb (Nat.le_trans hkc hR.2.2.1) (Nat.le_trans hks hR.2.2.2) hd (fun q cA H1 g1 g2 g3 g4 => ?_)
  have hcA : cA = cy 1 := by
    have e1 : s.vm.findClass _ = some cA := (g1.2 4 (cA, .long) rfl).2
    have e2 : s.vm.findClass _ = some (cy 1) := (g1.2 1 (cy 1, .long) rfl).2
    exact Option.some.inj (e1.symm.trans e2)
  subst hcA
  have ha : mjAg hp.length ad (fun h => if h = hp.length then q else ad h) := mjAg.up h6
  have e3 := mjW_push (q := q) (ad := ad) (cy := cy) (x := .inl (1, n.toNatClampNeg, .inr (.inl (fun _ => 0)))) rfl h6 hw.2 rfl
  have e4 := k l D cy ad0 N0 A p e s m args below meth c R hR hAt hK hA hC hX (fun h => if h = hp.length then q else ad h) H1 locs ls (h1.tr ha h3) (fun hz => absurd hkc (by omega)) (by simp; omega) ⟨by rw [e3]; exact g2, by rw [e3]; exact g3, g4⟩ (mjWl_ag ha hw.1.1 h5)
  have e5 : (Value.ref hp.length :: st).map (mjV (fun h => if h = hp.length then q else ad h)) = .ref q :: st.map (mjV ad) := by
    rw [List.map_cons, mjWs_ag ha hw.1.2]
    simp [mjV]
  rw [e5] at e4
  exact e4
theorem mjr_newarray_byte {n : Int32} (hd : decode I.2.2.1 pc = .ok (.newarray .byte, 2)) (hn : ¬ n < 0) (hb : n.toNatClampNeg * 1 ≤ 536870912) (h6 : hp.length < 1000000) (hw : (mjWl hp.length lo && mjWs hp.length st && mjWh hp.length hp) = true) (hkc : kc + 1 ≤ C) (hks : ks + n.toNatClampNeg ≤ S) (k : mjG X d C S I Post (pc + 2) lo (.ref hp.length :: st) (hp ++ [.inl (2, n.toNatClampNeg, .inl (fun _ => 0))]) (kc + 1) (ks + n.toNatClampNeg)) : mjG X d C S I Post pc lo (.int n :: st) hp kc ks := by
  intro l D cy ad0 N0 A p e s m args below meth c R hR hAt hK hA hC hX ad H locs ls h1 h2 h3 h4 h5
  simp only [Bool.and_eq_true] at hw
  refine va_newa (A := A) (atype := .byte) (ty := .byte) (a0 := (n.toNatClampNeg, .inl (fun _ => 0))) hAt.1 hAt.2.1 (hAt.2.2.2.2.2.2.2 _ mjA_words.2.2.1) rfl hK h4.1 h4.2.1 h4.2.2 hA (fun cA => rfl) hn rfl hb (Nat.le_trans hkc hR.2.2.1) (Nat.le_trans hks hR.2.2.2) hd (fun q cA H1 g1 g2 g3 g4 => ?_)
  have hcA : cA = cy 2 := by
    have e1 : s.vm.findClass _ = some cA := (g1.2 4 (cA, .byte) rfl).2
    have e2 : s.vm.findClass _ = some (cy 2) := (g1.2 2 (cy 2, .byte) rfl).2
    exact Option.some.inj (e1.symm.trans e2)
  subst hcA
  have ha : mjAg hp.length ad (fun h => if h = hp.length then q else ad h) := mjAg.up h6
  have e3 := mjW_push (q := q) (ad := ad) (cy := cy) (x := .inl (2, n.toNatClampNeg, .inl (fun _ => 0))) rfl h6 hw.2 rfl
  have e4 := k l D cy ad0 N0 A p e s m args below meth c R hR hAt hK hA hC hX (fun h => if h = hp.length then q else ad h) H1 locs ls (h1.tr ha h3) (fun hz => absurd hkc (by omega)) (by simp; omega) ⟨by rw [e3]; exact g2, by rw [e3]; exact g3, g4⟩ (mjWl_ag ha hw.1.1 h5)
  have e5 : (Value.ref hp.length :: st).map (mjV (fun h => if h = hp.length then q else ad h)) = .ref q :: st.map (mjV ad) := by
    rw [List.map_cons, mjWs_ag ha hw.1.2]
    simp [mjV]
  rw [e5] at e4
  exact e4
theorem mjr_newarray_boolean {n : Int32} (hd : decode I.2.2.1 pc = .ok (.newarray .boolean, 2)) (hn : ¬ n < 0) (hb : n.toNatClampNeg * 1 ≤ 536870912) (h6 : hp.length < 1000000) (hw : (mjWl hp.length lo && mjWs hp.length st && mjWh hp.length hp) = true) (hkc : kc + 1 ≤ C) (hks : ks + n.toNatClampNeg ≤ S) (k : mjG X d C S I Post (pc + 2) lo (.ref hp.length :: st) (hp ++ [.inl (3, n.toNatClampNeg, .inl (fun _ => 0))]) (kc + 1) (ks + n.toNatClampNeg)) : mjG X d C S I Post pc lo (.int n :: st) hp kc ks := by
  intro l D cy ad0 N0 A p e s m args below meth c R hR hAt hK hA hC hX ad H locs ls h1 h2 h3 h4 h5
  simp only [Bool.and_eq_true] at hw
  refine va_newa (A := A) (atype := .boolean) (ty := .boolean) (a0 := (n.toNatClampNeg, .inl (fun _ => 0))) hAt.1 hAt.2.1 (hAt.2.2.2.2.2.2.2 _ mjA_words.2.2.2) rfl hK h4.1 h4.2.1 h4.2.2 hA (fun cA => rfl) hn rfl hb (Nat.le_trans hkc hR.2.2.1) (Nat.le_trans hks hR.2.2.2) hd (fun q cA H1 g1 g2 g3 g4 => ?_)
  have hcA : cA = cy 3 := by
    have e1 : s.vm.findClass _ = some cA := (g1.2 4 (cA, .boolean) rfl).2
    have e2 : s.vm.findClass _ = some (cy 3) := (g1.2 3 (cy 3, .boolean) rfl).2
    exact Option.some.inj (e1.symm.trans e2)
  subst hcA
  have ha : mjAg hp.length ad (fun h => if h = hp.length then q else ad h) := mjAg.up h6
  have e3 := mjW_push (q := q) (ad := ad) (cy := cy) (x := .inl (3, n.toNatClampNeg, .inl (fun _ => 0))) rfl h6 hw.2 rfl
  have e4 := k l D cy ad0 N0 A p e s m args below meth c R hR hAt hK hA hC hX (fun h => if h = hp.length then q else ad h) H1 locs ls (h1.tr ha h3) (fun hz => absurd hkc (by omega)) (by simp; omega) ⟨by rw [e3]; exact g2, by rw [e3]; exact g3, g4⟩ (mjWl_ag ha hw.1.1 h5)
  have e5 : (Value.ref hp.length :: st).map (mjV (fun h => if h = hp.length then q else ad h)) = .ref q :: st.map (mjV ad) := by
    rw [List.map_cons, mjWs_ag ha hw.1.2]
    simp [mjV]
  rw [e5] at e4
  exact e4
/-- what a new object's fields hold -/
def mjDf (ci : Nat) : List Value := (List.range (mjCl ci).2.2).map (fun j => defaultValue (mjTyv ci j))
theorem mj_df_wf (n ci : Nat) : mjWe n (.inr (ci, mjDf ci)) = true := by
  simp only [mjWe, mjDf, List.all_map, List.all_eq_true]
  intro j hj
  show mjWv n (defaultValue (mjTyv ci j)) = true
  cases mjTyv ci j <;> rfl
theorem mj_df_map (ad : Nat → Nat) (ci : Nat) : (mjDf ci).map (mjV ad) = mjDf ci := by
  unfold mjDf
  rw [List.map_map]
  apply List.map_congr_left
  intro j hj
  show mjV ad (defaultValue (mjTyv ci j)) = _
  cases mjTyv ci j <;> rfl
theorem mjr_new {idx ci : Nat} (hd : decode I.2.2.1 pc = .ok (.new idx, 3)) (hf : mjNr I.2.1 idx = some ci) (h6 : hp.length < 1000000) (hw : (mjWl hp.length lo && mjWs hp.length st && mjWh hp.length hp) = true) (hkc : kc + 1 ≤ C) (hks : ks + (mjCl ci).2.2 ≤ S) (k : mjG X d C S I Post (pc + 3) lo (.ref hp.length :: st) (hp ++ [.inr (ci, mjDf ci)]) (kc + 1) (ks + (mjCl ci).2.2)) : mjG X d C S I Post pc lo st hp kc ks := by
  intro l D cy ad0 N0 A p e s m args below meth c R hR hAt hK hA hC hX ad H locs ls h1 h2 h3 h4 h5
  simp only [Bool.and_eq_true] at hw
  obtain ⟨hci, hl⟩ := mjNr_ok hf
  refine va_new (C := (mjCl ci).1) (T := (mjCl ci).2.1) (N := (mjCl ci).2.2) (ci := ci) (A := A) (fs := mjDf ci) hAt.1 hAt.2.1 hAt.2.2.2.2.2.2.2 (mj_lay hci) (mjTyv ci) (mj_ty hci) hAt.2.2.2.2.2.1 (hAt.2.2.2.2.2.2.2 _ hl) (hAt.2.2.2.2.2.2.2 _ (mj_inst hci).1) (hAt.2.2.2.2.2.2.2 _ (mj_inst hci).2) hK h4.1 h4.2.1 h4.2.2 hA (mjCl_get hci) (fun j hj => ?_) (Nat.le_trans hkc hR.2.2.1) (Nat.le_trans hks hR.2.2.2) hd (fun q H1 g2 g3 g4 => ?_)
  · unfold vp_V mjDf
    rw [List.getD_eq_getElem?_getD, List.getElem?_map, List.getElem?_range hj]
    rfl
  have ha : mjAg hp.length ad (fun h => if h = hp.length then q else ad h) := mjAg.up h6
  have e3 := mjW_push (q := q) (ad := ad) (cy := cy) (x := .inr (ci, mjDf ci)) rfl h6 hw.2 (mj_df_wf _ ci)
  have e6 : mjE ad cy (.inr (ci, mjDf ci)) = .inr (ci, mjDf ci) := by simp only [mjE, mj_df_map]
  rw [e6] at e3
  have e4 := k l D cy ad0 N0 A p e s m args below meth c R hR hAt hK hA hC hX (fun h => if h = hp.length then q else ad h) H1 locs ls (h1.tr ha h3) (fun hz => absurd hkc (by omega)) (by simp; omega) ⟨by rw [e3]; exact g2, by rw [e3]; exact g3, g4⟩ (mjWl_ag ha hw.1.1 h5)
  have e5 : (Value.ref hp.length :: st).map (mjV (fun h => if h = hp.length then q else ad h)) = .ref q :: st.map (mjV ad) := by
    rw [List.map_cons, mjWs_ag ha hw.1.2]
    simp [mjV]
  rw [e5] at e4
  exact e4
/-- returns -/
theorem mjr_ireturn {v : Int32} {ty : FieldType} (hd : decode I.2.2.1 pc = .ok (.ireturn, 1)) (hr : I.2.2.2.2.1 = some ty) (hn : narrow ty (.int v) = .int v) (hkc : kc ≤ C) (hks : ks ≤ S) (hq : Post (some (.int v)) hp) : mjG X d C S I Post pc lo [.int v] hp kc ks :=
  fun l D cy ad0 N0 A p e s m args below meth c R hR hAt hK hA hC hX ad H locs ls h1 h2 h3 h4 h5 => W.widen hkc hks (W.zret hAt.1 hAt.2.1 (hAt.2.2.2.1.trans hr) hn (fun t ht hW => ⟨⟨some (.int v), hp, ad, hq, h3, h1, h2, rfl, by rw [ht]; exact h4.1, h4.2.1⟩, h4.2.2.F ht⟩) h4.2.2.2.2 hd hAt.2.2.2.2.1)
theorem mjr_lreturn {v : Int64} (hd : decode I.2.2.1 pc = .ok (.lreturn, 1)) (hr : I.2.2.2.2.1 = some .long) (hkc : kc ≤ C) (hks : ks ≤ S) (hq : Post (some (.long v)) hp) : mjG X d C S I Post pc lo [.long v] hp kc ks :=
  fun l D cy ad0 N0 A p e s m args below meth c R hR hAt hK hA hC hX ad H locs ls h1 h2 h3 h4 h5 => W.widen hkc hks (W.lret hAt.1 hAt.2.1 (hAt.2.2.2.1.trans hr) (fun t ht hW => ⟨⟨some (.long v), hp, ad, hq, h3, h1, h2, rfl, by rw [ht]; exact h4.1, h4.2.1⟩, h4.2.2.F ht⟩) h4.2.2.2.2 hd hAt.2.2.2.2.1)
theorem mjr_return (hd : decode I.2.2.1 pc = .ok (.return_, 1)) (hr : I.2.2.2.2.1 = none) (hkc : kc ≤ C) (hks : ks ≤ S) (hq : Post none hp) : mjG X d C S I Post pc lo [] hp kc ks :=
  fun l D cy ad0 N0 A p e s m args below meth c R hR hAt hK hA hC hX ad H locs ls h1 h2 h3 h4 h5 => W.widen hkc hks (W.vret hAt.1 hAt.2.1 (hAt.2.2.2.1.trans hr) (fun t ht hW => ⟨⟨none, hp, ad, hq, h3, h1, h2, rfl, by rw [ht]; exact h4.1, h4.2.1⟩, h4.2.2.F ht⟩) h4.2.2.2.2 hd hAt.2.2.2.2.1)
/-- contracts -/
def mjws (J : mjI) : List Cond := .code J.1 J.2.2.1 J.2.2.2.1 J.2.2.2.2.1 :: mjT
def mjPr (D : va_G) (cy : Nat → ClassId) (ad : Nat → Nat) (sz : Nat) (hp : mjH) (U : State) : Prop := U.heap.size = sz ∧ va_P D vwCl (mjW ad cy hp) U.heap ∧ va_K D vwCl (mjTy cy) U ∧ va_D (fun _ => True) (mjW ad cy hp) ∧ mjCst ad (va_A (mjW ad cy hp) sz) U
def mjM (d C S : Nat) (j : Nat) (As : List Value) (hp : mjH) (Post : Option Value → mjH → Prop) : Prop :=
  ∀ J : mjI, mjMt j = some J → ∀ (l : Launch) (D : va_G) (cy : Nat → ClassId) (ad : Nat → Nat) (sz : Nat), Met l J.1 (mjws J) (mjRm d C S) (va_Pc (As.map (mjV ad)) (mjPr D cy ad sz hp)) (mjQ D cy ad hp.length C (va_A (mjW ad cy hp) sz) Post) C S (va_A (mjW ad cy hp) sz)
def mjFl (v : Value) : mjLo := if v.category = 2 then [some v, none] else [some v]
def mjLo0 (As : List Value) (n : Nat) : mjLo := As.flatMap mjFl ++ List.replicate (n - (As.flatMap mjFl).length) none
theorem mj_sl (ad : Nat → Nat) (As : List Value) : (lg_sl (As.map (mjV ad))).length = (As.flatMap mjFl).length := by
  unfold lg_sl
  induction As with
  | nil => rfl
  | cons a As ih =>
    rw [List.map_cons, List.flatMap_cons, List.flatMap_cons, List.length_append, List.length_append, ih, mjV_cat]
    congr 1
    unfold mjFl
    split <;> rfl
theorem mj_args (ad : Nat → Nat) (As : List Value) : ∀ (k i : Nat) (v : Value), (As.flatMap mjFl)[i]? = some (some v) → (k + i, mjV ad v) ∈ lv_args k (As.map (mjV ad)) := by
  induction As with
  | nil => intro k i v h; simp at h
  | cons a As ih =>
    intro k i v h
    rw [List.flatMap_cons] at h
    rw [List.map_cons]
    unfold lv_args
    rw [mjV_cat]
    rw [show mjFl a = (if a.category = 2 then [some a, none] else [some a]) from rfl] at h
    by_cases hc : a.category = 2
    · rw [if_pos hc] at h ⊢
      match i, h with
      | 0, h => simp at h; subst h; exact List.mem_cons_self
      | 1, h => simp at h
      | i + 2, h =>
        have := ih (k + 2) i v (by simpa using h)
        rw [show k + 2 + i = k + (i + 2) by omega] at this
        exact List.mem_cons_of_mem _ this
    · rw [if_neg hc] at h ⊢
      match i, h with
      | 0, h => simp at h; subst h; exact List.mem_cons_self
      | i + 1, h =>
        have := ih (k + 1) i v (by simpa using h)
        rw [show k + 1 + i = k + (i + 1) by omega] at this
        exact List.mem_cons_of_mem _ this
theorem mj_entry (ad : Nat → Nat) (As : List Value) {n : Nat} (hn : (As.flatMap mjFl).length ≤ n) : mjL ad (mjLo0 As n) ((lg_sl (As.map (mjV ad)) ++ List.replicate (n - (lg_sl (As.map (mjV ad))).length) Slot.unset).toArray) n := by
  have hl := lv_entry (As.map (mjV ad)) (n := n) (by rw [mj_sl]; exact hn)
  refine ⟨hl.1, hl.2.1, fun i v h => ?_⟩
  unfold mjLo0 at h
  by_cases hi : i < (As.flatMap mjFl).length
  · rw [List.getElem?_append_left hi] at h
    have := mj_args ad As 0 i v h
    rw [Nat.zero_add] at this
    exact hl.2.2 _ this
  · rw [List.getElem?_append_right (by omega), List.getElem?_replicate] at h
    split at h <;> cases h
theorem mjM_of {j : Nat} {J : mjI} {As : List Value} (hJ : mjMt j = some J) (hn : (As.flatMap mjFl).length ≤ J.2.2.2.1) (k : mjG (fun _ _ _ => True) d C S J Post 0 (mjLo0 As J.2.2.2.1) [] hp 0 0) : mjM d C S j As hp Post := by
  intro J' hJ' l D cy ad sz
  cases hJ.symm.trans hJ'
  refine va_MetF (cc := J.2.2.1) (maxL := J.2.2.2.1) (ret := J.2.2.2.2.1) (mjMt_facts hJ).1 rfl ?_
  intro p e s m args below meth c s₁ B hml hv
  obtain ⟨rfl, hsz, hP, hK, hD0, hC⟩ := hv
  subst hsz
  have hts := atoms_spec (ws := mjws J) B.pre
  have hown : s.vm.findClass (mjCn J.2.1) = some m.cls := by rw [(mjMt_facts hJ).2.2.2]; exact findClass_of_methodNamed B.named
  rw [lg_entry_eq]
  exact k l D cy ad hp.length (va_A (mjW ad cy hp) s.heap.size) p e s m _ below meth c _ ⟨Nat.le_refl _, Nat.le_refl _, Nat.le_refl _, Nat.le_refl _⟩ ⟨B.exec, B.bytes, hml, B.returns, B.notSynchronized, hown, fun h => (name_of_methodNamed B.named B.method).1.trans h, fun w hw => hts w (List.mem_cons_of_mem _ hw)⟩ hK (fun q h => Or.inr h) hC trivial ad s.heap [] _ mjAg.rf (fun _ => rfl) (Nat.le_refl _) ⟨hP, hD0.self, va_S.rf⟩ (mj_entry ad As hn)
theorem mjM.post {Post' : Option Value → mjH → Prop} {j : Nat} {As : List Value} (hP : ∀ r hp', Post' r hp' → Post r hp') (k : mjM d C S j As hp Post') : mjM d C S j As hp Post := by
  intro J hJ l D cy ad sz
  have h := k J hJ l D cy ad sz
  refine fun p e a1 a2 a3 s m args below a4 a5 a6 a7 => ?_
  obtain ⟨k0, oc, b1, b2, b3, ⟨⟨r, hp', ad', q1, q2⟩, q3⟩, b4⟩ := h p e a1 a2 a3 s m args below a4 a5 a6 a7
  exact ⟨k0, oc, b1, b2, b3, ⟨⟨r, hp', ad', hP _ _ q1, q2⟩, q3⟩, b4⟩
theorem mj_good {ws : List Cond} (h : ∀ w ∈ ws, w ∈ mjT) : GoodIn mjT ws := fun w hw => ⟨h w hw, mjT_good (h w hw)⟩
theorem mj_wsin {j : Nat} {J : mjI} (hJ : mjMt j = some J) : ∀ w ∈ mjws J, w ∈ mjT := by
  intro w hw
  rcases List.mem_cons.mp hw with rfl | hw
  · exact (mjMt_words hJ).1
  · exact hw
theorem mj_blind (D : va_G) (cy : Nat → ClassId) (ad : Nat → Nat) (sz : Nat) (hp : mjH) (av : List Value) : FrameBlind (va_Pc av (mjPr D cy ad sz hp)) :=
  fun a U g mk h => ⟨h.1, h.2.1, h.2.2.1, va_K.moved (u := U) (U := U.calling g mk a) (Vm.Alike.refl U.vm) h.2.2.2.1, h.2.2.2.2.1, mjCst.call h.2.2.2.2.2⟩
/-- behind a call -/
theorem mj_goes {C' S' : Nat} {Post' : Option Value → mjH → Prop} {rest : List Value} {l : Launch} {D : va_G} {cy : Nat → ClassId} {ad0 : Nat → Nat} {N0 : Nat} {A : Nat → Prop} {p : Program} {e : Env} {s : State} {m : MethodId} {args a : Array Value} {below : List Frame} {meth : Method} {c : Code} {R : Room} (hR : mjRo R d C S) (hAt : mjAt p s m args meth c I) (hK : va_K D vwCl (mjTy cy) s) (hA : ∀ q, s.heap.size ≤ q → A q) (hC : mjCst ad0 A s) (hX : X s A ad0) {ad : Nat → Nat} {H : Heap} {locs : List Loc} {ls : Array Slot} (h1 : mjAg N0 ad0 ad) (h2 : C = 0 → ad = ad0) (h3 : N0 ≤ hp.length) (h4 : mjSt D cy A s ad hp H locs) (h5 : mjL ad lo ls I.2.2.2.1) {st0 : List Value}
    (hrun : va_Run p l e R s m args below meth c H locs kc ks C' S' (F0 m pc ls st0) (rest.map (mjV ad)) (mjQ D cy ad hp.length C' (va_A (mjW ad cy hp) H.size) Post' a) (va_A (mjW ad cy hp) H.size))
    (hkc : kc + C' ≤ C) (hwf : C' = 0 ∨ (mjWl hp.length lo && mjWs hp.length rest) = true)
    (k : ∀ r hp', Post' r hp' → hp.length ≤ hp'.length → mjG X d C S I Post (pc + 3) lo (r.toList ++ rest) hp' (kc + C') (ks + S')) :
    W p l e R s m args below meth c H locs kc ks (MQ below (mjQ D cy ad0 N0 C A Post) args s C S A) (F0 m pc ls st0) := by
  have hF : ∀ q, va_A (mjW ad cy hp) H.size q → A q := fun q hq => by
    rcases hq with ⟨k, e, hk⟩ | hq
    · exact h4.2.1.2 k _ hk
    · exact hA q (Nat.le_trans h4.2.2.1 hq)
  intro T hT hSt
  obtain ⟨v, st₀, t, T', L, g0, X', hL, e1, e2, ⟨⟨r, hp', ad', q1, q2, q3, q4, q5, q6, q7⟩, hz, hkk⟩, stp⟩ := hrun T hT hSt
  have hv : v = r.map (mjV ad') := by cases q5; rfl
  subst hv
  rw [g0] at hz hkk
  have hl' : mjL ad' lo ls I.2.2.2.1 ∧ rest.map (mjV ad') = rest.map (mjV ad) := by
    rcases hwf with hwf | hwf
    · rw [q4 hwf]; exact ⟨h5, rfl⟩
    · simp only [Bool.and_eq_true] at hwf
      exact ⟨mjWl_ag q3 hwf.1 h5, mjWs_ag q3 hwf.2⟩
  obtain ⟨t2, a1, b1⟩ := k r hp' q1 q2 l D cy ad0 N0 A p e s m args below meth c R hR hAt hK hA hC hX ad' T'.heap (locs ++ L) ls (h1.tr q3 h3) (fun hc0 => (q4 (by omega)).trans (h2 hc0)) (Nat.le_trans h3 q2) ⟨by rw [e1]; exact q6, q7.weaken (fun _ q _ h => hF q.1 h), Nat.le_trans h4.2.2.1 (by rw [e1]; exact hz), fun q g1 g2 => by rw [e1, hkk q (Nat.lt_of_lt_of_le g1 h4.2.2.1) (fun z => g2 (hF q z))]; exact h4.2.2.2.1 q g1 g2, fun q hq => by
      rcases List.mem_append.mp hq with h | h
      · exact h4.2.2.2.2 q h
      · exact hF _ (hL q h)⟩ hl'.1 T' rfl X'
  refine ⟨t2, stp t2 ?_, b1⟩
  have es : (r.toList ++ rest).map (mjV ad') = (r.map (mjV ad')).toList ++ rest.map (mjV ad) := by
    rw [List.map_append, hl'.2]
    cases r <;> rfl
  rw [es] at a1
  exact a1
theorem mj_pre {l : Launch} {D : va_G} {cy : Nat → ClassId} {ad0 ad : Nat → Nat} {N0 : Nat} {A : Nat → Prop} {s : State} {H : Heap} {locs : List Loc} {As : List Value} (hK : va_K D vwCl (mjTy cy) s) (hA : ∀ q, s.heap.size ≤ q → A q) (hC : mjCst ad0 A s) (h1 : mjAg N0 ad0 ad) (h4 : mjSt D cy A s ad hp H locs) : ∀ U : State, U.heap = H → s.WarmedH U.vm → va_Pc (As.map (mjV ad)) (mjPr D cy ad H.size hp) (As.map (mjV ad)).toArray U := by
  intro U hU hW
  refine ⟨rfl, by rw [hU], by rw [hU]; exact h4.1, va_K.moved hW.alike hK, h4.2.1.weaken (fun _ _ _ _ => trivial), hC.step (fun q hq => h1 q (Or.inr hq)) h4.2.2 hU hW (fun q hq => ?_)⟩
  rcases hq with ⟨k, e, hk⟩ | hq
  · exact h4.2.1.2 k _ hk
  · exact hA q (Nat.le_trans h4.2.2.1 hq)
/-- what the receiver is -/
def mjRv (hp : mjH) (h : Nat) (N : String) : Prop := (∃ (ci : Nat) (fs : List Value), hp[h]? = some (.inr (ci, fs)) ∧ ci < 13 ∧ (mjCl ci).1 = N) ∨ ∃ i : Nat, i < 2 ∧ h = 1000000 + 2 * i ∧ N = "java/lang/String"
theorem mjr_invokevirtual {idx j h : Nat} {J : mjI} {As rest : List Value} {d' C' S' : Nat} {Post' : Option Value → mjH → Prop} (hd : decode I.2.2.1 pc = .ok (.invokevirtual idx, 3)) (hm : mjMr I.2.1 idx = some j) (hJ : mjMt j = some J) (hst : J.2.2.2.2.2.2 = false) (hni : J.1.name ≠ "<init>") (hrv : mjRv hp h J.1.cls) (hn : As.length = J.2.2.2.2.2.1) (hsum : (rest.map fun v => v.category).sum ≤ 8) (hdd : d' + 1 ≤ d) (hkc : kc + C' ≤ C) (hks : ks + S' ≤ S) (hwf : C' = 0 ∨ (mjWl hp.length lo && mjWs hp.length rest) = true) (hM : mjM d' C' S' j (.ref h :: As) hp Post')
    (k : ∀ r hp', Post' r hp' → hp.length ≤ hp'.length → mjG X d C S I Post (pc + 3) lo (r.toList ++ rest) hp' (kc + C') (ks + S')) : mjG X d C S I Post pc lo (As.reverse ++ .ref h :: rest) hp kc ks := by
  intro l D cy ad0 N0 A p e s m args below meth c R hR hAt hK hA hC hX ad H locs ls h1 h2 h3 h4 h5
  obtain ⟨w1, w2, -, w4, w5⟩ := mjMt_words hJ
  obtain ⟨f1, f2, f3, f4⟩ := mjMt_facts hJ
  have hcw := cwV (R := R) (s := s) (args := args) (own := mjCn I.2.1) (C := J.1.cls) (index := idx) (y := J.1) (bytes := J.2.2.1) (maxL := J.2.2.2.1) (ret := J.2.2.2.2.1) (ws := mjws J) (ws' := mjT) (rm := mjRm d' C' S') (mc := C') (ms := S') J.2.2.2.2.2.1 hAt.2.2.2.2.2.2.2 (mj_good (by
      intro w hw
      unfold wsV at hw
      rcases List.mem_append.mp hw with hw | hw
      · simp only [List.mem_cons, List.not_mem_nil, or_false] at hw
        rcases hw with rfl | rfl | rfl | rfl
        · exact mjMr_ok hm hJ
        · exact w4 hst
        · exact w5 hst hni
        · exact w2
      · exact mj_wsin hJ w hw)) rfl rfl rfl ⟨rfl, f2⟩ ⟨Nat.le_trans hdd hR.1, by have h40 := hR.2.1; show 8 + (J.2.2.2.1 + 11) + 40 * d' ≤ R.locals; omega⟩
  refine mj_goes hR hAt hK hA hC hX h1 h2 h3 h4 h5 (a := (Value.ref (ad h) :: As.map (mjV ad)).toArray) (va_runV (C := J.1.cls) (b := ad h) (As := As.map (mjV ad)) ⟨hAt.1, hAt.2.1, hAt.2.2.1, hAt.2.2.2.2.2.1, hAt.2.2.2.2.2.2.2⟩ (hM J hJ l D cy ad H.size) hcw ⟨mj_blind _ _ _ _ _ _, ?_, mj_pre (l := l) (As := .ref h :: As) hK hA hC h1 h4⟩ rfl (by rw [List.length_map]; exact hn) (h5.1) ?_ ?_ hd ⟨Nat.le_trans hkc hR.2.2.1, Nat.le_trans hks hR.2.2.2⟩) hkc hwf k
  · rcases hrv with ⟨ci, fs, hx, hci, hc⟩ | ⟨i, hi, rfl, hc⟩
    · rw [← hc]
      exact va_recv hK h4.1 (mjCl_get hci) (mjW_at hx)
    · rw [hc, h1 (1000000 + 2 * i) (Or.inr (by omega))]
      exact vk_recv (adK := fun i => ad0 (1000000 + 2 * i)) (i := i) hC.1 hi h4.2.2
  · show (As.reverse ++ .ref h :: rest).map (mjV ad) = (As.map (mjV ad)).reverse ++ .ref (ad h) :: rest.map (mjV ad)
    rw [List.map_append, List.map_reverse]
    rfl
  · refine lv_room ?_
    rw [List.map_map]
    have : (rest.map ((fun v => v.category) ∘ mjV ad)) = rest.map (fun v => v.category) := List.map_congr_left (fun v _ => mjV_cat ad v)
    rw [this]
    exact hsum
theorem mjr_invokestatic {idx j : Nat} {J : mjI} {As rest : List Value} {d' C' S' : Nat} {Post' : Option Value → mjH → Prop} (hd : decode I.2.2.1 pc = .ok (.invokestatic idx, 3)) (hm : mjMr I.2.1 idx = some j) (hJ : mjMt j = some J) (hst : J.2.2.2.2.2.2 = true) (hn : As.length = J.2.2.2.2.2.1) (hsum : (rest.map fun v => v.category).sum ≤ 8) (hdd : d' + 1 ≤ d) (hkc : kc + C' ≤ C) (hks : ks + S' ≤ S) (hwf : C' = 0 ∨ (mjWl hp.length lo && mjWs hp.length rest) = true) (hM : mjM d' C' S' j As hp Post')
    (k : ∀ r hp', Post' r hp' → hp.length ≤ hp'.length → mjG X d C S I Post (pc + 3) lo (r.toList ++ rest) hp' (kc + C') (ks + S')) : mjG X d C S I Post pc lo (As.reverse ++ rest) hp kc ks := by
  intro l D cy ad0 N0 A p e s m args below meth c R hR hAt hK hA hC hX ad H locs ls h1 h2 h3 h4 h5
  obtain ⟨w1, w2, w3, -, -⟩ := mjMt_words hJ
  obtain ⟨f1, f2, f3, f4⟩ := mjMt_facts hJ
  have hcw := va_cwS (R := R) (s := s) (args := args) (own := mjCn I.2.1) (index := idx) (y := J.1) (bytes := J.2.2.1) (maxL := J.2.2.2.1) (ret := J.2.2.2.2.1) (ws := mjws J) (ws' := mjT) (rm := mjRm d' C' S') (mc := C') (ms := S') J.2.2.2.2.2.1 hAt.2.2.2.2.2.2.2 (mj_good (by
      intro w hw
      unfold va_wsS at hw
      rcases List.mem_append.mp hw with hw | hw
      · simp only [List.mem_cons, List.not_mem_nil, or_false] at hw
        rcases hw with rfl | rfl | rfl
        · exact mjMr_ok hm hJ
        · exact w3 hst
        · exact w2
      · exact mj_wsin hJ w hw)) rfl rfl rfl f2 ⟨Nat.le_trans hdd hR.1, by have h40 := hR.2.1; show 8 + (J.2.2.2.1 + 11) + 40 * d' ≤ R.locals; omega⟩
  refine mj_goes hR hAt hK hA hC hX h1 h2 h3 h4 h5 (a := (As.map (mjV ad)).toArray) (va_runS (As := As.map (mjV ad)) ⟨hAt.1, hAt.2.1, hAt.2.2.1, hAt.2.2.2.2.2.1, hAt.2.2.2.2.2.2.2⟩ (hM J hJ l D cy ad H.size) hcw ⟨mj_blind _ _ _ _ _ _, mj_pre (l := l) (As := As) hK hA hC h1 h4⟩ rfl (by rw [List.length_map]; exact hn) (h5.1) ?_ ?_ hd ⟨Nat.le_trans hkc hR.2.2.1, Nat.le_trans hks hR.2.2.2⟩) hkc hwf k
  · show (As.reverse ++ rest).map (mjV ad) = (As.map (mjV ad)).reverse ++ rest.map (mjV ad)
    rw [List.map_append, List.map_reverse]
  · refine lv_room ?_
    rw [List.map_map]
    have : (rest.map ((fun v => v.category) ∘ mjV ad)) = rest.map (fun v => v.category) := List.map_congr_left (fun v _ => mjV_cat ad v)
    rw [this]
    exact hsum
theorem mjr_invokespecial {idx j h : Nat} {J : mjI} {As rest : List Value} {d' C' S' : Nat} {Post' : Option Value → mjH → Prop} (hd : decode I.2.2.1 pc = .ok (.invokespecial idx, 3)) (hm : mjMr I.2.1 idx = some j) (hJ : mjMt j = some J) (hst : J.2.2.2.2.2.2 = false) (hni : J.1.name = "<init>") (hre : J.2.2.2.2.1 = none) (hn : As.length = J.2.2.2.2.2.1) (hsum : (rest.map fun v => v.category).sum ≤ 8) (hdd : d' + 1 ≤ d) (hkc : kc + C' ≤ C) (hks : ks + S' ≤ S) (hwf : C' = 0 ∨ (mjWl hp.length lo && mjWs hp.length rest) = true) (hM : mjM d' C' S' j (.ref h :: As) hp Post')
    (k : ∀ r hp', Post' r hp' → hp.length ≤ hp'.length → mjG X d C S I Post (pc + 3) lo (r.toList ++ rest) hp' (kc + C') (ks + S')) : mjG X d C S I Post pc lo (As.reverse ++ .ref h :: rest) hp kc ks := by
  intro l D cy ad0 N0 A p e s m args below meth c R hR hAt hK hA hC hX ad H locs ls h1 h2 h3 h4 h5
  obtain ⟨w1, w2, -, w4, w5⟩ := mjMt_words hJ
  obtain ⟨f1, f2, f3, f4⟩ := mjMt_facts hJ
  have hcw := cwI (R := R) (s := s) (args := args) (own := mjCn I.2.1) (index := idx) (y := J.1) (bytes := J.2.2.1) (maxL := J.2.2.2.1) (ws := mjws J) (ws' := mjT) (rm := mjRm d' C' S') (mc := C') (ms := S') J.2.2.2.2.2.1 hAt.2.2.2.2.2.2.2 (mj_good (mj_wsin hJ)) (by unfold mjws; rw [hre]) rfl rfl (hAt.2.2.2.2.2.2.2 _ w2) (hAt.2.2.2.2.2.2.2 _ (mjMr_ok hm hJ)) (hAt.2.2.2.2.2.2.2 _ (w4 hst)) hni f2 ⟨Nat.le_trans hdd hR.1, by have h40 := hR.2.1; show 8 + (J.2.2.2.1 + 11) + 40 * d' ≤ R.locals; omega⟩
  refine mj_goes hR hAt hK hA hC hX h1 h2 h3 h4 h5 (a := (Value.ref (ad h) :: As.map (mjV ad)).toArray) (va_runI (b := ad h) (As := As.map (mjV ad)) ⟨hAt.1, hAt.2.1, hAt.2.2.1, hAt.2.2.2.2.2.1, hAt.2.2.2.2.2.2.2⟩ (hM J hJ l D cy ad H.size) hcw ⟨mj_blind _ _ _ _ _ _, mj_pre (l := l) (As := .ref h :: As) hK hA hC h1 h4⟩ rfl (by rw [List.length_map]; exact hn) (h5.1) ?_ ?_ hd ⟨Nat.le_trans hkc hR.2.2.1, Nat.le_trans hks hR.2.2.2⟩) hkc hwf k
  · show (As.reverse ++ .ref h :: rest).map (mjV ad) = (As.map (mjV ad)).reverse ++ .ref (ad h) :: rest.map (mjV ad)
    rw [List.map_append, List.map_reverse]
    rfl
  · refine lv_room ?_
    rw [List.map_map]
    have : (rest.map ((fun v => v.category) ∘ mjV ad)) = rest.map (fun v => v.category) := List.map_congr_left (fun v _ => mjV_cat ad v)
    rw [this]
    exact hsum
theorem mjr_objInit {idx h : Nat} {rest : List Value} (hd : decode I.2.2.1 pc = .ok (.invokespecial idx, 3)) (ho : mjOr I.2.1 idx = true) (hsum : (rest.map fun v => v.category).sum ≤ 8) (hdd : 1 ≤ d) (k : mjG X d C S I Post (pc + 3) lo rest hp kc ks) : mjG X d C S I Post pc lo (.ref h :: rest) hp kc ks := by
  intro l D cy ad0 N0 A p e s m args below meth c R hR hAt hK hA hC hX ad H locs ls h1 h2 h3 h4 h5
  refine W.objInit (a := ad h) (rest := rest.map (mjV ad)) hAt.1 hAt.2.1 hAt.2.2.2.2.2.1 (hAt.2.2.2.2.2.2.2 _ (mjOr_ok ho)) (hAt.2.2.2.2.2.2.2 _ mjO_words.1) (hAt.2.2.2.2.2.2.2 _ mjO_words.2) rfl (h5.1.trans hAt.2.2.1.symm) rfl hd (Nat.le_trans hdd hR.1) ?_ (k l D cy ad0 N0 A p e s m args below meth c R hR hAt hK hA hC hX ad H locs ls h1 h2 h3 h4 h5)
  have h40 := hR.2.1
  have hs2 : ((rest.map (mjV ad)).map fun v => v.category).sum ≤ 8 := by
    rw [List.map_map]
    have : (rest.map ((fun v => v.category) ∘ mjV ad)) = rest.map (fun v => v.category) := List.map_congr_left (fun v _ => mjV_cat ad v)
    rw [this]
    exact hsum
  have := lv_room (m := m) (pc := pc) (ls := ls) (rest := (.ref h :: rest).map (mjV ad)) hs2
  show _ + _ + 12 ≤ R.locals
  omega
end MJ2
