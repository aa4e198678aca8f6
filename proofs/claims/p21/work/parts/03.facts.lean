/-! the tables' words, by place -/
def mjT : List Cond := lw_tbl.filter goodWord
theorem mjT_of {q : Nat × Nat} {w : Cond} (h : mj_at q = some w) (hg : goodWord w = true) : w ∈ mjT := List.mem_filter.mpr ⟨mj_at_mem h, hg⟩
theorem mjT_good {w : Cond} (h : w ∈ mjT) : (w.onTables && w.keeps) = true ∨ ∃ ty, w = .arrayClass ty := good_of_word (List.mem_filter.mp h).2
theorem mj_tbl {α β : Type} {L : List (List α)} {f g : Nat → α → β} (h : L.mapIdx (fun cn t => t.map (f cn)) = L.mapIdx (fun cn t => t.map (g cn))) {cn : Nat} {t : List α} {x : α} (ht : L[cn]? = some t) (he : x ∈ t) : f cn x = g cn x := by
  have h1 := congrArg (fun l => l[cn]?) h
  simp only [List.getElem?_mapIdx, ht, Option.map_some, Option.some.injEq] at h1
  exact List.map_inj_left.mp h1 x he
theorem mj_all {α : Type} {L : List (List α)} {f : Nat → α → Bool} (h : L.mapIdx (fun cn t => t.all (f cn)) = L.map (fun _ => true)) {cn : Nat} {t : List α} {x : α} (ht : L[cn]? = some t) (he : x ∈ t) : f cn x = true := by
  have h1 := congrArg (fun l => l[cn]?) h
  simp only [List.getElem?_mapIdx, List.getElem?_map, ht, Option.map_some, Option.some.injEq] at h1
  exact List.all_eq_true.mp h1 x he
/-- fields -/
def mj_bk {α β : Type} (L : List (List (List (Nat × α × β)))) (cn idx : Nat) : Option α := (L[cn]?).bind (fun B => (B[idx / 16]?).bind (fun t => (t.find? (fun e => e.1 == idx)).map (fun e => e.2.1)))
theorem mj_bk_ok {α β : Type} {L : List (List (List (Nat × α × β)))} {cn idx : Nat} {x : α} (h : mj_bk L cn idx = some x) : ∃ t e, (L.map List.flatten)[cn]? = some t ∧ e ∈ t ∧ e.2.1 = x ∧ e.1 = idx := by
  unfold mj_bk at h
  obtain ⟨B, hB, h2⟩ := Option.bind_eq_some_iff.mp h
  obtain ⟨t, ht, h3⟩ := Option.bind_eq_some_iff.mp h2
  obtain ⟨e, he, h4⟩ := Option.map_eq_some_iff.mp h3
  exact ⟨B.flatten, e, by rw [List.getElem?_map, hB]; rfl, List.mem_flatten.mpr ⟨t, List.mem_of_getElem? ht, List.mem_of_find?_eq_some he⟩, h4, by simpa using List.find?_some he⟩
def mjFr (cn idx : Nat) : Option (Nat × Nat) := mj_bk mjFBs cn idx
def mjCl (ci : Nat) : vw_C := vwCl.getD ci ("", TX0, 0)
def mjFc (cn : Nat) (e : Nat × (Nat × Nat) × Nat × Nat) : Cond := .fieldLink (mjCn cn) e.1 (mjCl e.2.1.1).1 ((mjCl e.2.1.1).2.1 e.2.1.2).2.1 ((mjCl e.2.1.1).2.1 e.2.1.2).2.2.1
set_option maxRecDepth 1000000 in
theorem mjF_rfl : mjFs.mapIdx (fun cn t => t.map (fun e => mj_at e.2.2)) = mjFs.mapIdx (fun cn t => t.map (fun e => some (mjFc cn e))) := by rfl
theorem mjF_all : mjFs.mapIdx (fun cn t => t.all (fun e => decide (e.2.1.1 < 13) && decide (e.2.1.2 < (mjCl e.2.1.1).2.2) && decide (((mjCl e.2.1.1).2.1 e.2.1.2).1 = (mjCl e.2.1.1).1))) = mjFs.map (fun _ => true) := by decide +kernel
theorem mjCl_get {ci : Nat} (h : ci < 13) : vwCl[ci]? = some (mjCl ci) := by
  unfold mjCl
  rw [List.getD_eq_getElem?_getD]
  have : ci < vwCl.length := h
  rw [List.getElem?_eq_getElem this]
  rfl
theorem mjFr_ok {cn idx ci k : Nat} (h : mjFr cn idx = some (ci, k)) : ci < 13 ∧ k < (mjCl ci).2.2 ∧ ((mjCl ci).2.1 k).1 = (mjCl ci).1 ∧ Cond.fieldLink (mjCn cn) idx (mjCl ci).1 ((mjCl ci).2.1 k).2.1 ((mjCl ci).2.1 k).2.2.1 ∈ mjT := by
  obtain ⟨t, e, ht, hm, h3, hp⟩ := mj_bk_ok h
  have h4 := mj_tbl (f := fun cn e => mj_at e.2.2) (g := fun cn e => some (mjFc cn e)) mjF_rfl ht hm
  have h5 := mj_all (f := fun cn e => decide (e.2.1.1 < 13) && decide (e.2.1.2 < (mjCl e.2.1.1).2.2) && decide (((mjCl e.2.1.1).2.1 e.2.1.2).1 = (mjCl e.2.1.1).1)) mjF_all ht hm
  obtain ⟨i0, ck, pl⟩ := e
  dsimp only at h3 h4 h5 hp
  subst h3
  simp only [Bool.and_eq_true, decide_eq_true_eq] at h5
  subst hp
  exact ⟨h5.1.1, h5.1.2, h5.2, mjT_of h4 rfl⟩
-- classes: their fields' words, types, names
set_option maxRecDepth 1000000 in
theorem mjLay_rfl : mjLay.mapIdx (fun ci t => t.mapIdx (fun k q => mj_at q)) = mjLay.mapIdx (fun ci t => t.mapIdx (fun k q => some (u_lay (mjCl ci).1 (mjCl ci).2.1 k))) := by rfl
set_option maxRecDepth 1000000 in
theorem mjLay_len : mjLay.map (fun t => t.length) = vwCl.map (fun q => q.2.2) := by rfl
theorem mj_lay {ci : Nat} (h : ci < 13) : ∀ w ∈ u_ws (mjCl ci).1 (mjCl ci).2.1 (mjCl ci).2.2, w ∈ mjT := by
  intro w hw
  obtain ⟨k, hk, rfl⟩ := List.mem_map.mp hw
  have hk := List.mem_range.mp hk
  obtain ⟨t, ht⟩ : ∃ t, mjLay[ci]? = some t := ⟨_, List.getElem?_eq_getElem (show ci < mjLay.length from h)⟩
  have h1 := congrArg (fun l => l[ci]?) mjLay_rfl
  simp only [List.getElem?_mapIdx, ht, Option.map_some, Option.some.injEq] at h1
  have h2 := congrArg (fun l => l[ci]?) mjLay_len
  simp only [List.getElem?_map, ht, mjCl_get h, Option.map_some, Option.some.injEq] at h2
  have h3 := congrArg (fun l => l[k]?) h1
  obtain ⟨q, hq⟩ : ∃ q, t[k]? = some q := ⟨_, List.getElem?_eq_getElem (by omega)⟩
  simp only [List.getElem?_mapIdx, hq, Option.map_some, Option.some.injEq] at h3
  refine mjT_of h3 ?_
  unfold u_lay
  split <;> rfl
theorem mj_ty {ci : Nat} (h : ci < 13) : ∀ k, k < (mjCl ci).2.2 → parseFieldDescriptor ((mjCl ci).2.1 k).2.2.1 = some (mjTyv ci k) := by
  match ci, h with
  | 0, _ => exact tyX0_ok
  | 1, _ => exact tyX1_ok
  | 2, _ => exact tyX2_ok
  | 3, _ => exact tyX3_ok
  | 4, _ => exact tyX4_ok
  | 5, _ => exact tyX5_ok
  | 6, _ => exact tyX6_ok
  | 7, _ => exact tyX7_ok
  | 8, _ => exact tyX8_ok
  | 9, _ => exact tyX9_ok
  | 10, _ => exact tyX10_ok
  | 11, _ => exact tyX11_ok
  | 12, _ => exact tyX12_ok
  | n + 13, h => exact absurd h (by omega)
theorem mj_nm {ci : Nat} (h : ci < 13) : ∀ a, a < (mjCl ci).2.2 → ∀ b, b < (mjCl ci).2.2 → a ≠ b → ((mjCl ci).2.1 a).2.1 ≠ ((mjCl ci).2.1 b).2.1 := by
  match ci, h with
  | 0, _ => exact nmX0
  | 1, _ => exact nmX1
  | 2, _ => exact nmX2
  | 3, _ => exact nmX3
  | 4, _ => exact nmX4
  | 5, _ => exact nmX5
  | 6, _ => exact nmX6
  | 7, _ => exact nmX7
  | 8, _ => exact nmX8
  | 9, _ => exact nmX9
  | 10, _ => exact nmX10
  | 11, _ => exact nmX11
  | 12, _ => exact nmX12
  | n + 13, h => exact absurd h (by omega)
/-- new -/
def mjNr (cn idx : Nat) : Option Nat := (mjNs[cn]?).bind (fun t => (t.find? (fun e => e.1 == idx)).map (fun e => e.2.1))
set_option maxRecDepth 1000000 in
theorem mjN_rfl : mjNs.mapIdx (fun cn t => t.map (fun e => mj_at e.2.2)) = mjNs.mapIdx (fun cn t => t.map (fun e => some (Cond.classLink (mjCn cn) e.1 (mjCl e.2.1).1))) := by rfl
theorem mjN_all : mjNs.mapIdx (fun cn t => t.all (fun e => decide (e.2.1 < 13))) = mjNs.map (fun _ => true) := by decide +kernel
set_option maxRecDepth 1000000 in
theorem mjI_rfl : mjInst.mapIdx (fun ci e => (mj_at e.1, mj_at e.2)) = mjInst.mapIdx (fun ci e => (some (Cond.instantiable (mjCl ci).1 (mjCl ci).2.2), some (Cond.initialized (mjCl ci).1))) := by rfl
theorem mjNr_ok {cn idx ci : Nat} (h : mjNr cn idx = some ci) : ci < 13 ∧ Cond.classLink (mjCn cn) idx (mjCl ci).1 ∈ mjT := by
  unfold mjNr at h
  obtain ⟨t, ht, h2⟩ := Option.bind_eq_some_iff.mp h
  obtain ⟨e, he, h3⟩ := Option.map_eq_some_iff.mp h2
  have hm := List.mem_of_find?_eq_some he
  have hp := List.find?_some he
  have h4 := mj_tbl (f := fun cn e => mj_at e.2.2) (g := fun cn e => some (Cond.classLink (mjCn cn) e.1 (mjCl e.2.1).1)) mjN_rfl ht hm
  have h5 := mj_all (f := fun cn e => decide (e.2.1 < 13)) mjN_all ht hm
  obtain ⟨i0, ck, pl⟩ := e
  dsimp only at h3 h4 h5 hp
  subst h3
  simp only [decide_eq_true_eq] at h5
  have hi : i0 = idx := by simpa using hp
  subst hi
  exact ⟨h5, mjT_of h4 rfl⟩
theorem mj_inst {ci : Nat} (h : ci < 13) : Cond.instantiable (mjCl ci).1 (mjCl ci).2.2 ∈ mjT ∧ Cond.initialized (mjCl ci).1 ∈ mjT := by
  obtain ⟨q, hq⟩ : ∃ q, mjInst[ci]? = some q := ⟨_, List.getElem?_eq_getElem (show ci < mjInst.length from h)⟩
  have h3 := congrArg (fun l => l[ci]?) mjI_rfl
  simp only [List.getElem?_mapIdx, hq, Option.map_some, Option.some.injEq, Prod.mk.injEq] at h3
  exact ⟨mjT_of h3.1 rfl, mjT_of h3.2 rfl⟩
/-- constants -/
def mjCIr (cn idx : Nat) : Option Int32 := (mjCIs[cn]?).bind (fun t => (t.find? (fun e => e.1 == idx)).map (fun e => e.2.1))
def mjCLr (cn idx : Nat) : Option Int64 := (mjCLs[cn]?).bind (fun t => (t.find? (fun e => e.1 == idx)).map (fun e => e.2.1))
theorem mjCI_rfl : mjCIs.mapIdx (fun cn t => t.map (fun e => mj_at e.2.2)) = mjCIs.mapIdx (fun cn t => t.map (fun e => some (Cond.constant (mjCn cn) e.1 e.2.1))) := by rfl
theorem mjCL_rfl : mjCLs.mapIdx (fun cn t => t.map (fun e => mj_at e.2.2)) = mjCLs.mapIdx (fun cn t => t.map (fun e => some (Cond.constantLong (mjCn cn) e.1 e.2.1))) := by rfl
theorem mjCIr_ok {cn idx : Nat} {v : Int32} (h : mjCIr cn idx = some v) : Cond.constant (mjCn cn) idx v ∈ mjT := by
  unfold mjCIr at h
  obtain ⟨t, ht, h2⟩ := Option.bind_eq_some_iff.mp h
  obtain ⟨e, he, h3⟩ := Option.map_eq_some_iff.mp h2
  have hm := List.mem_of_find?_eq_some he
  have hp := List.find?_some he
  have h4 := mj_tbl (f := fun cn e => mj_at e.2.2) (g := fun cn e => some (Cond.constant (mjCn cn) e.1 e.2.1)) mjCI_rfl ht hm
  obtain ⟨i0, ck, pl⟩ := e
  dsimp only at h3 h4 hp
  subst h3
  have hi : i0 = idx := by simpa using hp
  subst hi
  exact mjT_of h4 rfl
theorem mjCLr_ok {cn idx : Nat} {v : Int64} (h : mjCLr cn idx = some v) : Cond.constantLong (mjCn cn) idx v ∈ mjT := by
  unfold mjCLr at h
  obtain ⟨t, ht, h2⟩ := Option.bind_eq_some_iff.mp h
  obtain ⟨e, he, h3⟩ := Option.map_eq_some_iff.mp h2
  have hm := List.mem_of_find?_eq_some he
  have hp := List.find?_some he
  have h4 := mj_tbl (f := fun cn e => mj_at e.2.2) (g := fun cn e => some (Cond.constantLong (mjCn cn) e.1 e.2.1)) mjCL_rfl ht hm
  obtain ⟨i0, ck, pl⟩ := e
  dsimp only at h3 h4 hp
  subst h3
  have hi : i0 = idx := by simpa using hp
  subst hi
  exact mjT_of h4 rfl
/-- methods -/
def mjMr (cn idx : Nat) : Option Nat := mj_bk mjLBs cn idx
set_option maxRecDepth 1000000 in
theorem mjL_rfl : mjLs.mapIdx (fun cn t => t.map (fun e => mj_at e.2.2)) = mjLs.mapIdx (fun cn t => t.map (fun e => (mjMt e.2.1).map (fun J => Cond.methodLink (mjCn cn) e.1 J.1))) := by rfl
theorem mjMr_ok {cn idx j : Nat} {J : mjI} (h : mjMr cn idx = some j) (hJ : mjMt j = some J) : Cond.methodLink (mjCn cn) idx J.1 ∈ mjT := by
  obtain ⟨t, e, ht, hm, h3, hp⟩ := mj_bk_ok h
  have h4 := mj_tbl (f := fun cn e => mj_at e.2.2) (g := fun cn e => (mjMt e.2.1).map (fun J => Cond.methodLink (mjCn cn) e.1 J.1)) mjL_rfl ht hm
  obtain ⟨i0, ck, pl⟩ := e
  dsimp only at h3 h4 hp
  subst h3
  rw [hJ] at h4
  subst hp
  exact mjT_of h4 rfl
set_option maxRecDepth 1000000 in
theorem mjMt_rfl : (List.range mjMn).map mjMt = mjMs.map some := by rfl
theorem mjMt_out : 16 * (mjMc.length - 1) ≤ mjMn ∧ ∀ r, r < 16 → mjMn ≤ 16 * (mjMc.length - 1) + r → (mjMc.getD (mjMc.length - 1) [])[r]? = none := by
  refine ⟨by decide +kernel, ?_⟩
  intro r h1 h2
  have h3 : (mjMc.getD (mjMc.length - 1) []).length + 16 * (mjMc.length - 1) = mjMn := by rfl
  exact List.getElem?_eq_none (by omega)
theorem mjMt_in {j : Nat} {J : mjI} (hJ : mjMt j = some J) : mjMs[j]? = some J := by
  by_cases hj : j < mjMn
  · have h := congrArg (fun l => l[j]?) mjMt_rfl
    simp only [List.getElem?_map, List.getElem?_range hj, Option.map_some, hJ] at h
    obtain ⟨q, hq, h2⟩ := Option.map_eq_some_iff.mp h.symm
    cases h2
    exact hq
  · exfalso
    unfold mjMt at hJ
    obtain ⟨t, ht, h2⟩ := Option.bind_eq_some_iff.mp hJ
    have h1 := (List.getElem?_eq_some_iff.mp ht).1
    have h3 := mjMt_out.1
    have h4 : j / 16 = mjMc.length - 1 := by omega
    have h5 := mjMt_out.2 (j % 16) (by omega) (by omega)
    rw [h4] at ht
    rw [List.getD_eq_getElem?_getD, ht] at h5
    rw [show (some t).getD [] = t from rfl] at h5
    rw [h5] at h2
    cases h2
set_option maxRecDepth 1000000 in
theorem mjP_rfl : mjPs.map (fun q => (mj_at q.1, mj_at q.2.1, mj_at q.2.2.1, mj_at q.2.2.2)) = mjMs.map (fun J => (some (Cond.code J.1 J.2.2.1 J.2.2.2.1 J.2.2.2.2.1), some (Cond.initialized J.1.cls), some (if J.2.2.2.2.2.2 then Cond.static J.1 else Cond.instanceMethod J.1), some (if J.2.2.2.2.2.2 || J.1.name == "<init>" then Cond.code J.1 J.2.2.1 J.2.2.2.1 J.2.2.2.2.1 else Cond.selects J.1.cls J.1 J.1))) := by rfl
theorem mjMs_all : mjMs.all (fun J => plainFor J.1 && decide (J.1.cls ≠ "java/lang/invoke/MethodHandle") && decide (J.1.cls ≠ "java/lang/invoke/VarHandle") && decide ((parseMethodDescriptor J.1.desc).map (fun d => d.parameters.length) = some J.2.2.2.2.2.1) && decide (J.2.2.2.1 ≤ 21) && decide (mjCn J.2.1 = J.1.cls)) = true := by decide +kernel
theorem mjMt_words {j : Nat} {J : mjI} (hJ : mjMt j = some J) : Cond.code J.1 J.2.2.1 J.2.2.2.1 J.2.2.2.2.1 ∈ mjT ∧ Cond.initialized J.1.cls ∈ mjT ∧ (J.2.2.2.2.2.2 = true → Cond.static J.1 ∈ mjT) ∧ (J.2.2.2.2.2.2 = false → Cond.instanceMethod J.1 ∈ mjT) ∧ (J.2.2.2.2.2.2 = false → J.1.name ≠ "<init>" → Cond.selects J.1.cls J.1 J.1 ∈ mjT) := by
  have h := congrArg (fun l => l[j]?) mjP_rfl
  have hJ' : mjMs[j]? = some J := mjMt_in hJ
  simp only [List.getElem?_map, hJ', Option.map_some] at h
  obtain ⟨q, hq, h2⟩ := Option.map_eq_some_iff.mp h
  simp only [Prod.mk.injEq] at h2
  obtain ⟨h3, h4, h5, h6⟩ := h2
  refine ⟨mjT_of h3 rfl, mjT_of h4 rfl, fun hs => ?_, fun hs => ?_, fun hs hn => ?_⟩
  · rw [hs] at h5; exact mjT_of h5 rfl
  · rw [hs] at h5; exact mjT_of h5 rfl
  · rw [hs] at h6
    have : (J.1.name == "<init>") = false := by simpa using hn
    rw [this] at h6
    exact mjT_of h6 rfl
theorem mjMt_facts {j : Nat} {J : mjI} (hJ : mjMt j = some J) : plainFor J.1 = true ∧ (J.1.cls ≠ "java/lang/invoke/MethodHandle" ∧ J.1.cls ≠ "java/lang/invoke/VarHandle" ∧ (parseMethodDescriptor J.1.desc).map (fun d => d.parameters.length) = some J.2.2.2.2.2.1) ∧ J.2.2.2.1 ≤ 21 ∧ mjCn J.2.1 = J.1.cls := by
  have h := List.all_eq_true.mp mjMs_all J (List.mem_of_getElem? (mjMt_in hJ))
  simp only [Bool.and_eq_true, decide_eq_true_eq] at h
  exact ⟨h.1.1.1.1.1, ⟨h.1.1.1.1.2, h.1.1.1.2, h.1.1.2⟩, h.1.2, h.2⟩
/-- Object's own constructor -/
def mjOr (cn idx : Nat) : Bool := match mjOs[cn]? with
  | some t => t.any (fun e => e.1 == idx)
  | none => false
set_option maxRecDepth 1000000 in
theorem mjO_rfl : mjOs.mapIdx (fun cn t => t.map (fun e => mj_at e.2)) = mjOs.mapIdx (fun cn t => t.map (fun e => some (Cond.methodLink (mjCn cn) e.1 objectInit))) := by rfl
theorem mjOp_rfl : (mj_at mjOp.1, mj_at mjOp.2) = (some (Cond.instanceMethod objectInit), some (Cond.code objectInit ⟨#[0xb1]⟩ 1 none)) := by rfl
theorem mjOr_ok {cn idx : Nat} (h : mjOr cn idx = true) : Cond.methodLink (mjCn cn) idx objectInit ∈ mjT := by
  unfold mjOr at h
  split at h
  · next t ht =>
    obtain ⟨e, hm, hp⟩ := List.any_eq_true.mp h
    have h4 := mj_tbl (f := fun cn e => mj_at e.2) (g := fun cn e => some (Cond.methodLink (mjCn cn) e.1 objectInit)) mjO_rfl ht hm
    have hi : e.1 = idx := by simpa using hp
    rw [hi] at h4
    exact mjT_of h4 rfl
  · cases h
theorem mjO_words : Cond.instanceMethod objectInit ∈ mjT ∧ Cond.code objectInit ⟨#[0xb1]⟩ 1 none ∈ mjT := by
  have h := mjOp_rfl
  simp only [Prod.mk.injEq] at h
  exact ⟨mjT_of h.1 rfl, mjT_of h.2 rfl⟩
/-- array classes -/
theorem mjA_rfl : (mj_at (1, 105), mj_at (1, 106), mj_at (1, 107), mj_at (1, 108)) = (some (Cond.arrayClass .byte), some (Cond.arrayClass .int), some (Cond.arrayClass .long), some (Cond.arrayClass .boolean)) := by rfl
theorem mjA_words : Cond.arrayClass .int ∈ mjT ∧ Cond.arrayClass .long ∈ mjT ∧ Cond.arrayClass .byte ∈ mjT ∧ Cond.arrayClass .boolean ∈ mjT := by
  have h := mjA_rfl
  simp only [Prod.mk.injEq] at h
  exact ⟨mjT_of h.2.1 rfl, mjT_of h.2.2.1 rfl, mjT_of h.1 rfl, mjT_of h.2.2.2 rfl⟩
-- fields of the constants
theorem mjK_rfl : mjKp.map mj_at = [some (Cond.fieldLink "java/lang/String" 38 "java/lang/String" "COMPACT_STRINGS" "Z"), some (Cond.fieldLink "java/lang/String" 1053 "jdk/internal/util/Preconditions" "SIOOBE_FORMATTER" "Ljava/util/function/BiFunction;"), some (Cond.fieldLink "java/lang/String" 9 "java/lang/String" "value" "[B"), some (Cond.fieldLink "java/lang/String" 15 "java/lang/String" "coder" "B")] := by rfl
theorem mjK_words : Cond.fieldLink "java/lang/String" 38 "java/lang/String" "COMPACT_STRINGS" "Z" ∈ mjT ∧ Cond.fieldLink "java/lang/String" 1053 "jdk/internal/util/Preconditions" "SIOOBE_FORMATTER" "Ljava/util/function/BiFunction;" ∈ mjT ∧ Cond.fieldLink "java/lang/String" 9 "java/lang/String" "value" "[B" ∈ mjT ∧ Cond.fieldLink "java/lang/String" 15 "java/lang/String" "coder" "B" ∈ mjT := by
  have h := mjK_rfl
  simp only [mjKp, List.map_cons, List.map_nil, List.cons.injEq, and_true] at h
  exact ⟨mjT_of h.1 rfl, mjT_of h.2.1 rfl, mjT_of h.2.2.1 rfl, mjT_of h.2.2.2 rfl⟩
theorem mjCn_17 : mjCn 17 = "java/lang/String" := by rfl
