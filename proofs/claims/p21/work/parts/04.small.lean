/-! ===== a small machine: worlds by handles, methods by numbers ===== -/
abbrev mjH : Type := List va_E
abbrev mjLo : Type := List (Option Value)
def mjV (ad : Nat → Nat) (v : Value) : Value := match v with
  | .ref h => .ref (ad h)
  | .int x => .int x
  | .long x => .long x
  | .float x => .float x
  | .double x => .double x
  | .null => .null
  | .retAddr _ => match ad 1000010 with
    | 0 => .null
    | q + 1 => .ref q
theorem mjV_cat (ad : Nat → Nat) (v : Value) : (mjV ad v).category = v.category := by
  cases v with
  | retAddr x =>
    unfold mjV
    dsimp only
    split <;> rfl
  | _ => rfl
def mjE (ad : Nat → Nat) (cy : Nat → ClassId) (x : va_E) : va_E := match x with
  | .inl a => .inl (cy a.1, a.2)
  | .inr o => .inr (o.1, o.2.map (mjV ad))
def mjW (ad : Nat → Nat) (cy : Nat → ClassId) (hp : mjH) : va_W := hp.mapIdx (fun h x => (ad h, mjE ad cy x))
theorem mjW_get (ad : Nat → Nat) (cy : Nat → ClassId) (hp : mjH) (h : Nat) : (mjW ad cy hp)[h]? = (hp[h]?).map (fun x => (ad h, mjE ad cy x)) := by
  unfold mjW
  rw [List.getElem?_mapIdx]
theorem mjW_len (ad : Nat → Nat) (cy : Nat → ClassId) (hp : mjH) : (mjW ad cy hp).length = hp.length := by simp [mjW]
theorem mjW_at {ad : Nat → Nat} {cy : Nat → ClassId} {hp : mjH} {h : Nat} {x : va_E} (hx : hp[h]? = some x) : (mjW ad cy hp)[h]? = some (ad h, mjE ad cy x) := by rw [mjW_get, hx]; rfl
theorem mjW_set (ad : Nat → Nat) (cy : Nat → ClassId) (hp : mjH) (h : Nat) (x : va_E) : mjW ad cy (hp.set h x) = (mjW ad cy hp).set h (ad h, mjE ad cy x) := by
  apply List.ext_getElem?
  intro i
  rw [mjW_get]
  by_cases hi : i = h
  · subst hi
    by_cases hl : i < hp.length
    · rw [List.getElem?_set_self hl, List.getElem?_set_self (by rw [mjW_len]; exact hl)]
      rfl
    · rw [List.getElem?_eq_none (by simp; omega), List.getElem?_eq_none (by simp [mjW_len]; omega)]
      rfl
  · rw [List.getElem?_set_ne (Ne.symm hi), List.getElem?_set_ne (Ne.symm hi), mjW_get]
def mjTy (cy : Nat → ClassId) : List (ClassId × FieldType) := [(cy 0, .int), (cy 1, .long), (cy 2, .byte), (cy 3, .boolean)]
theorem mjTy_len (cy : Nat → ClassId) (t : Nat) (h : t < 4) : ∃ ty, (mjTy cy)[t]? = some (cy t, ty) := by
  match t, h with
  | 0, _ => exact ⟨_, rfl⟩
  | 1, _ => exact ⟨_, rfl⟩
  | 2, _ => exact ⟨_, rfl⟩
  | 3, _ => exact ⟨_, rfl⟩
/-- locals -/
def mjL (ad : Nat → Nat) (lo : mjLo) (ls : Array Slot) (nL : Nat) : Prop := ls.size = nL ∧ lv_wf ls ∧ ∀ (i : Nat) (v : Value), lo[i]? = some (some v) → ls[i]? = some (.val (mjV ad v))
def mjLl (ad : Nat → Nat) (lo : mjLo) : List (Nat × Value) := (List.range lo.length).filterMap (fun i => match lo[i]? with
  | some (some v) => some (i, mjV ad v)
  | _ => none)
theorem mjLl_mem {ad : Nat → Nat} {lo : mjLo} {j : Nat} {x : Value} : (j, x) ∈ mjLl ad lo ↔ ∃ v, lo[j]? = some (some v) ∧ x = mjV ad v := by
  unfold mjLl
  rw [List.mem_filterMap]
  constructor
  · rintro ⟨i, hi, h⟩
    split at h
    · next v hv =>
      cases h
      exact ⟨v, hv, rfl⟩
    · cases h
  · rintro ⟨v, hv, rfl⟩
    refine ⟨j, List.mem_range.mpr (List.getElem?_eq_some_iff.mp hv).1, ?_⟩
    rw [hv]
theorem mjL.has {ad : Nat → Nat} {lo : mjLo} {ls : Array Slot} {nL : Nat} (h : mjL ad lo ls nL) : lv_has ls nL (mjLl ad lo) :=
  ⟨h.1, h.2.1, fun q hq => by
    obtain ⟨j, x⟩ := q
    obtain ⟨v, h1, rfl⟩ := mjLl_mem.mp hq
    exact h.2.2 j v h1⟩
def mjCr (lo : mjLo) (i : Nat) : mjLo := match i with
  | 0 => lo
  | j + 1 => match lo[j]? with
    | some (some w) => if w.category = 2 then lo.set j none else lo
    | _ => lo
theorem mjCr_spec {lo : mjLo} {i j : Nat} {w : Value} (h : (mjCr lo i)[j]? = some (some w)) : lo[j]? = some (some w) ∧ ¬ (j + 1 = i ∧ w.category = 2) := by
  unfold mjCr at h
  split at h
  · exact ⟨h, by omega⟩
  · next k =>
    split at h
    · next v hv =>
      split at h
      · next hc =>
        by_cases hj : j = k
        · subst hj
          rw [List.getElem?_set_self (List.getElem?_eq_some_iff.mp hv).1] at h
          cases h
        · rw [List.getElem?_set_ne (Ne.symm hj)] at h
          exact ⟨h, by omega⟩
      · next hc =>
        refine ⟨h, fun ⟨e, hw⟩ => hc ?_⟩
        have : j = k := by omega
        subst this
        rw [hv] at h
        cases h
        exact hw
    · next hv =>
      refine ⟨h, fun ⟨e, hw⟩ => ?_⟩
      have : j = k := by omega
      subst this
      exact hv w h
def mjS1 (lo : mjLo) (i : Nat) (v : Value) : mjLo := (mjCr lo i).set i (some v)
def mjS2 (lo : mjLo) (i : Nat) (v : Value) : mjLo := ((mjCr lo i).set i (some v)).set (i + 1) none
theorem mjL.st1 {ad : Nat → Nat} {lo : mjLo} {ls : Array Slot} {nL i : Nat} {v : Value} (h : lv_has ls nL ((i, mjV ad v) :: (mjLl ad lo).filter (fun q => !(q.1 == i) && !(q.1 + 1 == i && q.2.category == 2)))) : mjL ad (mjS1 lo i v) ls nL := by
  refine ⟨h.1, h.2.1, fun j w hj => ?_⟩
  unfold mjS1 at hj
  by_cases hji : j = i
  · subst hji
    rw [List.getElem?_set] at hj
    simp only [if_true] at hj
    split at hj
    · cases hj
      exact h.2.2 _ List.mem_cons_self
    · cases hj
  · rw [List.getElem?_set_ne (Ne.symm hji)] at hj
    obtain ⟨h1, h2⟩ := mjCr_spec hj
    refine h.2.2 (j, mjV ad w) (List.mem_cons_of_mem _ (List.mem_filter.mpr ⟨mjLl_mem.mpr ⟨w, h1, rfl⟩, ?_⟩))
    simp only [mjV_cat]
    simp
    exact ⟨hji, by omega⟩
theorem mjL.st2 {ad : Nat → Nat} {lo : mjLo} {ls : Array Slot} {nL i : Nat} {v : Value} (h : lv_has ls nL ((i, mjV ad v) :: (mjLl ad lo).filter (fun q => !(q.1 == i) && (!(q.1 == i + 1) && !(q.1 + 1 == i && q.2.category == 2))))) : mjL ad (mjS2 lo i v) ls nL := by
  refine ⟨h.1, h.2.1, fun j w hj => ?_⟩
  unfold mjS2 at hj
  by_cases hj1 : j = i + 1
  · subst hj1
    rw [List.getElem?_set] at hj
    simp only [if_true] at hj
    split at hj <;> cases hj
  rw [List.getElem?_set_ne (Ne.symm hj1)] at hj
  by_cases hji : j = i
  · subst hji
    rw [List.getElem?_set] at hj
    simp only [if_true] at hj
    split at hj
    · cases hj
      exact h.2.2 _ List.mem_cons_self
    · cases hj
  · rw [List.getElem?_set_ne (Ne.symm hji)] at hj
    obtain ⟨h1, h2⟩ := mjCr_spec hj
    refine h.2.2 (j, mjV ad w) (List.mem_cons_of_mem _ (List.mem_filter.mpr ⟨mjLl_mem.mpr ⟨w, h1, rfl⟩, ?_⟩))
    simp only [mjV_cat]
    simp
    exact ⟨hji, hj1, by omega⟩
/-- values that name cells of the world, or constants' -/
def mjWv (n : Nat) (v : Value) : Bool := match v with
  | .ref h => decide (h < n) || decide (1000000 ≤ h)
  | _ => true
def mjWl (n : Nat) (lo : mjLo) : Bool := lo.all (fun x => match x with
  | some v => mjWv n v
  | none => true)
def mjWs (n : Nat) (st : List Value) : Bool := st.all (mjWv n)
def mjWe (n : Nat) (x : va_E) : Bool := match x with
  | .inl _ => true
  | .inr r => r.2.all (mjWv n)
def mjWh (n : Nat) (hp : mjH) : Bool := hp.all (mjWe n)
def mjAg (n : Nat) (ad0 ad : Nat → Nat) : Prop := ∀ h : Nat, h < n ∨ 1000000 ≤ h → ad h = ad0 h
theorem mjAg.rf {n : Nat} {ad : Nat → Nat} : mjAg n ad ad := fun _ _ => rfl
theorem mjAg.tr {n k : Nat} {a b c : Nat → Nat} (h1 : mjAg n a b) (h2 : mjAg k b c) (hn : n ≤ k) : mjAg n a c := fun h hh => (h2 h (by omega)).trans (h1 h hh)
theorem mjAg.up {n : Nat} {ad : Nat → Nat} {q : Nat} (hn : n < 1000000) : mjAg n ad (fun h => if h = n then q else ad h) := fun h hh => if_neg (by omega)
theorem mjV_ag {n : Nat} {ad ad' : Nat → Nat} (ha : mjAg n ad ad') {v : Value} (h : mjWv n v = true) : mjV ad' v = mjV ad v := by
  cases v with
  | ref h0 =>
    simp only [mjWv, Bool.or_eq_true, decide_eq_true_eq] at h
    simp only [mjV, ha h0 h]
  | retAddr x => simp only [mjV, ha 1000010 (Or.inr (by decide))]
  | _ => rfl
theorem mjWs_ag {n : Nat} {ad ad' : Nat → Nat} (ha : mjAg n ad ad') {st : List Value} (h : mjWs n st = true) : st.map (mjV ad') = st.map (mjV ad) :=
  List.map_congr_left (fun v hv => mjV_ag ha (List.all_eq_true.mp h v hv))
theorem mjWl_ag {n : Nat} {ad ad' : Nat → Nat} (ha : mjAg n ad ad') {lo : mjLo} (h : mjWl n lo = true) {ls : Array Slot} {nL : Nat} (hl : mjL ad lo ls nL) : mjL ad' lo ls nL := by
  refine ⟨hl.1, hl.2.1, fun i v hv => ?_⟩
  have h1 := List.all_eq_true.mp h _ (List.mem_of_getElem? hv)
  rw [mjV_ag ha h1]
  exact hl.2.2 i v hv
theorem mjE_ag {n : Nat} {ad ad' : Nat → Nat} {cy : Nat → ClassId} (ha : mjAg n ad ad') {x : va_E} (h : mjWe n x = true) : mjE ad' cy x = mjE ad cy x := by
  cases x with
  | inl a => rfl
  | inr r => simp only [mjE, mjWs_ag ha h]
theorem mjW_push {n q : Nat} {ad : Nat → Nat} {cy : Nat → ClassId} {hp : mjH} {x : va_E} (hn : hp.length = n) (h6 : n < 1000000) (h : mjWh n hp = true) (hx : mjWe n x = true) : mjW (fun h => if h = n then q else ad h) cy (hp ++ [x]) = mjW ad cy hp ++ [(q, mjE ad cy x)] := by
  have ha : mjAg n ad (fun h => if h = n then q else ad h) := mjAg.up h6
  apply List.ext_getElem?
  intro i
  rw [mjW_get]
  by_cases hi : i < n
  · rw [List.getElem?_append_left (by omega), List.getElem?_append_left (by rw [mjW_len]; omega), mjW_get]
    have hne : (if i = n then q else ad i) = ad i := if_neg (by omega)
    cases hx2 : hp[i]? with
    | none => rfl
    | some y =>
      simp only [Option.map_some, hne]
      rw [mjE_ag ha (List.all_eq_true.mp h y (List.mem_of_getElem? hx2))]
  · rw [List.getElem?_append_right (by omega), List.getElem?_append_right (by rw [mjW_len]; omega), mjW_len, hn]
    by_cases hz : i = n
    · subst hz
      simp only [Nat.sub_self, List.getElem?_cons_zero, Option.map_some, if_true]
      rw [mjE_ag ha hx]
    · obtain ⟨z, hz⟩ : ∃ z, i - n = z + 1 := ⟨i - n - 1, by omega⟩
      rw [hz]
      simp
/-- a method's place: the machine, its code, the tables' words -/
def mjAt (p : Program) (s : State) (m : MethodId) (args : Array Value) (meth : Method) (c : Code) (I : mjI) : Prop :=
  p.tables.exec = Jvm.exec ∧ c.code = I.2.2.1 ∧ c.maxLocals = I.2.2.2.1 ∧ meth.sig.returnType = I.2.2.2.2.1 ∧ meth.locks = false ∧ s.vm.findClass (mjCn I.2.1) = some m.cls ∧ (I.1.name = "<init>" → meth.name = "<init>") ∧ ∀ w ∈ mjT, w.before args s = true
def mjRm (d C S : Nat) : Room := { frames := d, cells := C, slots := S, locals := 40 * d }
def mjRo (R : Room) (d C S : Nat) : Prop := d ≤ R.frames ∧ 40 * d ≤ R.locals ∧ C ≤ R.cells ∧ S ≤ R.slots
def mjSt (D : va_G) (cy : Nat → ClassId) (A : Nat → Prop) (s : State) (ad : Nat → Nat) (hp : mjH) (H : Heap) (locs : List Loc) : Prop := va_P D vwCl (mjW ad cy hp) H ∧ va_D A (mjW ad cy hp) ∧ va_S A s.heap H locs
def mjQ (D : va_G) (cy : Nat → ClassId) (ad0 : Nat → Nat) (N0 C : Nat) (A : Nat → Prop) (Post : Option Value → mjH → Prop) : Array Value → State → Outcome → State → Prop := fun _ st oc t =>
  (∃ (r : Option Value) (hp' : mjH) (ad' : Nat → Nat), Post r hp' ∧ N0 ≤ hp'.length ∧ mjAg N0 ad0 ad' ∧ (C = 0 → ad' = ad0) ∧ oc = .returned (r.map (mjV ad')) ∧ va_P D vwCl (mjW ad' cy hp') t.heap ∧ va_D A (mjW ad' cy hp')) ∧ va_F A st t
/-- what the constants are -/
def mjCst (ad : Nat → Nat) (A : Nat → Prop) (s : State) : Prop :=
  vk_S 2 mjKl mjKb (fun i => ad (1000000 + 2 * i)) (fun i => ad (1000001 + 2 * i)) A s s.heap ∧ (∀ cn idx i : Nat, mjSr cn idx = some i → i < 2 ∧ vk_R (mjCn cn) idx (mjKt i) (ad (1000000 + 2 * i)) s) ∧ va_Z "java/lang/String" "COMPACT_STRINGS" "Z" (.int 1) A s s.heap ∧ va_Z "jdk/internal/util/Preconditions" "SIOOBE_FORMATTER" "Ljava/util/function/BiFunction;" (mjV ad (.retAddr 0)) A s s.heap
theorem mjCst.step {ad ad' : Nat → Nat} {A B : Nat → Prop} {s U : State} {H : Heap} {locs : List Loc} (h : mjCst ad A s) (ha : ∀ q : Nat, 1000000 ≤ q → ad' q = ad q) (hS : va_S A s.heap H locs) (hU : U.heap = H) (hW : s.WarmedH U.vm) (hB : ∀ q, B q → A q) : mjCst ad' B U := by
  obtain ⟨h1, h2, h3, h4⟩ := h
  have e1 : (fun i => ad' (1000000 + 2 * i)) = (fun i => ad (1000000 + 2 * i)) := funext fun i => ha _ (by omega)
  have e2 : (fun i => ad' (1000001 + 2 * i)) = (fun i => ad (1000001 + 2 * i)) := funext fun i => ha _ (by omega)
  have e3 : mjV ad' (.retAddr 0) = mjV ad (.retAddr 0) := by simp only [mjV, ha 1000010 (by decide)]
  unfold mjCst
  rw [e1, e2, e3, hU]
  refine ⟨((h1.kept hS.2.1).moved hW.alike).narrow hB, fun cn idx i hi => ?_, ((h3.kept hS.2.1).moved hW.alike).narrow hB, ((h4.kept hS.2.1).moved hW.alike).narrow hB⟩
  rw [ha _ (by omega)]
  exact ⟨(h2 cn idx i hi).1, (h2 cn idx i hi).2.warm hW⟩
theorem mjCst.call {ad : Nat → Nat} {B : Nat → Prop} {U : State} {g : JFrame} {mk : MethodId} {a : Array Value} (h : mjCst ad B U) : mjCst ad B (U.calling g mk a) :=
  ⟨vk_S.moved (u := U) (U := U.calling g mk a) (Vm.Alike.refl U.vm) h.1, fun cn idx i hi => ⟨(h.2.1 cn idx i hi).1, vk_R.same (u := U) (U := U.calling g mk a) rfl (h.2.1 cn idx i hi).2⟩, va_Z.moved (u := U) (U := U.calling g mk a) (Vm.Alike.refl U.vm) h.2.2.1, va_Z.moved (u := U) (U := U.calling g mk a) (Vm.Alike.refl U.vm) h.2.2.2⟩
abbrev mjX : Type := State → (Nat → Prop) → (Nat → Nat) → Prop
def mjG (X : mjX) (d C S : Nat) (I : mjI) (Post : Option Value → mjH → Prop) (pc : Nat) (lo : mjLo) (st : List Value) (hp : mjH) (kc ks : Nat) : Prop :=
  ∀ (l : Launch) (D : va_G) (cy : Nat → ClassId) (ad0 : Nat → Nat) (N0 : Nat) (A : Nat → Prop) (p : Program) (e : Env) (s : State) (m : MethodId) (args : Array Value) (below : List Frame) (meth : Method) (c : Code) (R : Room), mjRo R d C S → mjAt p s m args meth c I → va_K D vwCl (mjTy cy) s → (∀ q, s.heap.size ≤ q → A q) → mjCst ad0 A s → X s A ad0 →
    ∀ (ad : Nat → Nat) (H : Heap) (locs : List Loc) (ls : Array Slot), mjAg N0 ad0 ad → (C = 0 → ad = ad0) → N0 ≤ hp.length → mjSt D cy A s ad hp H locs → mjL ad lo ls I.2.2.2.1 →
      W p l e R s m args below meth c H locs kc ks (MQ below (mjQ D cy ad0 N0 C A Post) args s C S A) (F0 m pc ls (st.map (mjV ad)))
section MJ
variable {X : mjX} {d C S : Nat} {I : mjI} {Post : Option Value → mjH → Prop} {pc : Nat} {lo : mjLo} {st : List Value} {hp : mjH} {kc ks : Nat}
theorem mjG.forget {lo' : mjLo} (hl : ∀ (i : Nat) (v : Value), lo'[i]? = some (some v) → lo[i]? = some (some v)) (k : mjG X d C S I Post pc lo' st hp kc ks) : mjG X d C S I Post pc lo st hp kc ks :=
  fun l D cy ad0 N0 A p e s m args below meth c R hR hAt hK hA hC hX ad H locs ls h1 h2 h3 h4 h5 => k l D cy ad0 N0 A p e s m args below meth c R hR hAt hK hA hC hX ad H locs ls h1 h2 h3 h4 ⟨h5.1, h5.2.1, fun i v h => h5.2.2 i v (hl i v h)⟩
theorem mjG.post {Post' : Option Value → mjH → Prop} (hP : ∀ r hp', Post' r hp' → Post r hp') (k : mjG X d C S I Post' pc lo st hp kc ks) : mjG X d C S I Post pc lo st hp kc ks := by
  intro l D cy ad0 N0 A p e s m args below meth c R hR hAt hK hA hC hX ad H locs ls h1 h2 h3 h4 h5 T hT hSt
  obtain ⟨t, a, oc, b1, b2, ⟨⟨r, hp', ad', q1, q2⟩, q3⟩, b4⟩ := k l D cy ad0 N0 A p e s m args below meth c R hR hAt hK hA hC hX ad H locs ls h1 h2 h3 h4 h5 T hT hSt
  exact ⟨t, a, oc, b1, b2, ⟨⟨r, hp', ad', hP _ _ q1, q2⟩, q3⟩, b4⟩
theorem mjr_iconst {n : Int} (hd : decode I.2.2.1 pc = .ok (.iconst n, 1))  (k : mjG X d C S I Post (pc + 1) lo (.int (Int32.ofInt n) :: st) hp kc ks) : mjG X d C S I Post (pc) lo (st) hp kc ks :=
  fun l D cy ad0 N0 A p e s m args below meth c R hR hAt hK hA hC hX ad H locs ls h1 h2 h3 h4 h5 => lv_iconst hAt.1 hAt.2.1 hd rfl (k l D cy ad0 N0 A p e s m args below meth c R hR hAt hK hA hC hX ad H locs ls h1 h2 h3 h4 h5)
theorem mjr_bipush {n : Int} (hd : decode I.2.2.1 pc = .ok (.bipush n, 2))  (k : mjG X d C S I Post (pc + 2) lo (.int (Int8.ofInt n).toInt32 :: st) hp kc ks) : mjG X d C S I Post (pc) lo (st) hp kc ks :=
  fun l D cy ad0 N0 A p e s m args below meth c R hR hAt hK hA hC hX ad H locs ls h1 h2 h3 h4 h5 => lv_bipush hAt.1 hAt.2.1 hd rfl (k l D cy ad0 N0 A p e s m args below meth c R hR hAt hK hA hC hX ad H locs ls h1 h2 h3 h4 h5)
theorem mjr_sipush {n : Int} (hd : decode I.2.2.1 pc = .ok (.sipush n, 3))  (k : mjG X d C S I Post (pc + 3) lo (.int (Int16.ofInt n).toInt32 :: st) hp kc ks) : mjG X d C S I Post (pc) lo (st) hp kc ks :=
  fun l D cy ad0 N0 A p e s m args below meth c R hR hAt hK hA hC hX ad H locs ls h1 h2 h3 h4 h5 => lv_sipush hAt.1 hAt.2.1 hd rfl (k l D cy ad0 N0 A p e s m args below meth c R hR hAt hK hA hC hX ad H locs ls h1 h2 h3 h4 h5)
theorem mjr_lconst {n : Fin 2} (hd : decode I.2.2.1 pc = .ok (.lconst n, 1))  (k : mjG X d C S I Post (pc + 1) lo (.long (Int64.ofNat (n : Nat)) :: st) hp kc ks) : mjG X d C S I Post (pc) lo (st) hp kc ks :=
  fun l D cy ad0 N0 A p e s m args below meth c R hR hAt hK hA hC hX ad H locs ls h1 h2 h3 h4 h5 => lv_lconst hAt.1 hAt.2.1 hd rfl (k l D cy ad0 N0 A p e s m args below meth c R hR hAt hK hA hC hX ad H locs ls h1 h2 h3 h4 h5)
theorem mjr_ldc {idx : Nat} {v : Int32} (hd : decode I.2.2.1 pc = .ok (.ldc idx, 2)) (hv : mjCIr I.2.1 idx = some v) (k : mjG X d C S I Post (pc + 2) lo (.int v :: st) hp kc ks) : mjG X d C S I Post (pc) lo (st) hp kc ks :=
  fun l D cy ad0 N0 A p e s m args below meth c R hR hAt hK hA hC hX ad H locs ls h1 h2 h3 h4 h5 => lv_ldc hAt.1 hAt.2.1 hAt.2.2.2.2.2.1 (hAt.2.2.2.2.2.2.2 _ (mjCIr_ok hv)) hd (k l D cy ad0 N0 A p e s m args below meth c R hR hAt hK hA hC hX ad H locs ls h1 h2 h3 h4 h5)
theorem mjr_ldc2 {idx : Nat} {v : Int64} (hd : decode I.2.2.1 pc = .ok (.ldc2_w idx, 3)) (hv : mjCLr I.2.1 idx = some v) (k : mjG X d C S I Post (pc + 3) lo (.long v :: st) hp kc ks) : mjG X d C S I Post (pc) lo (st) hp kc ks :=
  fun l D cy ad0 N0 A p e s m args below meth c R hR hAt hK hA hC hX ad H locs ls h1 h2 h3 h4 h5 => lv_ldc2 hAt.1 hAt.2.1 hAt.2.2.2.2.2.1 (hAt.2.2.2.2.2.2.2 _ (mjCLr_ok hv)) hd (k l D cy ad0 N0 A p e s m args below meth c R hR hAt hK hA hC hX ad H locs ls h1 h2 h3 h4 h5)
theorem mjr_iload_n {n : Fin 4} {x : Int32} (hd : decode I.2.2.1 pc = .ok (.iload_n n, 1)) (hv : lo[(n : Nat)]? = some (some (.int x))) (k : mjG X d C S I Post (pc + 1) lo (.int x :: st) hp kc ks) : mjG X d C S I Post (pc) lo (st) hp kc ks :=
  fun l D cy ad0 N0 A p e s m args below meth c R hR hAt hK hA hC hX ad H locs ls h1 h2 h3 h4 h5 => lv_iload_n hAt.1 hAt.2.1 hd rfl (h5.2.2 _ _ hv) (k l D cy ad0 N0 A p e s m args below meth c R hR hAt hK hA hC hX ad H locs ls h1 h2 h3 h4 h5)
theorem mjr_iload {n : Nat} {x : Int32} (hd : decode I.2.2.1 pc = .ok (.iload n, 2)) (hv : lo[n]? = some (some (.int x))) (k : mjG X d C S I Post (pc + 2) lo (.int x :: st) hp kc ks) : mjG X d C S I Post (pc) lo (st) hp kc ks :=
  fun l D cy ad0 N0 A p e s m args below meth c R hR hAt hK hA hC hX ad H locs ls h1 h2 h3 h4 h5 => lv_iload hAt.1 hAt.2.1 hd (h5.2.2 _ _ hv) (k l D cy ad0 N0 A p e s m args below meth c R hR hAt hK hA hC hX ad H locs ls h1 h2 h3 h4 h5)
theorem mjr_istore_n {n : Fin 4} {x : Int32} (hd : decode I.2.2.1 pc = .ok (.istore_n n, 1)) (hn : (n : Nat) < I.2.2.2.1) (k : mjG X d C S I Post (pc + 1) (mjS1 lo n (.int x)) (st) hp kc ks) : mjG X d C S I Post (pc) lo (.int x :: st) hp kc ks :=
  fun l D cy ad0 N0 A p e s m args below meth c R hR hAt hK hA hC hX ad H locs ls h1 h2 h3 h4 h5 => lv_istore_n hAt.1 hAt.2.1 hd rfl h5.has hn rfl (fun ls' hl' => k l D cy ad0 N0 A p e s m args below meth c R hR hAt hK hA hC hX ad H locs ls' h1 h2 h3 h4 (mjL.st1 (v := .int x) hl'))
theorem mjr_istore {n : Nat} {x : Int32} (hd : decode I.2.2.1 pc = .ok (.istore n, 2)) (hn : (n : Nat) < I.2.2.2.1) (k : mjG X d C S I Post (pc + 2) (mjS1 lo n (.int x)) (st) hp kc ks) : mjG X d C S I Post (pc) lo (.int x :: st) hp kc ks :=
  fun l D cy ad0 N0 A p e s m args below meth c R hR hAt hK hA hC hX ad H locs ls h1 h2 h3 h4 h5 => lv_istore hAt.1 hAt.2.1 hd h5.has hn rfl (fun ls' hl' => k l D cy ad0 N0 A p e s m args below meth c R hR hAt hK hA hC hX ad H locs ls' h1 h2 h3 h4 (mjL.st1 (v := .int x) hl'))
theorem mjr_lload_n {n : Fin 4} {x : Int64} (hd : decode I.2.2.1 pc = .ok (.lload_n n, 1)) (hv : lo[(n : Nat)]? = some (some (.long x))) (k : mjG X d C S I Post (pc + 1) lo (.long x :: st) hp kc ks) : mjG X d C S I Post (pc) lo (st) hp kc ks :=
  fun l D cy ad0 N0 A p e s m args below meth c R hR hAt hK hA hC hX ad H locs ls h1 h2 h3 h4 h5 => lv_lload_n hAt.1 hAt.2.1 hd rfl (h5.2.2 _ _ hv) (k l D cy ad0 N0 A p e s m args below meth c R hR hAt hK hA hC hX ad H locs ls h1 h2 h3 h4 h5)
theorem mjr_lload {n : Nat} {x : Int64} (hd : decode I.2.2.1 pc = .ok (.lload n, 2)) (hv : lo[n]? = some (some (.long x))) (k : mjG X d C S I Post (pc + 2) lo (.long x :: st) hp kc ks) : mjG X d C S I Post (pc) lo (st) hp kc ks :=
  fun l D cy ad0 N0 A p e s m args below meth c R hR hAt hK hA hC hX ad H locs ls h1 h2 h3 h4 h5 => lv_lload hAt.1 hAt.2.1 hd (h5.2.2 _ _ hv) (k l D cy ad0 N0 A p e s m args below meth c R hR hAt hK hA hC hX ad H locs ls h1 h2 h3 h4 h5)
theorem mjr_lstore_n {n : Fin 4} {x : Int64} (hd : decode I.2.2.1 pc = .ok (.lstore_n n, 1)) (hn : (n : Nat) + 1 < I.2.2.2.1) (k : mjG X d C S I Post (pc + 1) (mjS2 lo n (.long x)) (st) hp kc ks) : mjG X d C S I Post (pc) lo (.long x :: st) hp kc ks :=
  fun l D cy ad0 N0 A p e s m args below meth c R hR hAt hK hA hC hX ad H locs ls h1 h2 h3 h4 h5 => lv_lstore_n hAt.1 hAt.2.1 hd rfl h5.has hn rfl (fun ls' hl' => k l D cy ad0 N0 A p e s m args below meth c R hR hAt hK hA hC hX ad H locs ls' h1 h2 h3 h4 (mjL.st2 (v := .long x) hl'))
theorem mjr_lstore {n : Nat} {x : Int64} (hd : decode I.2.2.1 pc = .ok (.lstore n, 2)) (hn : (n : Nat) + 1 < I.2.2.2.1) (k : mjG X d C S I Post (pc + 2) (mjS2 lo n (.long x)) (st) hp kc ks) : mjG X d C S I Post (pc) lo (.long x :: st) hp kc ks :=
  fun l D cy ad0 N0 A p e s m args below meth c R hR hAt hK hA hC hX ad H locs ls h1 h2 h3 h4 h5 => lv_lstore hAt.1 hAt.2.1 hd h5.has hn rfl (fun ls' hl' => k l D cy ad0 N0 A p e s m args below meth c R hR hAt hK hA hC hX ad H locs ls' h1 h2 h3 h4 (mjL.st2 (v := .long x) hl'))
theorem mjr_aload_n {n : Fin 4} {x : Nat} (hd : decode I.2.2.1 pc = .ok (.aload_n n, 1)) (hv : lo[(n : Nat)]? = some (some (.ref x))) (k : mjG X d C S I Post (pc + 1) lo (.ref x :: st) hp kc ks) : mjG X d C S I Post (pc) lo (st) hp kc ks :=
  fun l D cy ad0 N0 A p e s m args below meth c R hR hAt hK hA hC hX ad H locs ls h1 h2 h3 h4 h5 => lv_aload_n hAt.1 hAt.2.1 hd rfl (h5.2.2 _ _ hv) (k l D cy ad0 N0 A p e s m args below meth c R hR hAt hK hA hC hX ad H locs ls h1 h2 h3 h4 h5)
theorem mjr_aload {n : Nat} {x : Nat} (hd : decode I.2.2.1 pc = .ok (.aload n, 2)) (hv : lo[n]? = some (some (.ref x))) (k : mjG X d C S I Post (pc + 2) lo (.ref x :: st) hp kc ks) : mjG X d C S I Post (pc) lo (st) hp kc ks :=
  fun l D cy ad0 N0 A p e s m args below meth c R hR hAt hK hA hC hX ad H locs ls h1 h2 h3 h4 h5 => lv_aload hAt.1 hAt.2.1 hd (h5.2.2 _ _ hv) (k l D cy ad0 N0 A p e s m args below meth c R hR hAt hK hA hC hX ad H locs ls h1 h2 h3 h4 h5)
theorem mjr_astore_n {n : Fin 4} {x : Nat} (hd : decode I.2.2.1 pc = .ok (.astore_n n, 1)) (hn : (n : Nat) < I.2.2.2.1) (k : mjG X d C S I Post (pc + 1) (mjS1 lo n (.ref x)) (st) hp kc ks) : mjG X d C S I Post (pc) lo (.ref x :: st) hp kc ks :=
  fun l D cy ad0 N0 A p e s m args below meth c R hR hAt hK hA hC hX ad H locs ls h1 h2 h3 h4 h5 => lv_astore_n hAt.1 hAt.2.1 hd rfl h5.has hn rfl (fun ls' hl' => k l D cy ad0 N0 A p e s m args below meth c R hR hAt hK hA hC hX ad H locs ls' h1 h2 h3 h4 (mjL.st1 (v := .ref x) hl'))
theorem mjr_astore {n : Nat} {x : Nat} (hd : decode I.2.2.1 pc = .ok (.astore n, 2)) (hn : (n : Nat) < I.2.2.2.1) (k : mjG X d C S I Post (pc + 2) (mjS1 lo n (.ref x)) (st) hp kc ks) : mjG X d C S I Post (pc) lo (.ref x :: st) hp kc ks :=
  fun l D cy ad0 N0 A p e s m args below meth c R hR hAt hK hA hC hX ad H locs ls h1 h2 h3 h4 h5 => lv_astore hAt.1 hAt.2.1 hd h5.has hn rfl (fun ls' hl' => k l D cy ad0 N0 A p e s m args below meth c R hR hAt hK hA hC hX ad H locs ls' h1 h2 h3 h4 (mjL.st1 (v := .ref x) hl'))
theorem mjr_iinc {i : Nat} {n : Int} {x : Int32} (hd : decode I.2.2.1 pc = .ok (.iinc i n, 3)) (hv : lo[i]? = some (some (.int x))) (hn : i < I.2.2.2.1) (k : mjG X d C S I Post (pc + 3) (mjS1 lo i (.int (x + Int32.ofInt n))) st hp kc ks) : mjG X d C S I Post pc lo st hp kc ks := by
  intro l D cy ad0 N0 A p e s m args below meth c R hR hAt hK hA hC hX ad H locs ls h1 h2 h3 h4 h5
  obtain ⟨j, hj⟩ := List.getElem?_of_mem (mjLl_mem.mpr ⟨.int x, hv, rfl⟩ : (i, mjV ad (.int x)) ∈ mjLl ad lo)
  exact lv_iinc hAt.1 hAt.2.1 hd h5.has hj rfl hn rfl (fun ls' hl' => k l D cy ad0 N0 A p e s m args below meth c R hR hAt hK hA hC hX ad H locs ls' h1 h2 h3 h4 (mjL.st1 (v := .int (x + Int32.ofInt n)) hl'))
theorem mjr_iadd {x y : Int32} (hd : decode I.2.2.1 pc = .ok (.iadd, 1))  (k : mjG X d C S I Post (pc + 1) lo (.int (x + y) :: st) hp kc ks) : mjG X d C S I Post (pc) lo (.int y :: .int x :: st) hp kc ks :=
  fun l D cy ad0 N0 A p e s m args below meth c R hR hAt hK hA hC hX ad H locs ls h1 h2 h3 h4 h5 => lv_iadd hAt.1 hAt.2.1 hd (k l D cy ad0 N0 A p e s m args below meth c R hR hAt hK hA hC hX ad H locs ls h1 h2 h3 h4 h5)
theorem mjr_isub {x y : Int32} (hd : decode I.2.2.1 pc = .ok (.isub, 1))  (k : mjG X d C S I Post (pc + 1) lo (.int (x - y) :: st) hp kc ks) : mjG X d C S I Post (pc) lo (.int y :: .int x :: st) hp kc ks :=
  fun l D cy ad0 N0 A p e s m args below meth c R hR hAt hK hA hC hX ad H locs ls h1 h2 h3 h4 h5 => lv_isub hAt.1 hAt.2.1 hd (k l D cy ad0 N0 A p e s m args below meth c R hR hAt hK hA hC hX ad H locs ls h1 h2 h3 h4 h5)
theorem mjr_imul {x y : Int32} (hd : decode I.2.2.1 pc = .ok (.imul, 1))  (k : mjG X d C S I Post (pc + 1) lo (.int (x * y) :: st) hp kc ks) : mjG X d C S I Post (pc) lo (.int y :: .int x :: st) hp kc ks :=
  fun l D cy ad0 N0 A p e s m args below meth c R hR hAt hK hA hC hX ad H locs ls h1 h2 h3 h4 h5 => lv_imul hAt.1 hAt.2.1 hd (k l D cy ad0 N0 A p e s m args below meth c R hR hAt hK hA hC hX ad H locs ls h1 h2 h3 h4 h5)
theorem mjr_iand {x y : Int32} (hd : decode I.2.2.1 pc = .ok (.iand, 1))  (k : mjG X d C S I Post (pc + 1) lo (.int (x &&& y) :: st) hp kc ks) : mjG X d C S I Post (pc) lo (.int y :: .int x :: st) hp kc ks :=
  fun l D cy ad0 N0 A p e s m args below meth c R hR hAt hK hA hC hX ad H locs ls h1 h2 h3 h4 h5 => lv_iand hAt.1 hAt.2.1 hd (k l D cy ad0 N0 A p e s m args below meth c R hR hAt hK hA hC hX ad H locs ls h1 h2 h3 h4 h5)
theorem mjr_ior {x y : Int32} (hd : decode I.2.2.1 pc = .ok (.ior, 1))  (k : mjG X d C S I Post (pc + 1) lo (.int (x ||| y) :: st) hp kc ks) : mjG X d C S I Post (pc) lo (.int y :: .int x :: st) hp kc ks :=
  fun l D cy ad0 N0 A p e s m args below meth c R hR hAt hK hA hC hX ad H locs ls h1 h2 h3 h4 h5 => lv_ior hAt.1 hAt.2.1 hd (k l D cy ad0 N0 A p e s m args below meth c R hR hAt hK hA hC hX ad H locs ls h1 h2 h3 h4 h5)
theorem mjr_ishl {x y : Int32} (hd : decode I.2.2.1 pc = .ok (.ishl, 1))  (k : mjG X d C S I Post (pc + 1) lo (.int (x <<< (y &&& 31)) :: st) hp kc ks) : mjG X d C S I Post (pc) lo (.int y :: .int x :: st) hp kc ks :=
  fun l D cy ad0 N0 A p e s m args below meth c R hR hAt hK hA hC hX ad H locs ls h1 h2 h3 h4 h5 => lv_ishl hAt.1 hAt.2.1 hd (k l D cy ad0 N0 A p e s m args below meth c R hR hAt hK hA hC hX ad H locs ls h1 h2 h3 h4 h5)
theorem mjr_ishr {x y : Int32} (hd : decode I.2.2.1 pc = .ok (.ishr, 1))  (k : mjG X d C S I Post (pc + 1) lo (.int (x >>> (y &&& 31)) :: st) hp kc ks) : mjG X d C S I Post (pc) lo (.int y :: .int x :: st) hp kc ks :=
  fun l D cy ad0 N0 A p e s m args below meth c R hR hAt hK hA hC hX ad H locs ls h1 h2 h3 h4 h5 => lv_ishr hAt.1 hAt.2.1 hd (k l D cy ad0 N0 A p e s m args below meth c R hR hAt hK hA hC hX ad H locs ls h1 h2 h3 h4 h5)
theorem mjr_idiv {x y : Int32} (hd : decode I.2.2.1 pc = .ok (.idiv, 1)) (hne : ¬ y = 0) (k : mjG X d C S I Post (pc + 1) lo (.int (x / y) :: st) hp kc ks) : mjG X d C S I Post (pc) lo (.int y :: .int x :: st) hp kc ks :=
  fun l D cy ad0 N0 A p e s m args below meth c R hR hAt hK hA hC hX ad H locs ls h1 h2 h3 h4 h5 => lv_idiv hAt.1 hAt.2.1 hd hne (k l D cy ad0 N0 A p e s m args below meth c R hR hAt hK hA hC hX ad H locs ls h1 h2 h3 h4 h5)
theorem mjr_irem {x y : Int32} (hd : decode I.2.2.1 pc = .ok (.irem, 1)) (hne : ¬ y = 0) (k : mjG X d C S I Post (pc + 1) lo (.int (x - x / y * y) :: st) hp kc ks) : mjG X d C S I Post (pc) lo (.int y :: .int x :: st) hp kc ks :=
  fun l D cy ad0 N0 A p e s m args below meth c R hR hAt hK hA hC hX ad H locs ls h1 h2 h3 h4 h5 => lv_irem hAt.1 hAt.2.1 hd hne (k l D cy ad0 N0 A p e s m args below meth c R hR hAt hK hA hC hX ad H locs ls h1 h2 h3 h4 h5)
theorem mjr_ineg {x : Int32} (hd : decode I.2.2.1 pc = .ok (.ineg, 1))  (k : mjG X d C S I Post (pc + 1) lo (.int (-x) :: st) hp kc ks) : mjG X d C S I Post (pc) lo (.int x :: st) hp kc ks :=
  fun l D cy ad0 N0 A p e s m args below meth c R hR hAt hK hA hC hX ad H locs ls h1 h2 h3 h4 h5 => lv_ineg hAt.1 hAt.2.1 hd (k l D cy ad0 N0 A p e s m args below meth c R hR hAt hK hA hC hX ad H locs ls h1 h2 h3 h4 h5)
theorem mjr_ladd {x y : Int64} (hd : decode I.2.2.1 pc = .ok (.ladd, 1))  (k : mjG X d C S I Post (pc + 1) lo (.long (x + y) :: st) hp kc ks) : mjG X d C S I Post (pc) lo (.long y :: .long x :: st) hp kc ks :=
  fun l D cy ad0 N0 A p e s m args below meth c R hR hAt hK hA hC hX ad H locs ls h1 h2 h3 h4 h5 => lv_ladd hAt.1 hAt.2.1 hd (k l D cy ad0 N0 A p e s m args below meth c R hR hAt hK hA hC hX ad H locs ls h1 h2 h3 h4 h5)
theorem mjr_lmul {x y : Int64} (hd : decode I.2.2.1 pc = .ok (.lmul, 1))  (k : mjG X d C S I Post (pc + 1) lo (.long (x * y) :: st) hp kc ks) : mjG X d C S I Post (pc) lo (.long y :: .long x :: st) hp kc ks :=
  fun l D cy ad0 N0 A p e s m args below meth c R hR hAt hK hA hC hX ad H locs ls h1 h2 h3 h4 h5 => lv_lmul hAt.1 hAt.2.1 hd (k l D cy ad0 N0 A p e s m args below meth c R hR hAt hK hA hC hX ad H locs ls h1 h2 h3 h4 h5)
theorem mjr_land {x y : Int64} (hd : decode I.2.2.1 pc = .ok (.land, 1))  (k : mjG X d C S I Post (pc + 1) lo (.long (x &&& y) :: st) hp kc ks) : mjG X d C S I Post (pc) lo (.long y :: .long x :: st) hp kc ks :=
  fun l D cy ad0 N0 A p e s m args below meth c R hR hAt hK hA hC hX ad H locs ls h1 h2 h3 h4 h5 => lv_land hAt.1 hAt.2.1 hd (k l D cy ad0 N0 A p e s m args below meth c R hR hAt hK hA hC hX ad H locs ls h1 h2 h3 h4 h5)
theorem mjr_lor {x y : Int64} (hd : decode I.2.2.1 pc = .ok (.lor, 1))  (k : mjG X d C S I Post (pc + 1) lo (.long (x ||| y) :: st) hp kc ks) : mjG X d C S I Post (pc) lo (.long y :: .long x :: st) hp kc ks :=
  fun l D cy ad0 N0 A p e s m args below meth c R hR hAt hK hA hC hX ad H locs ls h1 h2 h3 h4 h5 => lv_lor hAt.1 hAt.2.1 hd (k l D cy ad0 N0 A p e s m args below meth c R hR hAt hK hA hC hX ad H locs ls h1 h2 h3 h4 h5)
theorem mjr_lcmp {x y : Int64} (hd : decode I.2.2.1 pc = .ok (.lcmp, 1))  (k : mjG X d C S I Post (pc + 1) lo (.int (lg_cmp x y) :: st) hp kc ks) : mjG X d C S I Post (pc) lo (.long y :: .long x :: st) hp kc ks :=
  fun l D cy ad0 N0 A p e s m args below meth c R hR hAt hK hA hC hX ad H locs ls h1 h2 h3 h4 h5 => W.lcmp hAt.1 hAt.2.1 hd (k l D cy ad0 N0 A p e s m args below meth c R hR hAt hK hA hC hX ad H locs ls h1 h2 h3 h4 h5)
theorem mjr_lshl {x : Int64} {y : Int32} (hd : decode I.2.2.1 pc = .ok (.lshl, 1))  (k : mjG X d C S I Post (pc + 1) lo (.long (x <<< (y.toInt64 &&& 63)) :: st) hp kc ks) : mjG X d C S I Post (pc) lo (.int y :: .long x :: st) hp kc ks :=
  fun l D cy ad0 N0 A p e s m args below meth c R hR hAt hK hA hC hX ad H locs ls h1 h2 h3 h4 h5 => lv_lshl hAt.1 hAt.2.1 hd rfl (k l D cy ad0 N0 A p e s m args below meth c R hR hAt hK hA hC hX ad H locs ls h1 h2 h3 h4 h5)
theorem mjr_lshr {x : Int64} {y : Int32} (hd : decode I.2.2.1 pc = .ok (.lshr, 1))  (k : mjG X d C S I Post (pc + 1) lo (.long (x >>> (y.toInt64 &&& 63)) :: st) hp kc ks) : mjG X d C S I Post (pc) lo (.int y :: .long x :: st) hp kc ks :=
  fun l D cy ad0 N0 A p e s m args below meth c R hR hAt hK hA hC hX ad H locs ls h1 h2 h3 h4 h5 => lv_lshr hAt.1 hAt.2.1 hd rfl (k l D cy ad0 N0 A p e s m args below meth c R hR hAt hK hA hC hX ad H locs ls h1 h2 h3 h4 h5)
theorem mjr_i2l {x : Int32} (hd : decode I.2.2.1 pc = .ok (.i2l, 1))  (k : mjG X d C S I Post (pc + 1) lo (.long x.toInt64 :: st) hp kc ks) : mjG X d C S I Post (pc) lo (.int x :: st) hp kc ks :=
  fun l D cy ad0 N0 A p e s m args below meth c R hR hAt hK hA hC hX ad H locs ls h1 h2 h3 h4 h5 => lv_i2l hAt.1 hAt.2.1 hd rfl (k l D cy ad0 N0 A p e s m args below meth c R hR hAt hK hA hC hX ad H locs ls h1 h2 h3 h4 h5)
theorem mjr_l2i {x : Int64} (hd : decode I.2.2.1 pc = .ok (.l2i, 1))  (k : mjG X d C S I Post (pc + 1) lo (.int x.toInt32 :: st) hp kc ks) : mjG X d C S I Post (pc) lo (.long x :: st) hp kc ks :=
  fun l D cy ad0 N0 A p e s m args below meth c R hR hAt hK hA hC hX ad H locs ls h1 h2 h3 h4 h5 => lv_l2i hAt.1 hAt.2.1 hd rfl (k l D cy ad0 N0 A p e s m args below meth c R hR hAt hK hA hC hX ad H locs ls h1 h2 h3 h4 h5)
theorem mjr_i2b {x : Int32} (hd : decode I.2.2.1 pc = .ok (.i2b, 1))  (k : mjG X d C S I Post (pc + 1) lo (.int x.toInt8.toInt32 :: st) hp kc ks) : mjG X d C S I Post (pc) lo (.int x :: st) hp kc ks :=
  fun l D cy ad0 N0 A p e s m args below meth c R hR hAt hK hA hC hX ad H locs ls h1 h2 h3 h4 h5 => lv_i2b hAt.1 hAt.2.1 hd rfl (k l D cy ad0 N0 A p e s m args below meth c R hR hAt hK hA hC hX ad H locs ls h1 h2 h3 h4 h5)
theorem mjr_i2c {x : Int32} (hd : decode I.2.2.1 pc = .ok (.i2c, 1))  (k : mjG X d C S I Post (pc + 1) lo (.int (x.toUInt32 % 65536).toInt32 :: st) hp kc ks) : mjG X d C S I Post (pc) lo (.int x :: st) hp kc ks :=
  fun l D cy ad0 N0 A p e s m args below meth c R hR hAt hK hA hC hX ad H locs ls h1 h2 h3 h4 h5 => lv_i2c hAt.1 hAt.2.1 hd rfl (k l D cy ad0 N0 A p e s m args below meth c R hR hAt hK hA hC hX ad H locs ls h1 h2 h3 h4 h5)
theorem mjr_dup {v : Value} (hd : decode I.2.2.1 pc = .ok (.dup, 1)) (hv : v.category = 1) (k : mjG X d C S I Post (pc + 1) lo (v :: v :: st) hp kc ks) : mjG X d C S I Post (pc) lo (v :: st) hp kc ks :=
  fun l D cy ad0 N0 A p e s m args below meth c R hR hAt hK hA hC hX ad H locs ls h1 h2 h3 h4 h5 => lv_dup hAt.1 hAt.2.1 hd (by rw [mjV_cat]; exact hv) (k l D cy ad0 N0 A p e s m args below meth c R hR hAt hK hA hC hX ad H locs ls h1 h2 h3 h4 h5)
theorem mjr_pop {v : Value} (hd : decode I.2.2.1 pc = .ok (.pop, 1)) (hv : v.category = 1) (k : mjG X d C S I Post (pc + 1) lo (st) hp kc ks) : mjG X d C S I Post (pc) lo (v :: st) hp kc ks :=
  fun l D cy ad0 N0 A p e s m args below meth c R hR hAt hK hA hC hX ad H locs ls h1 h2 h3 h4 h5 => lv_pop (va := mjV ad v) hAt.1 hAt.2.1 hd (by rw [mjV_cat]; exact hv) (k l D cy ad0 N0 A p e s m args below meth c R hR hAt hK hA hC hX ad H locs ls h1 h2 h3 h4 h5)
theorem mjr_dup2 {v u : Value} (hd : decode I.2.2.1 pc = .ok (.dup2, 1)) (hv : v.category = 1) (hu : u.category = 1) (k : mjG X d C S I Post (pc + 1) lo (v :: u :: v :: u :: st) hp kc ks) : mjG X d C S I Post (pc) lo (v :: u :: st) hp kc ks :=
  fun l D cy ad0 N0 A p e s m args below meth c R hR hAt hK hA hC hX ad H locs ls h1 h2 h3 h4 h5 => lv_dup2_11 hAt.1 hAt.2.1 hd (by rw [mjV_cat]; exact hv) (by rw [mjV_cat]; exact hu) (k l D cy ad0 N0 A p e s m args below meth c R hR hAt hK hA hC hX ad H locs ls h1 h2 h3 h4 h5)
theorem mjr_goto {off : Int} {tgt : Nat} (hd : decode I.2.2.1 pc = .ok (.goto off, 3)) (ht : (pc : Int) + off = (tgt : Int)) (k : mjG X d C S I Post (tgt) lo (st) hp kc ks) : mjG X d C S I Post (pc) lo (st) hp kc ks :=
  fun l D cy ad0 N0 A p e s m args below meth c R hR hAt hK hA hC hX ad H locs ls h1 h2 h3 h4 h5 => lv_goto hAt.1 hAt.2.1 hd ht (k l D cy ad0 N0 A p e s m args below meth c R hR hAt hK hA hC hX ad H locs ls h1 h2 h3 h4 h5)
theorem mjr_if_eq {x : Int32} {off : Int} {tgt : Nat} (hd : decode I.2.2.1 pc = .ok (.ifCond .eq off, 3)) (ht : (pc : Int) + off = (tgt : Int)) (kt : (x = 0) → mjG X d C S I Post (tgt) lo (st) hp kc ks) (kf : ¬ (x = 0) → mjG X d C S I Post (pc + 3) lo (st) hp kc ks) : mjG X d C S I Post (pc) lo (.int x :: st) hp kc ks :=
  fun l D cy ad0 N0 A p e s m args below meth c R hR hAt hK hA hC hX ad H locs ls h1 h2 h3 h4 h5 => lv_if_eq hAt.1 hAt.2.1 hd ht (fun z => kt z l D cy ad0 N0 A p e s m args below meth c R hR hAt hK hA hC hX ad H locs ls h1 h2 h3 h4 h5) (fun z => kf z l D cy ad0 N0 A p e s m args below meth c R hR hAt hK hA hC hX ad H locs ls h1 h2 h3 h4 h5)
theorem mjr_icmp_eq {x y : Int32} {off : Int} {tgt : Nat} (hd : decode I.2.2.1 pc = .ok (.if_icmp .eq off, 3)) (ht : (pc : Int) + off = (tgt : Int)) (kt : (x = y) → mjG X d C S I Post (tgt) lo (st) hp kc ks) (kf : ¬ (x = y) → mjG X d C S I Post (pc + 3) lo (st) hp kc ks) : mjG X d C S I Post (pc) lo (.int y :: .int x :: st) hp kc ks :=
  fun l D cy ad0 N0 A p e s m args below meth c R hR hAt hK hA hC hX ad H locs ls h1 h2 h3 h4 h5 => lv_icmp_eq hAt.1 hAt.2.1 hd ht (fun z => kt z l D cy ad0 N0 A p e s m args below meth c R hR hAt hK hA hC hX ad H locs ls h1 h2 h3 h4 h5) (fun z => kf z l D cy ad0 N0 A p e s m args below meth c R hR hAt hK hA hC hX ad H locs ls h1 h2 h3 h4 h5)
theorem mjr_if_ne {x : Int32} {off : Int} {tgt : Nat} (hd : decode I.2.2.1 pc = .ok (.ifCond .ne off, 3)) (ht : (pc : Int) + off = (tgt : Int)) (kt : (¬ x = 0) → mjG X d C S I Post (tgt) lo (st) hp kc ks) (kf : x = 0 → mjG X d C S I Post (pc + 3) lo (st) hp kc ks) : mjG X d C S I Post (pc) lo (.int x :: st) hp kc ks :=
  fun l D cy ad0 N0 A p e s m args below meth c R hR hAt hK hA hC hX ad H locs ls h1 h2 h3 h4 h5 => lv_if_ne hAt.1 hAt.2.1 hd ht (fun z => kt z l D cy ad0 N0 A p e s m args below meth c R hR hAt hK hA hC hX ad H locs ls h1 h2 h3 h4 h5) (fun z => kf z l D cy ad0 N0 A p e s m args below meth c R hR hAt hK hA hC hX ad H locs ls h1 h2 h3 h4 h5)
theorem mjr_icmp_ne {x y : Int32} {off : Int} {tgt : Nat} (hd : decode I.2.2.1 pc = .ok (.if_icmp .ne off, 3)) (ht : (pc : Int) + off = (tgt : Int)) (kt : (¬ x = y) → mjG X d C S I Post (tgt) lo (st) hp kc ks) (kf : x = y → mjG X d C S I Post (pc + 3) lo (st) hp kc ks) : mjG X d C S I Post (pc) lo (.int y :: .int x :: st) hp kc ks :=
  fun l D cy ad0 N0 A p e s m args below meth c R hR hAt hK hA hC hX ad H locs ls h1 h2 h3 h4 h5 => lv_icmp_ne hAt.1 hAt.2.1 hd ht (fun z => kt z l D cy ad0 N0 A p e s m args below meth c R hR hAt hK hA hC hX ad H locs ls h1 h2 h3 h4 h5) (fun z => kf z l D cy ad0 N0 A p e s m args below meth c R hR hAt hK hA hC hX ad H locs ls h1 h2 h3 h4 h5)
theorem mjr_if_lt {x : Int32} {off : Int} {tgt : Nat} (hd : decode I.2.2.1 pc = .ok (.ifCond .lt off, 3)) (ht : (pc : Int) + off = (tgt : Int)) (kt : (x < 0) → mjG X d C S I Post (tgt) lo (st) hp kc ks) (kf : ¬ (x < 0) → mjG X d C S I Post (pc + 3) lo (st) hp kc ks) : mjG X d C S I Post (pc) lo (.int x :: st) hp kc ks :=
  fun l D cy ad0 N0 A p e s m args below meth c R hR hAt hK hA hC hX ad H locs ls h1 h2 h3 h4 h5 => lv_if_lt hAt.1 hAt.2.1 hd ht (fun z => kt z l D cy ad0 N0 A p e s m args below meth c R hR hAt hK hA hC hX ad H locs ls h1 h2 h3 h4 h5) (fun z => kf z l D cy ad0 N0 A p e s m args below meth c R hR hAt hK hA hC hX ad H locs ls h1 h2 h3 h4 h5)
theorem mjr_icmp_lt {x y : Int32} {off : Int} {tgt : Nat} (hd : decode I.2.2.1 pc = .ok (.if_icmp .lt off, 3)) (ht : (pc : Int) + off = (tgt : Int)) (kt : (x < y) → mjG X d C S I Post (tgt) lo (st) hp kc ks) (kf : ¬ (x < y) → mjG X d C S I Post (pc + 3) lo (st) hp kc ks) : mjG X d C S I Post (pc) lo (.int y :: .int x :: st) hp kc ks :=
  fun l D cy ad0 N0 A p e s m args below meth c R hR hAt hK hA hC hX ad H locs ls h1 h2 h3 h4 h5 => lv_icmp_lt hAt.1 hAt.2.1 hd ht (fun z => kt z l D cy ad0 N0 A p e s m args below meth c R hR hAt hK hA hC hX ad H locs ls h1 h2 h3 h4 h5) (fun z => kf z l D cy ad0 N0 A p e s m args below meth c R hR hAt hK hA hC hX ad H locs ls h1 h2 h3 h4 h5)
theorem mjr_if_ge {x : Int32} {off : Int} {tgt : Nat} (hd : decode I.2.2.1 pc = .ok (.ifCond .ge off, 3)) (ht : (pc : Int) + off = (tgt : Int)) (kt : (0 ≤ x) → mjG X d C S I Post (tgt) lo (st) hp kc ks) (kf : ¬ (0 ≤ x) → mjG X d C S I Post (pc + 3) lo (st) hp kc ks) : mjG X d C S I Post (pc) lo (.int x :: st) hp kc ks :=
  fun l D cy ad0 N0 A p e s m args below meth c R hR hAt hK hA hC hX ad H locs ls h1 h2 h3 h4 h5 => lv_if_ge hAt.1 hAt.2.1 hd ht (fun z => kt z l D cy ad0 N0 A p e s m args below meth c R hR hAt hK hA hC hX ad H locs ls h1 h2 h3 h4 h5) (fun z => kf z l D cy ad0 N0 A p e s m args below meth c R hR hAt hK hA hC hX ad H locs ls h1 h2 h3 h4 h5)
theorem mjr_icmp_ge {x y : Int32} {off : Int} {tgt : Nat} (hd : decode I.2.2.1 pc = .ok (.if_icmp .ge off, 3)) (ht : (pc : Int) + off = (tgt : Int)) (kt : (y ≤ x) → mjG X d C S I Post (tgt) lo (st) hp kc ks) (kf : ¬ (y ≤ x) → mjG X d C S I Post (pc + 3) lo (st) hp kc ks) : mjG X d C S I Post (pc) lo (.int y :: .int x :: st) hp kc ks :=
  fun l D cy ad0 N0 A p e s m args below meth c R hR hAt hK hA hC hX ad H locs ls h1 h2 h3 h4 h5 => lv_icmp_ge hAt.1 hAt.2.1 hd ht (fun z => kt z l D cy ad0 N0 A p e s m args below meth c R hR hAt hK hA hC hX ad H locs ls h1 h2 h3 h4 h5) (fun z => kf z l D cy ad0 N0 A p e s m args below meth c R hR hAt hK hA hC hX ad H locs ls h1 h2 h3 h4 h5)
theorem mjr_if_gt {x : Int32} {off : Int} {tgt : Nat} (hd : decode I.2.2.1 pc = .ok (.ifCond .gt off, 3)) (ht : (pc : Int) + off = (tgt : Int)) (kt : (0 < x) → mjG X d C S I Post (tgt) lo (st) hp kc ks) (kf : ¬ (0 < x) → mjG X d C S I Post (pc + 3) lo (st) hp kc ks) : mjG X d C S I Post (pc) lo (.int x :: st) hp kc ks :=
  fun l D cy ad0 N0 A p e s m args below meth c R hR hAt hK hA hC hX ad H locs ls h1 h2 h3 h4 h5 => lv_if_gt hAt.1 hAt.2.1 hd ht (fun z => kt z l D cy ad0 N0 A p e s m args below meth c R hR hAt hK hA hC hX ad H locs ls h1 h2 h3 h4 h5) (fun z => kf z l D cy ad0 N0 A p e s m args below meth c R hR hAt hK hA hC hX ad H locs ls h1 h2 h3 h4 h5)
theorem mjr_icmp_gt {x y : Int32} {off : Int} {tgt : Nat} (hd : decode I.2.2.1 pc = .ok (.if_icmp .gt off, 3)) (ht : (pc : Int) + off = (tgt : Int)) (kt : (y < x) → mjG X d C S I Post (tgt) lo (st) hp kc ks) (kf : ¬ (y < x) → mjG X d C S I Post (pc + 3) lo (st) hp kc ks) : mjG X d C S I Post (pc) lo (.int y :: .int x :: st) hp kc ks :=
  fun l D cy ad0 N0 A p e s m args below meth c R hR hAt hK hA hC hX ad H locs ls h1 h2 h3 h4 h5 => lv_icmp_gt hAt.1 hAt.2.1 hd ht (fun z => kt z l D cy ad0 N0 A p e s m args below meth c R hR hAt hK hA hC hX ad H locs ls h1 h2 h3 h4 h5) (fun z => kf z l D cy ad0 N0 A p e s m args below meth c R hR hAt hK hA hC hX ad H locs ls h1 h2 h3 h4 h5)
theorem mjr_if_le {x : Int32} {off : Int} {tgt : Nat} (hd : decode I.2.2.1 pc = .ok (.ifCond .le off, 3)) (ht : (pc : Int) + off = (tgt : Int)) (kt : (x ≤ 0) → mjG X d C S I Post (tgt) lo (st) hp kc ks) (kf : ¬ (x ≤ 0) → mjG X d C S I Post (pc + 3) lo (st) hp kc ks) : mjG X d C S I Post (pc) lo (.int x :: st) hp kc ks :=
  fun l D cy ad0 N0 A p e s m args below meth c R hR hAt hK hA hC hX ad H locs ls h1 h2 h3 h4 h5 => lv_if_le hAt.1 hAt.2.1 hd ht (fun z => kt z l D cy ad0 N0 A p e s m args below meth c R hR hAt hK hA hC hX ad H locs ls h1 h2 h3 h4 h5) (fun z => kf z l D cy ad0 N0 A p e s m args below meth c R hR hAt hK hA hC hX ad H locs ls h1 h2 h3 h4 h5)
theorem mjr_icmp_le {x y : Int32} {off : Int} {tgt : Nat} (hd : decode I.2.2.1 pc = .ok (.if_icmp .le off, 3)) (ht : (pc : Int) + off = (tgt : Int)) (kt : (x ≤ y) → mjG X d C S I Post (tgt) lo (st) hp kc ks) (kf : ¬ (x ≤ y) → mjG X d C S I Post (pc + 3) lo (st) hp kc ks) : mjG X d C S I Post (pc) lo (.int y :: .int x :: st) hp kc ks :=
  fun l D cy ad0 N0 A p e s m args below meth c R hR hAt hK hA hC hX ad H locs ls h1 h2 h3 h4 h5 => lv_icmp_le hAt.1 hAt.2.1 hd ht (fun z => kt z l D cy ad0 N0 A p e s m args below meth c R hR hAt hK hA hC hX ad H locs ls h1 h2 h3 h4 h5) (fun z => kf z l D cy ad0 N0 A p e s m args below meth c R hR hAt hK hA hC hX ad H locs ls h1 h2 h3 h4 h5)
theorem mjr_lookup {dflt : Int} {ps : Array (Int × Int)} {len tgt : Nat} {x : Int32} (hd : decode I.2.2.1 pc = .ok (.lookupswitch dflt ps, len)) (hs : (ps.toList.zip (ps.toList.drop 1)).all (fun (a, next) => a.1 < next.1) = true) (ht : (pc : Int) + Op.lookupswitch.offset ps.toList dflt x.toInt = (tgt : Int)) (k : mjG X d C S I Post (tgt) lo (st) hp kc ks) : mjG X d C S I Post (pc) lo (.int x :: st) hp kc ks :=
  fun l D cy ad0 N0 A p e s m args below meth c R hR hAt hK hA hC hX ad H locs ls h1 h2 h3 h4 h5 => lv_lookup hAt.1 hAt.2.1 hd hs rfl ht (k l D cy ad0 N0 A p e s m args below meth c R hR hAt hK hA hC hX ad H locs ls h1 h2 h3 h4 h5)
theorem mjr_tableOut {dflt lw hi : Int} {offs : Array Int} {len tgt : Nat} {x : Int32} (hd : decode I.2.2.1 pc = .ok (.tableswitch dflt lw hi offs, len)) (hx : x.toInt < lw ∨ hi < x.toInt) (ht : (pc : Int) + dflt = (tgt : Int)) (k : mjG X d C S I Post (tgt) lo (st) hp kc ks) : mjG X d C S I Post (pc) lo (.int x :: st) hp kc ks :=
  fun l D cy ad0 N0 A p e s m args below meth c R hR hAt hK hA hC hX ad H locs ls h1 h2 h3 h4 h5 => lv_tableOut hAt.1 hAt.2.1 hd hx ht (k l D cy ad0 N0 A p e s m args below meth c R hR hAt hK hA hC hX ad H locs ls h1 h2 h3 h4 h5)
theorem mjr_tableIn {dflt lw hi off : Int} {offs : Array Int} {len tgt : Nat} {x : Int32} (hd : decode I.2.2.1 pc = .ok (.tableswitch dflt lw hi offs, len)) (g1 : ¬ x.toInt < lw) (g2 : ¬ hi < x.toInt) (ho : offs[(x.toInt - lw).toNat]? = some off) (ht : (pc : Int) + off = (tgt : Int)) (k : mjG X d C S I Post (tgt) lo (st) hp kc ks) : mjG X d C S I Post (pc) lo (.int x :: st) hp kc ks :=
  fun l D cy ad0 N0 A p e s m args below meth c R hR hAt hK hA hC hX ad H locs ls h1 h2 h3 h4 h5 => lv_tableIn hAt.1 hAt.2.1 hd g1 g2 ho ht (k l D cy ad0 N0 A p e s m args below meth c R hR hAt hK hA hC hX ad H locs ls h1 h2 h3 h4 h5)
theorem mjr_getfield {idx ci j h : Nat} {fs : List Value} {v : Value} (hd : decode I.2.2.1 pc = .ok (.getfield idx, 3)) (hf : mjFr I.2.1 idx = some (ci, j)) (hx : hp[h]? = some (.inr (ci, fs))) (hv : fs[j]? = some v) (k : mjG X d C S I Post (pc + 3) lo (v :: st) hp kc ks) : mjG X d C S I Post pc lo (.ref h :: st) hp kc ks := by
  intro l D cy ad0 N0 A p e s m args below meth c R hR hAt hK hA hC hX ad H locs ls h1 h2 h3 h4 h5
  obtain ⟨hci, hj, hT, hl⟩ := mjFr_ok hf
  exact va_get (C := (mjCl ci).1) (T := (mjCl ci).2.1) (N := (mjCl ci).2.2) (ref := (mjCl ci).1) (fs := fs.map (mjV ad)) (v := mjV ad v) hAt.1 hAt.2.1 hAt.2.2.2.2.2.2.2 (mj_lay hci) hAt.2.2.2.2.2.1 hK h4.1 h (mjW_at hx) (mjCl_get hci) j hj (hAt.2.2.2.2.2.2.2 _ hl) (fun x hx => hT ▸ hx) (by rw [List.getElem?_map, hv]; rfl) hd (k l D cy ad0 N0 A p e s m args below meth c R hR hAt hK hA hC hX ad H locs ls h1 h2 h3 h4 h5)
theorem mj_narrow {ty : FieldType} {v : Value} (ad : Nat → Nat) (h : narrow ty v = v) (hf : fits ty v = true) : narrow ty (mjV ad v) = mjV ad v := by
  cases v with
  | ref a => cases ty <;> rfl
  | retAddr x => cases ty <;> cases hf
  | _ => exact h
theorem mj_fits {ty : FieldType} {v : Value} (ad : Nat → Nat) (h : fits ty v = true) : fits ty (mjV ad v) = true := by
  cases v with
  | ref a => cases ty <;> exact h
  | retAddr x => cases ty <;> cases h
  | _ => exact h
theorem mjr_putfield {idx ci j h : Nat} {fs : List Value} {v : Value} (hd : decode I.2.2.1 pc = .ok (.putfield idx, 3)) (hf : mjFr I.2.1 idx = some (ci, j)) (hx : hp[h]? = some (.inr (ci, fs))) (hj2 : j < fs.length) (hfi : ((mjCl ci).2.1 j).2.2.2 = false ∨ (I.1.name = "<init>" ∧ (mjCl ci).1 = mjCn I.2.1)) (hn : narrow (mjTyv ci j) v = v) (ht : fits (mjTyv ci j) v = true) (k : mjG X d C S I Post (pc + 3) lo st (hp.set h (.inr (ci, fs.set j v))) kc ks) : mjG X d C S I Post pc lo (v :: .ref h :: st) hp kc ks := by
  intro l D cy ad0 N0 A p e s m args below meth c R hR hAt hK hA hC hX ad H locs ls h1 h2 h3 h4 h5
  obtain ⟨hci, hj, hT, hl⟩ := mjFr_ok hf
  have kk : ∀ (H1 : Heap) (locs1 : List Loc), va_P D vwCl ((mjW ad cy hp).set h (ad h, .inr (ci, (fs.map (mjV ad)).set j (mjV ad v)))) H1 → va_D A ((mjW ad cy hp).set h (ad h, .inr (ci, (fs.map (mjV ad)).set j (mjV ad v)))) → va_S A s.heap H1 locs1 → W p l e R s m args below meth c H1 locs1 kc ks (MQ below (mjQ D cy ad0 N0 C A Post) args s C S A) (F0 m (pc + 3) ls (st.map (mjV ad))) := by
    intro H1 locs1 g1 g2 g3
    have e1 : (mjW ad cy hp).set h (ad h, .inr (ci, (fs.map (mjV ad)).set j (mjV ad v))) = mjW ad cy (hp.set h (.inr (ci, fs.set j v))) := by
      rw [mjW_set]
      simp only [mjE, List.map_set]
    rw [e1] at g1 g2
    exact k l D cy ad0 N0 A p e s m args below meth c R hR hAt hK hA hC hX ad H1 locs1 ls h1 h2 (by rw [List.length_set]; exact h3) ⟨g1, g2, g3⟩ h5
  by_cases hb : ((mjCl ci).2.1 j).2.2.2 = false
  · exact va_put (C := (mjCl ci).1) (T := (mjCl ci).2.1) (N := (mjCl ci).2.2) (ref := (mjCl ci).1) (fs := fs.map (mjV ad)) hAt.1 hAt.2.1 hAt.2.2.2.2.2.2.2 (mj_lay hci) (mjTyv ci) (mj_ty hci) (mj_nm hci) hAt.2.2.2.2.2.1 hK h4.1 h4.2.1 h4.2.2 h (mjW_at hx) (mjCl_get hci) j hj (hAt.2.2.2.2.2.2.2 _ hl) (fun x hx => hT ▸ hx) hb (mj_ty hci j hj) (mj_narrow ad hn ht) (mj_fits ad ht) (by rw [List.length_map]; exact hj2) hd kk
  · have hfi := hfi.resolve_left hb
    exact va_putF (C := (mjCl ci).1) (T := (mjCl ci).2.1) (N := (mjCl ci).2.2) (ref := (mjCl ci).1) (fs := fs.map (mjV ad)) hAt.1 hAt.2.1 hAt.2.2.2.2.2.2.2 (mj_lay hci) (mjTyv ci) (mj_ty hci) (mj_nm hci) hAt.2.2.2.2.2.1 hK h4.1 h4.2.1 h4.2.2 h (mjW_at hx) (mjCl_get hci) j hj (hAt.2.2.2.2.2.2.2 _ hl) (fun x hx => hT ▸ hx) (by simpa using hb) (hAt.2.2.2.2.2.2.1 hfi.1) (hT.trans hfi.2) (mj_ty hci j hj) (mj_narrow ad hn ht) (mj_fits ad ht) (by rw [List.length_map]; exact hj2) hd kk
theorem mjr_iaload {h n : Nat} {f : Nat → Int32} {i : Int32} (hd : decode I.2.2.1 pc = .ok (.iaload, 1)) (hx : hp[h]? = some (.inl (0, n, .inl f))) (hi : vp_in i n) (k : mjG X d C S I Post (pc + 1) lo (.int (f i.toNatClampNeg) :: st) hp kc ks) : mjG X d C S I Post (pc) lo (.int i :: .ref h :: st) hp kc ks :=
  fun l D cy ad0 N0 A p e s m args below meth c R hR hAt hK hA hC hX ad H locs ls h1 h2 h3 h4 h5 => va_iald hAt.1 hAt.2.1 hK h4.1 h 0 (mjW_at hx) rfl hi hd (k l D cy ad0 N0 A p e s m args below meth c R hR hAt hK hA hC hX ad H locs ls h1 h2 h3 h4 h5)
theorem mjr_baload_b {h n : Nat} {f : Nat → Int32} {i : Int32} (hd : decode I.2.2.1 pc = .ok (.baload, 1)) (hx : hp[h]? = some (.inl (2, n, .inl f))) (hi : vp_in i n) (k : mjG X d C S I Post (pc + 1) lo (.int (f i.toNatClampNeg) :: st) hp kc ks) : mjG X d C S I Post (pc) lo (.int i :: .ref h :: st) hp kc ks :=
  fun l D cy ad0 N0 A p e s m args below meth c R hR hAt hK hA hC hX ad H locs ls h1 h2 h3 h4 h5 => va_bald hAt.1 hAt.2.1 hK h4.1 h 2 (mjW_at hx) rfl hi hd (k l D cy ad0 N0 A p e s m args below meth c R hR hAt hK hA hC hX ad H locs ls h1 h2 h3 h4 h5)
theorem mjr_baload_z {h n : Nat} {f : Nat → Int32} {i : Int32} (hd : decode I.2.2.1 pc = .ok (.baload, 1)) (hx : hp[h]? = some (.inl (3, n, .inl f))) (hi : vp_in i n) (k : mjG X d C S I Post (pc + 1) lo (.int (f i.toNatClampNeg) :: st) hp kc ks) : mjG X d C S I Post (pc) lo (.int i :: .ref h :: st) hp kc ks :=
  fun l D cy ad0 N0 A p e s m args below meth c R hR hAt hK hA hC hX ad H locs ls h1 h2 h3 h4 h5 => va_zald hAt.1 hAt.2.1 hK h4.1 h 3 (mjW_at hx) rfl hi hd (k l D cy ad0 N0 A p e s m args below meth c R hR hAt hK hA hC hX ad H locs ls h1 h2 h3 h4 h5)
theorem mjr_laload {h n : Nat} {f : Nat → Int64} {i : Int32} (hd : decode I.2.2.1 pc = .ok (.laload, 1)) (hx : hp[h]? = some (.inl (1, n, .inr (.inl f)))) (hi : vp_in i n) (k : mjG X d C S I Post (pc + 1) lo (.long (f i.toNatClampNeg) :: st) hp kc ks) : mjG X d C S I Post (pc) lo (.int i :: .ref h :: st) hp kc ks :=
  fun l D cy ad0 N0 A p e s m args below meth c R hR hAt hK hA hC hX ad H locs ls h1 h2 h3 h4 h5 => va_lald hAt.1 hAt.2.1 hK h4.1 h 1 (mjW_at hx) rfl hi hd (k l D cy ad0 N0 A p e s m args below meth c R hR hAt hK hA hC hX ad H locs ls h1 h2 h3 h4 h5)
theorem mjr_iastore {h n : Nat} {f : Nat → Int32} {i : Int32} {x : Int32} (hd : decode I.2.2.1 pc = .ok (.iastore, 1)) (hx : hp[h]? = some (.inl (0, n, .inl (f)))) (hi : vp_in i n) (k : mjG X d C S I Post (pc + 1) lo st (hp.set h (.inl (0, n, .inl (upd f i.toNatClampNeg x)))) kc ks) : mjG X d C S I Post pc lo (.int x :: .int i :: .ref h :: st) hp kc ks :=
  fun l D cy ad0 N0 A p e s m args below meth c R hR hAt hK hA hC hX ad H locs ls h1 h2 h3 h4 h5 => va_iast hAt.1 hAt.2.1 hK h4.1 h4.2.1 h4.2.2 h 0 (mjW_at hx) rfl hi hd (fun H1 locs1 g1 g2 g3 => k l D cy ad0 N0 A p e s m args below meth c R hR hAt hK hA hC hX ad H1 locs1 ls h1 h2 (by rw [List.length_set]; exact h3) ⟨by rw [mjW_set]; exact g1, by rw [mjW_set]; exact g2, g3⟩ h5)
theorem mjr_bastore_b {h n : Nat} {f : Nat → Int32} {i : Int32} {x : Int32} (hd : decode I.2.2.1 pc = .ok (.bastore, 1)) (hx : hp[h]? = some (.inl (2, n, .inl (f)))) (hi : vp_in i n) (k : mjG X d C S I Post (pc + 1) lo st (hp.set h (.inl (2, n, .inl (upd f i.toNatClampNeg (vp_nar .byte x))))) kc ks) : mjG X d C S I Post pc lo (.int x :: .int i :: .ref h :: st) hp kc ks :=
  fun l D cy ad0 N0 A p e s m args below meth c R hR hAt hK hA hC hX ad H locs ls h1 h2 h3 h4 h5 => va_bast hAt.1 hAt.2.1 hK h4.1 h4.2.1 h4.2.2 h 2 (mjW_at hx) rfl hi hd (fun H1 locs1 g1 g2 g3 => k l D cy ad0 N0 A p e s m args below meth c R hR hAt hK hA hC hX ad H1 locs1 ls h1 h2 (by rw [List.length_set]; exact h3) ⟨by rw [mjW_set]; exact g1, by rw [mjW_set]; exact g2, g3⟩ h5)
theorem mjr_bastore_z {h n : Nat} {f : Nat → Int32} {i : Int32} {x : Int32} (hd : decode I.2.2.1 pc = .ok (.bastore, 1)) (hx : hp[h]? = some (.inl (3, n, .inl (f)))) (hi : vp_in i n) (k : mjG X d C S I Post (pc + 1) lo st (hp.set h (.inl (3, n, .inl (upd f i.toNatClampNeg (vp_nar .boolean x))))) kc ks) : mjG X d C S I Post pc lo (.int x :: .int i :: .ref h :: st) hp kc ks :=
  fun l D cy ad0 N0 A p e s m args below meth c R hR hAt hK hA hC hX ad H locs ls h1 h2 h3 h4 h5 => va_zast hAt.1 hAt.2.1 hK h4.1 h4.2.1 h4.2.2 h 3 (mjW_at hx) rfl hi hd (fun H1 locs1 g1 g2 g3 => k l D cy ad0 N0 A p e s m args below meth c R hR hAt hK hA hC hX ad H1 locs1 ls h1 h2 (by rw [List.length_set]; exact h3) ⟨by rw [mjW_set]; exact g1, by rw [mjW_set]; exact g2, g3⟩ h5)
theorem mjr_lastore {h n : Nat} {f : Nat → Int64} {i : Int32} {x : Int64} (hd : decode I.2.2.1 pc = .ok (.lastore, 1)) (hx : hp[h]? = some (.inl (1, n, .inr (.inl (f))))) (hi : vp_in i n) (k : mjG X d C S I Post (pc + 1) lo st (hp.set h (.inl (1, n, .inr (.inl (vp_updL f i.toNatClampNeg x))))) kc ks) : mjG X d C S I Post pc lo (.long x :: .int i :: .ref h :: st) hp kc ks :=
  fun l D cy ad0 N0 A p e s m args below meth c R hR hAt hK hA hC hX ad H locs ls h1 h2 h3 h4 h5 => va_last hAt.1 hAt.2.1 hK h4.1 h4.2.1 h4.2.2 h 1 (mjW_at hx) rfl hi hd (fun H1 locs1 g1 g2 g3 => k l D cy ad0 N0 A p e s m args below meth c R hR hAt hK hA hC hX ad H1 locs1 ls h1 h2 (by rw [List.length_set]; exact h3) ⟨by rw [mjW_set]; exact g1, by rw [mjW_set]; exact g2, g3⟩ h5)
theorem mjr_arraylength {h t : Nat} {a : vp_A} (hd : decode I.2.2.1 pc = .ok (.arraylength, 1)) (hx : hp[h]? = some (.inl (t, a))) (ht : t < 4) (k : mjG X d C S I Post (pc + 1) lo (.int (Int32.ofNat a.1) :: st) hp kc ks) : mjG X d C S I Post pc lo (.ref h :: st) hp kc ks := by
  intro l D cy ad0 N0 A p e s m args below meth c R hR hAt hK hA hC hX ad H locs ls h1 h2 h3 h4 h5
  obtain ⟨ty, hty⟩ := mjTy_len cy t ht
  exact va_alen hAt.1 hAt.2.1 hK h4.1 h t (mjW_at hx) hty rfl hd (k l D cy ad0 N0 A p e s m args below meth c R hR hAt hK hA hC hX ad H locs ls h1 h2 h3 h4 h5)
theorem mjr_ldcS {idx i : Nat} (hd : decode I.2.2.1 pc = .ok (.ldc idx, 2)) (hs : mjSr I.2.1 idx = some i) (k : mjG X d C S I Post (pc + 2) lo (.ref (1000000 + 2 * i) :: st) hp kc ks) : mjG X d C S I Post pc lo st hp kc ks := by
  intro l D cy ad0 N0 A p e s m args below meth c R hR hAt hK hA hC hX ad H locs ls h1 h2 h3 h4 h5
  have e := k l D cy ad0 N0 A p e s m args below meth c R hR hAt hK hA hC hX ad H locs ls h1 h2 h3 h4 h5
  rw [List.map_cons, show mjV ad (.ref (1000000 + 2 * i)) = .ref (ad0 (1000000 + 2 * i)) by simp only [mjV, h1 (1000000 + 2 * i) (Or.inr (by omega))]] at e
  exact va_ldcS hAt.1 hAt.2.1 hAt.2.2.2.2.2.1 (hC.2.1 _ _ _ hs).2 hd e
theorem mjr_getS_value {i : Nat} (hi : i < 2) (hcn : I.2.1 = 17) (hd : decode I.2.2.1 pc = .ok (.getfield 9, 3)) (k : mjG X d C S I Post (pc + 3) lo (.ref (1000001 + 2 * i) :: st) hp kc ks) : mjG X d C S I Post pc lo (.ref (1000000 + 2 * i) :: st) hp kc ks := by
  intro l D cy ad0 N0 A p e s m args below meth c R hR hAt hK hA hC hX ad H locs ls h1 h2 h3 h4 h5
  have e := k l D cy ad0 N0 A p e s m args below meth c R hR hAt hK hA hC hX ad H locs ls h1 h2 h3 h4 h5
  rw [List.map_cons, show mjV ad (.ref (1000001 + 2 * i)) = .ref (ad0 (1000001 + 2 * i)) by simp only [mjV, h1 (1000001 + 2 * i) (Or.inr (by omega))]] at e
  rw [List.map_cons, show mjV ad (.ref (1000000 + 2 * i)) = .ref (ad0 (1000000 + 2 * i)) by simp only [mjV, h1 (1000000 + 2 * i) (Or.inr (by omega))]]
  exact vk_getf hAt.1 hAt.2.1 (hC.1.1 i hi).2.2.1 h4.2.2 (own := "java/lang/String") (by have := hAt.2.2.2.2.2.1; rw [hcn, mjCn_17] at this; exact this) (hAt.2.2.2.2.2.2.2 _ mjK_words.2.2.1) (fun x hx => hx) hd e
theorem mjr_getS_coder {i : Nat} (hi : i < 2) (hcn : I.2.1 = 17) (hd : decode I.2.2.1 pc = .ok (.getfield 15, 3)) (k : mjG X d C S I Post (pc + 3) lo (.int 0 :: st) hp kc ks) : mjG X d C S I Post pc lo (.ref (1000000 + 2 * i) :: st) hp kc ks := by
  intro l D cy ad0 N0 A p e s m args below meth c R hR hAt hK hA hC hX ad H locs ls h1 h2 h3 h4 h5
  have e := k l D cy ad0 N0 A p e s m args below meth c R hR hAt hK hA hC hX ad H locs ls h1 h2 h3 h4 h5
  rw [List.map_cons, show mjV ad (.ref (1000000 + 2 * i)) = .ref (ad0 (1000000 + 2 * i)) by simp only [mjV, h1 (1000000 + 2 * i) (Or.inr (by omega))]]
  exact vk_getf hAt.1 hAt.2.1 (hC.1.1 i hi).2.1 h4.2.2 (own := "java/lang/String") (by have := hAt.2.2.2.2.2.1; rw [hcn, mjCn_17] at this; exact this) (hAt.2.2.2.2.2.2.2 _ mjK_words.2.2.2) (fun x hx => hx) hd e
theorem mjr_baloadS {i : Nat} {j : Int32} (hi : i < 2) (hd : decode I.2.2.1 pc = .ok (.baload, 1)) (hj : vp_in j (mjKl.getD i 0)) (k : mjG X d C S I Post (pc + 1) lo (.int ((mjKb.getD i []).getD j.toNatClampNeg 0) :: st) hp kc ks) : mjG X d C S I Post pc lo (.int j :: .ref (1000001 + 2 * i) :: st) hp kc ks := by
  intro l D cy ad0 N0 A p e s m args below meth c R hR hAt hK hA hC hX ad H locs ls h1 h2 h3 h4 h5
  have e := k l D cy ad0 N0 A p e s m args below meth c R hR hAt hK hA hC hX ad H locs ls h1 h2 h3 h4 h5
  rw [List.map_cons, List.map_cons, show mjV ad (.ref (1000001 + 2 * i)) = .ref (ad0 (1000001 + 2 * i)) by simp only [mjV, h1 (1000001 + 2 * i) (Or.inr (by omega))]]
  exact va_tb hAt.1 hAt.2.1 (hC.1.1 i hi).2.2.2 h4.2.2 hj rfl hd e
theorem mjr_alenS {i : Nat} (hi : i < 2) (hd : decode I.2.2.1 pc = .ok (.arraylength, 1)) (k : mjG X d C S I Post (pc + 1) lo (.int (Int32.ofNat (mjKl.getD i 0)) :: st) hp kc ks) : mjG X d C S I Post pc lo (.ref (1000001 + 2 * i) :: st) hp kc ks := by
  intro l D cy ad0 N0 A p e s m args below meth c R hR hAt hK hA hC hX ad H locs ls h1 h2 h3 h4 h5
  have e := k l D cy ad0 N0 A p e s m args below meth c R hR hAt hK hA hC hX ad H locs ls h1 h2 h3 h4 h5
  rw [List.map_cons, show mjV ad (.ref (1000001 + 2 * i)) = .ref (ad0 (1000001 + 2 * i)) by simp only [mjV, h1 (1000001 + 2 * i) (Or.inr (by omega))]]
  exact va_tlen hAt.1 hAt.2.1 (hC.1.1 i hi).2.2.2 h4.2.2 rfl hd e
theorem mjr_gets1 (hcn : I.2.1 = 17) (hd : decode I.2.2.1 pc = .ok (.getstatic 38, 3)) (k : mjG X d C S I Post (pc + 3) lo (.int 1 :: st) hp kc ks) : mjG X d C S I Post pc lo st hp kc ks := by
  intro l D cy ad0 N0 A p e s m args below meth c R hR hAt hK hA hC hX ad H locs ls h1 h2 h3 h4 h5
  exact va_gets hAt.1 hAt.2.1 hC.2.2.1 h4.2.2 (own := "java/lang/String") (by have := hAt.2.2.2.2.2.1; rw [hcn, mjCn_17] at this; exact this) (hAt.2.2.2.2.2.2.2 _ mjK_words.1) (fun x hx => hx) hd (k l D cy ad0 N0 A p e s m args below meth c R hR hAt hK hA hC hX ad H locs ls h1 h2 h3 h4 h5)
theorem mjr_gets2 (hcn : I.2.1 = 17) (hd : decode I.2.2.1 pc = .ok (.getstatic 1053, 3)) (k : mjG X d C S I Post (pc + 3) lo (.retAddr 0 :: st) hp kc ks) : mjG X d C S I Post pc lo st hp kc ks := by
  intro l D cy ad0 N0 A p e s m args below meth c R hR hAt hK hA hC hX ad H locs ls h1 h2 h3 h4 h5
  have e := k l D cy ad0 N0 A p e s m args below meth c R hR hAt hK hA hC hX ad H locs ls h1 h2 h3 h4 h5
  rw [List.map_cons, show mjV ad (.retAddr 0) = mjV ad0 (.retAddr 0) by simp only [mjV, h1 1000010 (Or.inr (by decide))]] at e
  exact va_gets hAt.1 hAt.2.1 hC.2.2.2 h4.2.2 (own := "java/lang/String") (by have := hAt.2.2.2.2.2.1; rw [hcn, mjCn_17] at this; exact this) (hAt.2.2.2.2.2.2.2 _ mjK_words.2.1) (fun x hx => hx) hd e
end MJ
