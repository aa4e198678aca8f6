/-! THE CLAIM OUT OF ONE WALK OF THE LAW'S BODY. Your part is whole_start (and what it stands on); all else here is the same for every law, but numbers. -/
def R_law : String := "OwnerHeapLaw"
def lw_P (b : Addr) (xs : List Int32) (args : Array Value) (s : State) : Prop := args = #[.ref b] ∧ s.IntsAt b xs ∧ xs.length ≤ 3072 ∧ (Jvm.Cond.and given_1 narrow_1).before args s = true
def lw_Q (_ : Array Value) (s : State) (o : Outcome) (t : State) : Prop := o = .returned (some (.int 1)) ∧ Framed s o t [] 600000 7302250
def lw_Z (below : List Frame) (a : Array Value) (s : State) : State → Prop := fun t => ∃ o, t.status = .running ∧ Ended t below o ∧ lw_Q a s o t
/-- the law's own end, with 1 on the stack, nothing written that was there before, its room as the claim has it -/
theorem lw_ret {p : Program} {l : Launch} {e : Env} {s : State} {m : MethodId} {below : List Frame} {meth : Method} {c : Code} {b : Nat} (hx : p.tables.exec = Jvm.exec) (hb : c.code = code) (hr : meth.sig.returnType = ret) (hlocks : meth.locks = false) {pc : Nat} {H : Heap} {ls : Array Slot} (hdg : decode code pc = .ok (.ireturn, 1)) : W p l e room_1 s m #[Value.ref b] below meth c H [] 600000 7302250 (lw_Z below #[Value.ref b] s) (F0 m pc ls [.int 1]) := by
  intro T hT X
  obtain ⟨fs, hret, hrun, hended, hW, hframe⟩ := X.leave (v := some (.int 1)) (hlocks := hlocks) (fun h => by rw [hr] at h; cases h)
  have hmeth' : T.vm.method? m = some meth := X.method'
  refine ⟨T.setFrames fs, ?_, .returned (some (.int 1)), hrun, hended, rfl, ⟨_, rfl⟩, hW, hframe⟩
  jvm_step X.here [X.here.top, hx, hb, hdg, hmeth', hr, ret, narrow_b1]
  (try refine ⟨rfl, ?_⟩); (try refine ⟨rfl, ?_⟩)
  first | (intro acts; rw [hret _ acts rfl rfl rfl]) | rw [hret _ _ rfl rfl rfl]
  exact Steps.refl _
/-- what holds at the law's entry: the machine, the code, the tables' words (any of lw_tbl by 'hts w (by decide +kernel)'), the script of L ints xs at the cell b, what the Statement gives of the start (any of its parts by flat_of_before) -/
def lw_At (p : Program) (s : State) (m : MethodId) (meth : Method) (c : Code) (b L : Nat) (xs : Nat → Int32) : Prop :=
  p.tables.exec = Jvm.exec ∧ c.code = code ∧ meth.sig.returnType = ret ∧ c.maxLocals = 4 ∧ s.vm.findClass R_law = some m.cls ∧ (∀ w ∈ lw_tbl, w.before #[Value.ref b] s = true) ∧ va_X b L xs s s.heap ∧ b < s.heap.size ∧ meth.locks = false ∧ (Jvm.Cond.and given_1 narrow_1).before #[Value.ref b] s = true
/-! ===== the law's start, over the small machine ===== -/
theorem mj_arr {args : Array Value} {s : State} {ty : FieldType} (h : (Cond.arrayClass ty).before args s = true) : ∃ cA : ClassId, ArrOfT s cA ty ∧ s.vm.findClass ("[" ++ ty.toString) = some cA := by
  obtain ⟨cA, kA, comp, h1, h2, h3⟩ := Cond.arrayClass_spec h
  exact ⟨cA, fun n z => ⟨fun k h => (by cases h), kA, h2, comp, h3⟩, h1⟩
theorem mj_known {args : Array Value} {s : State} (hts : ∀ w ∈ mjT, w.before args s = true) : ∃ (D : va_G) (cy : Nat → ClassId), va_K D vwCl (mjTy cy) s := by
  have h : ∀ ci : Nat, ∃ q : ClassId × (Nat → Nat), ci < 13 → u_Kn s (mjCl ci).1 (mjCl ci).2.1 (mjCl ci).2.2 q.1 q.2 := by
    intro ci
    by_cases hc : ci < 13
    · obtain ⟨cC, iS, h⟩ := u_known (n := (mjCl ci).2.2) hts (mj_lay hc) (hts _ (mj_inst hc).1)
      exact ⟨(cC, iS), fun _ => h⟩
    · exact ⟨(0, fun _ => 0), fun h => absurd h hc⟩
  obtain ⟨f, hf⟩ := Classical.axiomOfChoice h
  obtain ⟨c0, a0, b0⟩ := mj_arr (hts _ mjA_words.1)
  obtain ⟨c1, a1, b1⟩ := mj_arr (hts _ mjA_words.2.1)
  obtain ⟨c2, a2, b2⟩ := mj_arr (hts _ mjA_words.2.2.1)
  obtain ⟨c3, a3, b3⟩ := mj_arr (hts _ mjA_words.2.2.2)
  refine ⟨(fun k => (f k).1, fun k => (f k).2), fun t => match t with
    | 0 => c0
    | 1 => c1
    | 2 => c2
    | _ => c3, fun k q hq => ?_, fun k q hq => ?_⟩
  · have hk : k < 13 := (List.getElem?_eq_some_iff.mp hq).1
    rw [mjCl_get hk] at hq
    cases hq
    exact hf k hk
  · match k, hq with
    | 0, hq => cases hq; exact ⟨a0, b0⟩
    | 1, hq => cases hq; exact ⟨a1, b1⟩
    | 2, hq => cases hq; exact ⟨a2, b2⟩
    | 3, hq => cases hq; exact ⟨a3, b3⟩
    | k + 4, hq => simp [mjTy] at hq
def mjTm (i : Nat) : Term := Term.string "OwnerHeap$Tokens" (match i with
  | 0 => 28
  | _ => 92)
theorem mj_g1 : ∀ i, i < 2 → Cond.exactly (mjTm i) "java/lang/String" ∈ flatC (Jvm.Cond.and given_1 narrow_1) ∧ Cond.eq (.field (mjTm i) "java/lang/String" "coder" "B") (.int 0) ∈ flatC (Jvm.Cond.and given_1 narrow_1) ∧ Cond.arrayOf (.field (mjTm i) "java/lang/String" "value" "[B") .byte ∈ flatC (Jvm.Cond.and given_1 narrow_1) ∧ Cond.eq (.length (.field (mjTm i) "java/lang/String" "value" "[B")) (.int (Int32.ofNat (mjKl.getD i 0))) ∈ flatC (Jvm.Cond.and given_1 narrow_1) := by decide +kernel
theorem mj_g2 : ∀ i, i < 2 → ∀ j, j < mjKl.getD i 0 → Cond.eq (.elem (.field (mjTm i) "java/lang/String" "value" "[B") (.int (Int32.ofNat j))) (.int ((mjKb.getD i []).getD j 0)) ∈ flatC (Jvm.Cond.and given_1 narrow_1) := by decide +kernel
theorem mj_g3 : Cond.not (Cond.eq (mjTm 0) (mjTm 1)) ∈ flatC (Jvm.Cond.and given_1 narrow_1) ∧ Cond.eq (.static "java/lang/String" "COMPACT_STRINGS" "Z") (.int 1) ∈ flatC (Jvm.Cond.and given_1 narrow_1) ∧ Cond.isRef (.static "jdk/internal/util/Preconditions" "SIOOBE_FORMATTER" "Ljava/util/function/BiFunction;") ∈ flatC (Jvm.Cond.and given_1 narrow_1) := by decide +kernel
theorem mj_g4 : (mj_at (1, 229), mj_at (2, 5), mj_at (1, 6), mj_at (1, 8), mj_at (1, 219), mj_at (3, 212)) = (some (Cond.laysStatic "java/lang/String" "COMPACT_STRINGS" "Z"), some (Cond.laysStatic "jdk/internal/util/Preconditions" "SIOOBE_FORMATTER" "Ljava/util/function/BiFunction;"), some (Cond.initialized "java/lang/String"), some (Cond.initialized "jdk/internal/util/Preconditions"), some (Cond.stringRef "OwnerHeap$Tokens" 28 (mjKt 0)), some (Cond.stringRef "OwnerHeap$Tokens" 92 (mjKt 1))) := by rfl
theorem mj_const {a : Array Value} {s : State} {A : Nat → Prop} (hts : ∀ w ∈ lw_tbl, w.before a s = true) (hgv : (Jvm.Cond.and given_1 narrow_1).before a s = true) (hA : ∀ q : Nat, q < s.heap.size → ¬ A q) : ∃ f : Nat → Nat, ∀ ad : Nat → Nat, (∀ q : Nat, q ≠ 1000020 → ad q = f q) → mjCst ad A s := by
  have hs := flat_of_before _ hgv
  have hw := mj_g4
  simp only [Prod.mk.injEq] at hw
  obtain ⟨w1, w2, w3, w4, w5, w6⟩ := hw
  obtain ⟨adK, adV, hS, hE⟩ := vk_Sof (args := a) (s := s) (N := 2) (tm := mjTm) (len := mjKl) (byt := mjKb) (A := A) (by decide +kernel) (fun i hi => hs _ (mj_g1 i hi).1) (fun i hi => hs _ (mj_g1 i hi).2.1) (fun i hi => hs _ (mj_g1 i hi).2.2.1) (fun i hi => hs _ (mj_g1 i hi).2.2.2) (fun i hi j hj => hs _ (mj_g2 i hi j hj)) (fun i j hi hj hij => by
      match i, j, hi, hj, hij with
      | 0, 1, _, _, _ => exact Or.inl (hs _ mj_g3.1)
      | 1, 0, _, _, _ => exact Or.inr (hs _ mj_g3.1)
      | 0, 0, _, _, h => exact absurd rfl h
      | 1, 1, _, _, h => exact absurd rfl h) hA
  have hZ1 := va_Zof (A := A) (hts _ (mj_at_mem w1)) (hts _ (mj_at_mem w3)) (va_eqt (hs _ mj_g3.2.1)) hA
  have hZ2 := va_Zqof (A := A) (hts _ (mj_at_mem w2)) (hts _ (mj_at_mem w4)) (hs _ mj_g3.2.2) hA
  obtain ⟨o, ho⟩ : ∃ o : Nat, va_Z "jdk/internal/util/Preconditions" "SIOOBE_FORMATTER" "Ljava/util/function/BiFunction;" (match o with
      | 0 => .null
      | q + 1 => .ref q) A s s.heap := by
    rcases hZ2 with h | ⟨t, h⟩
    · exact ⟨0, h⟩
    · exact ⟨t + 1, h⟩
  refine ⟨fun q => if q = 1000000 then adK 0 else if q = 1000002 then adK 1 else if q = 1000001 then adV 0 else if q = 1000003 then adV 1 else if q = 1000010 then o else 0, fun ad had => ?_⟩
  have k0 : ad 1000000 = adK 0 := by rw [had _ (by decide)]; rfl
  have k1 : ad 1000002 = adK 1 := by rw [had _ (by decide)]; rfl
  have v0 : ad 1000001 = adV 0 := by rw [had _ (by decide)]; rfl
  have v1 : ad 1000003 = adV 1 := by rw [had _ (by decide)]; rfl
  have oo : ad 1000010 = o := by rw [had _ (by decide)]; rfl
  have ek : ∀ i, i < 2 → ad (1000000 + 2 * i) = adK i := fun i hi => by
    match i, hi with
    | 0, _ => exact k0
    | 1, _ => exact k1
  have ev : ∀ i, i < 2 → ad (1000001 + 2 * i) = adV i := fun i hi => by
    match i, hi with
    | 0, _ => exact v0
    | 1, _ => exact v1
  refine ⟨⟨fun i hi => ?_, fun i j hi hj e => ?_⟩, fun cn idx i hi => ?_, hZ1, ?_⟩
  · dsimp only
    rw [ek i hi, ev i hi]
    exact hS.1 i hi
  · dsimp only at e
    rw [ek i hi, ek j hj] at e
    exact hS.2 i j hi hj e
  · unfold mjSr at hi
    split at hi
    · cases hi
      exact ⟨by decide, vk_R.of (hts _ (mj_at_mem w5)) (by rw [ek 0 (by decide)]; exact hE 0 (by decide))⟩
    · cases hi
      exact ⟨by decide, vk_R.of (hts _ (mj_at_mem w6)) (by rw [ek 1 (by decide)]; exact hE 1 (by decide))⟩
    · cases hi
  · simp only [mjV, oo]
    exact ho
/-- the script -/
def mjXs (L : Nat) (xs : Nat → Int32) : mjX := fun s A ad => va_X (ad 1000020) L xs s s.heap ∧ ad 1000020 < s.heap.size ∧ ¬ A (ad 1000020)
def lawI : mjI := (x, 13, code, 4, ret, 1, true)
section MJL
variable {L : Nat} {xs : Nat → Int32} {d C S : Nat} {I : mjI} {Post : Option Value → mjH → Prop} {pc : Nat} {lo : mjLo} {st : List Value} {hp : mjH} {kc ks : Nat}
theorem mjr_scr_ld {i : Int32} (hd : decode I.2.2.1 pc = .ok (.iaload, 1)) (hi : vp_in i L) (k : mjG (mjXs L xs) d C S I Post (pc + 1) lo (.int (xs i.toNatClampNeg) :: st) hp kc ks) : mjG (mjXs L xs) d C S I Post pc lo (.int i :: .ref 1000020 :: st) hp kc ks := by
  intro l D cy ad0 N0 A p e s m args below meth c R hR hAt hK hA hC hX ad H locs ls h1 h2 h3 h4 h5
  have e := k l D cy ad0 N0 A p e s m args below meth c R hR hAt hK hA hC hX ad H locs ls h1 h2 h3 h4 h5
  rw [List.map_cons, List.map_cons, show mjV ad (.ref 1000020) = .ref (ad0 1000020) by simp only [mjV, h1 1000020 (Or.inr (by decide))]]
  exact va_sld hAt.1 hAt.2.1 hX.1 hX.2.1 hX.2.2 h4.2.2 hi hd e
theorem mjr_scr_len (hd : decode I.2.2.1 pc = .ok (.arraylength, 1)) (k : mjG (mjXs L xs) d C S I Post (pc + 1) lo (.int (Int32.ofNat L) :: st) hp kc ks) : mjG (mjXs L xs) d C S I Post pc lo (.ref 1000020 :: st) hp kc ks := by
  intro l D cy ad0 N0 A p e s m args below meth c R hR hAt hK hA hC hX ad H locs ls h1 h2 h3 h4 h5
  have e := k l D cy ad0 N0 A p e s m args below meth c R hR hAt hK hA hC hX ad H locs ls h1 h2 h3 h4 h5
  rw [List.map_cons, show mjV ad (.ref 1000020) = .ref (ad0 1000020) by simp only [mjV, h1 1000020 (Or.inr (by decide))]]
  exact va_slen hAt.1 hAt.2.1 hX.1 hX.2.1 hX.2.2 h4.2.2 hd e
end MJL
theorem mj_same {s t : State} {L : List Loc} {k n : Nat} (h : s.sameButNew t L k n) (hL : ∀ q ∈ L, s.heap.size ≤ q.base) : s.sameButNew t [] k n := by
  obtain ⟨h1, h2, h3, h4, h5, h6⟩ := h
  refine ⟨h1, h2, h3, h4, h5, fun a c hc => ?_⟩
  obtain ⟨c', g1, g2, g3, g4⟩ := h6 a c hc
  refine ⟨c', g1, g2, g3, fun i _ => g4 i (fun hm => ?_)⟩
  have h7 := hL _ hm
  have h8 := (Array.getElem?_eq_some_iff.mp hc).1
  exact absurd h8 (Nat.not_lt.mpr h7)
/-- THE CLAIM's walk, out of the law's run on the small machine -/
theorem mj_start {p : Program} {e : Env} {s : State} {m : MethodId} {below : List Frame} {meth : Method} {c : Code} (l : Launch) {b L : Nat} {xs : Nat → Int32} (C0 : lw_At p s m meth c b L xs)
    (hG : mjG (mjXs L xs) 2000 600000 7302250 lawI (fun r _ => r = some (.int 1)) 0 [some (.ref 1000020), none, none, none] [] [] 0 0) : W p l e room_1 s m #[Value.ref b] below meth c s.heap [] 0 0 (lw_Z below #[Value.ref b] s) (entryFrame m ([Value.ref b] : List Value).toArray 4) := by
  obtain ⟨hx, hb, hr, hml, hown, hts, hX, hbl, hlocks, hgv⟩ := id C0
  have htm : ∀ w ∈ mjT, w.before #[Value.ref b] s = true := fun w hw => hts w (List.mem_filter.mp hw).1
  obtain ⟨D, cy, hK⟩ := mj_known htm
  obtain ⟨f, hf⟩ := mj_const (A := fun q : Nat => s.heap.size ≤ q) hts hgv (fun q hq => Nat.not_le.mpr hq)
  have hC := hf (fun q => if q = 1000020 then b else f q) (fun q hq => if_neg hq)
  have hl := mj_entry (fun q => if q = 1000020 then b else f q) [.ref 1000020] (n := 4) (by decide)
  have K := hG l D cy (fun q => if q = 1000020 then b else f q) 0 (fun q : Nat => s.heap.size ≤ q) p e s m #[Value.ref b] below meth c room_1 ⟨by decide, by decide, by decide, by decide⟩ ⟨hx, hb, hml, hr, hlocks, hown, fun h => absurd h (by decide), htm⟩ hK (fun _ h => h) hC ⟨by simpa using hX, by simpa using hbl, by simpa using hbl⟩ (fun q => if q = 1000020 then b else f q) s.heap [] _ mjAg.rf (fun h => absurd h (by decide)) (Nat.le_refl _) ⟨fun k q h => by simp [mjW] at h, ⟨fun i j p q h => by simp [mjW] at h, fun k q h => by simp [mjW] at h⟩, va_S.rf⟩ hl
  rw [lg_entry_eq]
  intro T hT hSt
  obtain ⟨t, a1, oc, b1, b2, ⟨⟨r, hp', ad', q1, q2, q3, q4, q5, q6⟩, q7⟩, LL, ⟨f1, f2, f3⟩, hfr⟩ := K T hT hSt
  subst q1
  exact ⟨t, a1, oc, b1, b2, q5, ⟨_, q5⟩, f2, mj_same f3 hfr⟩
