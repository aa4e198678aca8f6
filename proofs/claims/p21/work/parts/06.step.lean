/-! ===== the small machine as a function: one plain instruction ===== -/
abbrev mjZ : Type := Nat × mjLo × List Value × mjH
def mjCmp (c : Jvm.ClassFile.Cond) (x y : Int32) : Bool := match c with
  | .eq => decide (x = y)
  | .ne => decide (¬ x = y)
  | .lt => decide (x < y)
  | .ge => decide (y ≤ x)
  | .gt => decide (y < x)
  | .le => decide (x ≤ y)
def mjb (c : Bool) (z : Option mjZ) : Option mjZ := match c with
  | true => z
  | false => none
theorem mjb_some {c : Bool} {z : Option mjZ} {y : mjZ} (h : mjb c z = some y) : c = true ∧ z = some y := by
  cases c
  · cases h
  · exact ⟨rfl, h⟩
theorem mj_l1 {len n : Nat} {z : Option mjZ} {y : mjZ} (h : mjb (len == n) z = some y) : len = n ∧ z = some y := by
  obtain ⟨h1, h2⟩ := mjb_some h
  exact ⟨by simpa using h1, h2⟩
def mj_ii (f : Int32 → Int32 → Int32) (pc : Nat) (lo : mjLo) (st : List Value) (hp : mjH) : Option mjZ := match st with
  | .int y :: .int x :: r => some (pc + 1, lo, .int (f x y) :: r, hp)
  | _ => none
theorem mj_ii_some {f : Int32 → Int32 → Int32} {pc : Nat} {lo : mjLo} {st : List Value} {hp : mjH} {z : mjZ} (h : mj_ii f pc lo st hp = some z) : ∃ x y r, st = .int y :: .int x :: r ∧ z = (pc + 1, lo, .int (f x y) :: r, hp) := by
  unfold mj_ii at h
  split at h
  · next y x r => cases h; exact ⟨x, y, r, rfl, rfl⟩
  · cases h
def mj_ll (f : Int64 → Int64 → Value) (pc : Nat) (lo : mjLo) (st : List Value) (hp : mjH) : Option mjZ := match st with
  | .long y :: .long x :: r => some (pc + 1, lo, f x y :: r, hp)
  | _ => none
theorem mj_ll_some {f : Int64 → Int64 → Value} {pc : Nat} {lo : mjLo} {st : List Value} {hp : mjH} {z : mjZ} (h : mj_ll f pc lo st hp = some z) : ∃ x y r, st = .long y :: .long x :: r ∧ z = (pc + 1, lo, f x y :: r, hp) := by
  unfold mj_ll at h
  split at h
  · next y x r => cases h; exact ⟨x, y, r, rfl, rfl⟩
  · cases h
def mj_i (f : Int32 → Value) (pc : Nat) (lo : mjLo) (st : List Value) (hp : mjH) : Option mjZ := match st with
  | .int x :: r => some (pc + 1, lo, f x :: r, hp)
  | _ => none
theorem mj_i_some {f : Int32 → Value} {pc : Nat} {lo : mjLo} {st : List Value} {hp : mjH} {z : mjZ} (h : mj_i f pc lo st hp = some z) : ∃ x r, st = .int x :: r ∧ z = (pc + 1, lo, f x :: r, hp) := by
  unfold mj_i at h
  split at h
  · next x r => cases h; exact ⟨x, r, rfl, rfl⟩
  · cases h
def mj_lsh (f : Int64 → Int32 → Int64) (pc : Nat) (lo : mjLo) (st : List Value) (hp : mjH) : Option mjZ := match st with
  | .int y :: .long x :: r => some (pc + 1, lo, .long (f x y) :: r, hp)
  | _ => none
theorem mj_lsh_some {f : Int64 → Int32 → Int64} {pc : Nat} {lo : mjLo} {st : List Value} {hp : mjH} {z : mjZ} (h : mj_lsh f pc lo st hp = some z) : ∃ x y r, st = .int y :: .long x :: r ∧ z = (pc + 1, lo, .long (f x y) :: r, hp) := by
  unfold mj_lsh at h
  split at h
  · next y x r => cases h; exact ⟨x, y, r, rfl, rfl⟩
  · cases h
/-- a load of kind 0 int, 1 long, 2 reference -/
def mj_ld (kd n len pc : Nat) (lo : mjLo) (st : List Value) (hp : mjH) : Option mjZ := match lo[n]? with
  | some (some (.int x)) => mjb (kd == 0) (some (pc + len, lo, .int x :: st, hp))
  | some (some (.long x)) => mjb (kd == 1) (some (pc + len, lo, .long x :: st, hp))
  | some (some (.ref x)) => mjb (kd == 2) (some (pc + len, lo, .ref x :: st, hp))
  | _ => none
theorem mj_ld_some {kd n len pc : Nat} {lo : mjLo} {st : List Value} {hp : mjH} {z : mjZ} (h : mj_ld kd n len pc lo st hp = some z) : (kd = 0 ∧ ∃ x, lo[n]? = some (some (.int x)) ∧ z = (pc + len, lo, .int x :: st, hp)) ∨ (kd = 1 ∧ ∃ x, lo[n]? = some (some (.long x)) ∧ z = (pc + len, lo, .long x :: st, hp)) ∨ (kd = 2 ∧ ∃ x, lo[n]? = some (some (.ref x)) ∧ z = (pc + len, lo, .ref x :: st, hp)) := by
  unfold mj_ld at h
  split at h
  · next x hx => obtain ⟨a, b⟩ := mj_l1 h; cases b; exact Or.inl ⟨a, x, hx, rfl⟩
  · next x hx => obtain ⟨a, b⟩ := mj_l1 h; cases b; exact Or.inr (Or.inl ⟨a, x, hx, rfl⟩)
  · next x hx => obtain ⟨a, b⟩ := mj_l1 h; cases b; exact Or.inr (Or.inr ⟨a, x, hx, rfl⟩)
  · cases h
def mj_sto (kd nL n len pc : Nat) (lo : mjLo) (st : List Value) (hp : mjH) : Option mjZ := match st with
  | .int x :: r => mjb (kd == 0 && decide (n < nL)) (some (pc + len, mjS1 lo n (.int x), r, hp))
  | .long x :: r => mjb (kd == 1 && decide (n + 1 < nL)) (some (pc + len, mjS2 lo n (.long x), r, hp))
  | .ref x :: r => mjb (kd == 2 && decide (n < nL)) (some (pc + len, mjS1 lo n (.ref x), r, hp))
  | _ => none
theorem mj_sto_some {kd nL n len pc : Nat} {lo : mjLo} {st : List Value} {hp : mjH} {z : mjZ} (h : mj_sto kd nL n len pc lo st hp = some z) : (kd = 0 ∧ n < nL ∧ ∃ x r, st = .int x :: r ∧ z = (pc + len, mjS1 lo n (.int x), r, hp)) ∨ (kd = 1 ∧ n + 1 < nL ∧ ∃ x r, st = .long x :: r ∧ z = (pc + len, mjS2 lo n (.long x), r, hp)) ∨ (kd = 2 ∧ n < nL ∧ ∃ x r, st = .ref x :: r ∧ z = (pc + len, mjS1 lo n (.ref x), r, hp)) := by
  unfold mj_sto at h
  split at h
  · next x r =>
    obtain ⟨a, b⟩ := mjb_some h
    simp only [Bool.and_eq_true, beq_iff_eq, decide_eq_true_eq] at a
    cases b
    exact Or.inl ⟨a.1, a.2, x, r, rfl, rfl⟩
  · next x r =>
    obtain ⟨a, b⟩ := mjb_some h
    simp only [Bool.and_eq_true, beq_iff_eq, decide_eq_true_eq] at a
    cases b
    exact Or.inr (Or.inl ⟨a.1, a.2, x, r, rfl, rfl⟩)
  · next x r =>
    obtain ⟨a, b⟩ := mjb_some h
    simp only [Bool.and_eq_true, beq_iff_eq, decide_eq_true_eq] at a
    cases b
    exact Or.inr (Or.inr ⟨a.1, a.2, x, r, rfl, rfl⟩)
  · cases h
def mj_br (b : Bool) (pc : Nat) (off : Int) (lo : mjLo) (st : List Value) (hp : mjH) : Option mjZ := mjb (decide (0 ≤ (pc : Int) + off)) (some (match b with
  | true => ((pc : Int) + off).toNat
  | false => pc + 3, lo, st, hp))
def mj_sw (x : Int) (pc : Nat) (i : Instr) (lo : mjLo) (st : List Value) (hp : mjH) : Option mjZ := match i with
  | .lookupswitch dflt ps => mjb ((ps.toList.zip (ps.toList.drop 1)).all (fun (a, next) => a.1 < next.1) && decide (0 ≤ (pc : Int) + Op.lookupswitch.offset ps.toList dflt x)) (some (((pc : Int) + Op.lookupswitch.offset ps.toList dflt x).toNat, lo, st, hp))
  | .tableswitch dflt lw hi offs => match decide (x < lw) || decide (hi < x) with
    | true => mjb (decide (0 ≤ (pc : Int) + dflt)) (some (((pc : Int) + dflt).toNat, lo, st, hp))
    | false => match offs[(x - lw).toNat]? with
      | some off => mjb (decide (0 ≤ (pc : Int) + off)) (some (((pc : Int) + off).toNat, lo, st, hp))
      | none => none
  | _ => none
def mj_ldc (cn n pc : Nat) (lo : mjLo) (st : List Value) (hp : mjH) : Option mjZ := match mjCIr cn n with
  | some v => some (pc + 2, lo, .int v :: st, hp)
  | none => match mjSr cn n with
    | some i => some (pc + 2, lo, .ref (1000000 + 2 * i) :: st, hp)
    | none => none
/-- the constants' cells -/
def mjKi (h : Nat) : Option Nat := match h == 1000000 with
  | true => some 0
  | false => match h == 1000002 with
    | true => some 1
    | false => none
def mjKa (h : Nat) : Option Nat := match h == 1000001 with
  | true => some 0
  | false => match h == 1000003 with
    | true => some 1
    | false => none
theorem mjKi_ok {h i : Nat} (e : mjKi h = some i) : i < 2 ∧ h = 1000000 + 2 * i := by
  unfold mjKi at e
  split at e
  · next g => cases e; exact ⟨by omega, by simpa using g⟩
  · split at e
    · next g => cases e; exact ⟨by omega, by simpa using g⟩
    · cases e
theorem mjKa_ok {h i : Nat} (e : mjKa h = some i) : i < 2 ∧ h = 1000001 + 2 * i := by
  unfold mjKa at e
  split at e
  · next g => cases e; exact ⟨by omega, by simpa using g⟩
  · split at e
    · next g => cases e; exact ⟨by omega, by simpa using g⟩
    · cases e
def mj_getS (cn idx pc h : Nat) (lo : mjLo) (r : List Value) (hp : mjH) : Option mjZ := match mjKi h with
  | some i => mjb (cn == 17) (match idx with
    | 9 => some (pc + 3, lo, .ref (1000001 + 2 * i) :: r, hp)
    | 15 => some (pc + 3, lo, .int 0 :: r, hp)
    | _ => none)
  | none => none
def mj_gst (cn idx pc : Nat) (lo : mjLo) (st : List Value) (hp : mjH) : Option mjZ := mjb (cn == 17) (match idx with
  | 38 => some (pc + 3, lo, .int 1 :: st, hp)
  | 1053 => some (pc + 3, lo, .retAddr 0 :: st, hp)
  | _ => none)
def mj_get (cn idx pc : Nat) (lo : mjLo) (st : List Value) (hp : mjH) : Option mjZ := match st with
  | .ref h :: r => match mjFr cn idx with
    | some (ci, j) => match hp[h]? with
      | some (.inr (c2, fs)) => match fs[j]? with
        | some v => mjb (c2 == ci) (some (pc + 3, lo, v :: r, hp))
        | none => none
      | _ => none
    | none => mj_getS cn idx pc h lo r hp
  | _ => none
def mj_fit (ty : FieldType) (v : Value) : Bool := match v with
  | .ref _ => fits ty .null
  | v => decide (narrow ty v = v) && fits ty v
theorem mj_fit_ok {ty : FieldType} {v : Value} (h : mj_fit ty v = true) : narrow ty v = v ∧ fits ty v = true := by
  cases v with
  | ref a => cases ty <;> first | exact ⟨rfl, h⟩ | cases h
  | _ => simp only [mj_fit, Bool.and_eq_true, decide_eq_true_eq] at h; exact h
def mj_put (I : mjI) (idx pc : Nat) (lo : mjLo) (st : List Value) (hp : mjH) : Option mjZ := match st with
  | v :: .ref h :: r => match mjFr I.2.1 idx with
    | some (ci, j) => match hp[h]? with
      | some (.inr (c2, fs)) => mjb (c2 == ci && decide (j < fs.length) && (!((mjCl ci).2.1 j).2.2.2 || (I.1.name == "<init>" && (mjCl ci).1 == mjCn I.2.1)) && mj_fit (mjTyv ci j) v) (some (pc + 3, lo, r, hp.set h (.inr (ci, fs.set j v))))
      | _ => none
    | none => none
  | _ => none
def mj_in (i : Int32) (n : Nat) : Bool := !(decide (i < 0) || decide (n ≤ i.toNatClampNeg))
theorem mj_in_ok {i : Int32} {n : Nat} (h : mj_in i n = true) : vp_in i n := by
  unfold mj_in at h
  unfold vp_in
  simpa using h
/-- array reads: kind 0 iaload, 1 laload, 2 baload -/
def mj_al (kd pc : Nat) (lo : mjLo) (st : List Value) (hp : mjH) : Option mjZ := match st with
  | .int i :: .ref h :: r => match hp[h]? with
    | some (.inl (t, n, .inl f)) => mjb (mj_in i n && ((kd == 0 && t == 0) || (kd == 2 && (t == 2 || t == 3)))) (some (pc + 1, lo, .int (f i.toNatClampNeg) :: r, hp))
    | some (.inl (t, n, .inr (.inl f))) => mjb (mj_in i n && (kd == 1 && t == 1)) (some (pc + 1, lo, .long (f i.toNatClampNeg) :: r, hp))
    | none => match mjKa h with
      | some q => mjb (kd == 2 && mj_in i (mjKl.getD q 0)) (some (pc + 1, lo, .int ((mjKb.getD q []).getD i.toNatClampNeg 0) :: r, hp))
      | none => none
    | _ => none
  | _ => none
def mj_as (kd pc : Nat) (lo : mjLo) (st : List Value) (hp : mjH) : Option mjZ := match st with
  | .int x :: .int i :: .ref h :: r => match hp[h]? with
    | some (.inl (t, n, .inl f)) => mjb (mj_in i n) (match t with
      | 0 => mjb (kd == 0) (some (pc + 1, lo, r, hp.set h (.inl (0, n, .inl (upd f i.toNatClampNeg x)))))
      | 2 => mjb (kd == 2) (some (pc + 1, lo, r, hp.set h (.inl (2, n, .inl (upd f i.toNatClampNeg (vp_nar .byte x))))))
      | 3 => mjb (kd == 2) (some (pc + 1, lo, r, hp.set h (.inl (3, n, .inl (upd f i.toNatClampNeg (vp_nar .boolean x))))))
      | _ => none)
    | _ => none
  | .long x :: .int i :: .ref h :: r => match hp[h]? with
    | some (.inl (t, n, .inr (.inl f))) => mjb (mj_in i n && (kd == 1 && t == 1)) (some (pc + 1, lo, r, hp.set h (.inl (1, n, .inr (.inl (vp_updL f i.toNatClampNeg x))))))
    | _ => none
  | _ => none
def mj_ins (I : mjI) (i : Instr) (len pc : Nat) (lo : mjLo) (st : List Value) (hp : mjH) : Option mjZ := match i with
  | .iconst n => mjb (len == 1) (some (pc + 1, lo, .int (Int32.ofInt n) :: st, hp))
  | .bipush n => mjb (len == 2) (some (pc + 2, lo, .int (Int8.ofInt n).toInt32 :: st, hp))
  | .sipush n => mjb (len == 3) (some (pc + 3, lo, .int (Int16.ofInt n).toInt32 :: st, hp))
  | .lconst n => mjb (len == 1) (some (pc + 1, lo, .long (Int64.ofNat (n : Nat)) :: st, hp))
  | .ldc n => mjb (len == 2) (mj_ldc I.2.1 n pc lo st hp)
  | .ldc2_w n => mjb (len == 3) ((mjCLr I.2.1 n).bind (fun v => some (pc + 3, lo, .long v :: st, hp)))
  | .iload_n n => mjb (len == 1) (mj_ld 0 n 1 pc lo st hp)
  | .istore_n n => mjb (len == 1) (mj_sto 0 I.2.2.2.1 n 1 pc lo st hp)
  | .iload n => mjb (len == 2) (mj_ld 0 n 2 pc lo st hp)
  | .istore n => mjb (len == 2) (mj_sto 0 I.2.2.2.1 n 2 pc lo st hp)
  | .lload_n n => mjb (len == 1) (mj_ld 1 n 1 pc lo st hp)
  | .lstore_n n => mjb (len == 1) (mj_sto 1 I.2.2.2.1 n 1 pc lo st hp)
  | .lload n => mjb (len == 2) (mj_ld 1 n 2 pc lo st hp)
  | .lstore n => mjb (len == 2) (mj_sto 1 I.2.2.2.1 n 2 pc lo st hp)
  | .aload_n n => mjb (len == 1) (mj_ld 2 n 1 pc lo st hp)
  | .astore_n n => mjb (len == 1) (mj_sto 2 I.2.2.2.1 n 1 pc lo st hp)
  | .aload n => mjb (len == 2) (mj_ld 2 n 2 pc lo st hp)
  | .astore n => mjb (len == 2) (mj_sto 2 I.2.2.2.1 n 2 pc lo st hp)
  | .iadd => mjb (len == 1) (mj_ii (fun x y => x + y) pc lo st hp)
  | .isub => mjb (len == 1) (mj_ii (fun x y => x - y) pc lo st hp)
  | .imul => mjb (len == 1) (mj_ii (fun x y => x * y) pc lo st hp)
  | .iand => mjb (len == 1) (mj_ii (fun x y => x &&& y) pc lo st hp)
  | .ior => mjb (len == 1) (mj_ii (fun x y => x ||| y) pc lo st hp)
  | .ishl => mjb (len == 1) (mj_ii (fun x y => x <<< (y &&& 31)) pc lo st hp)
  | .ishr => mjb (len == 1) (mj_ii (fun x y => x >>> (y &&& 31)) pc lo st hp)
  | .idiv => mjb (len == 1) (match st with
    | .int y :: .int x :: r => mjb (!decide (y = 0)) (some (pc + 1, lo, .int ((fun x y => x / y) x y) :: r, hp))
    | _ => none)
  | .irem => mjb (len == 1) (match st with
    | .int y :: .int x :: r => mjb (!decide (y = 0)) (some (pc + 1, lo, .int ((fun x y => x - x / y * y) x y) :: r, hp))
    | _ => none)
  | .ladd => mjb (len == 1) (mj_ll (fun x y => .long (x + y)) pc lo st hp)
  | .lmul => mjb (len == 1) (mj_ll (fun x y => .long (x * y)) pc lo st hp)
  | .land => mjb (len == 1) (mj_ll (fun x y => .long (x &&& y)) pc lo st hp)
  | .lor => mjb (len == 1) (mj_ll (fun x y => .long (x ||| y)) pc lo st hp)
  | .lcmp => mjb (len == 1) (mj_ll (fun x y => .int (lg_cmp x y)) pc lo st hp)
  | .lshl => mjb (len == 1) (mj_lsh (fun x y => x <<< (y.toInt64 &&& 63)) pc lo st hp)
  | .lshr => mjb (len == 1) (mj_lsh (fun x y => x >>> (y.toInt64 &&& 63)) pc lo st hp)
  | .ineg => mjb (len == 1) (mj_i (fun x => .int (-x)) pc lo st hp)
  | .i2l => mjb (len == 1) (mj_i (fun x => .long x.toInt64) pc lo st hp)
  | .i2b => mjb (len == 1) (mj_i (fun x => .int x.toInt8.toInt32) pc lo st hp)
  | .i2c => mjb (len == 1) (mj_i (fun x => .int (x.toUInt32 % 65536).toInt32) pc lo st hp)
  | .l2i => mjb (len == 1) (match st with
    | .long x :: r => some (pc + 1, lo, .int x.toInt32 :: r, hp)
    | _ => none)
  | .dup => mjb (len == 1) (match st with
    | v :: r => mjb (v.category == 1) (some (pc + 1, lo, v :: v :: r, hp))
    | _ => none)
  | .pop => mjb (len == 1) (match st with
    | v :: r => mjb (v.category == 1) (some (pc + 1, lo, r, hp))
    | _ => none)
  | .dup2 => mjb (len == 1) (match st with
    | v :: u :: r => mjb (v.category == 1 && u.category == 1) (some (pc + 1, lo, v :: u :: v :: u :: r, hp))
    | _ => none)
  | .goto off => mjb (len == 3) (mj_br true pc off lo st hp)
  | .iinc n z => mjb (len == 3) (match lo[n]? with
    | some (some (.int x)) => mjb (decide (n < I.2.2.2.1)) (some (pc + 3, mjS1 lo n (.int (x + Int32.ofInt z)), st, hp))
    | _ => none)
  | .ifCond cd off => mjb (len == 3) (match st with
    | .int x :: r => mj_br (mjCmp cd x 0) pc off lo r hp
    | _ => none)
  | .if_icmp cd off => mjb (len == 3) (match st with
    | .int y :: .int x :: r => mj_br (mjCmp cd x y) pc off lo r hp
    | _ => none)
  | .lookupswitch dflt ps => match st with
    | .int x :: r => mj_sw x.toInt pc (.lookupswitch dflt ps) lo r hp
    | _ => none
  | .tableswitch dflt lw hi offs => match st with
    | .int x :: r => mj_sw x.toInt pc (.tableswitch dflt lw hi offs) lo r hp
    | _ => none
  | .getfield n => mjb (len == 3) (mj_get I.2.1 n pc lo st hp)
  | .putfield n => mjb (len == 3) (mj_put I n pc lo st hp)
  | .iaload => mjb (len == 1) (mj_al 0 pc lo st hp)
  | .laload => mjb (len == 1) (mj_al 1 pc lo st hp)
  | .baload => mjb (len == 1) (mj_al 2 pc lo st hp)
  | .iastore => mjb (len == 1) (mj_as 0 pc lo st hp)
  | .lastore => mjb (len == 1) (mj_as 1 pc lo st hp)
  | .bastore => mjb (len == 1) (mj_as 2 pc lo st hp)
  | .getstatic n => mjb (len == 3) (mj_gst I.2.1 n pc lo st hp)
  | .arraylength => mjb (len == 1) (match st with
    | .ref h :: r => match hp[h]? with
      | some (.inl (t, a)) => mjb (decide (t < 4)) (some (pc + 1, lo, .int (Int32.ofNat a.1) :: r, hp))
      | none => match mjKa h with
        | some q => some (pc + 1, lo, .int (Int32.ofNat (mjKl.getD q 0)) :: r, hp)
        | none => none
      | _ => none
    | _ => none)
  | _ => none
section MJ3
variable {X : mjX} {d C S : Nat} {I : mjI} {Post : Option Value → mjH → Prop} {pc : Nat} {lo : mjLo} {st : List Value} {hp : mjH} {kc ks : Nat} {z : mjZ}
theorem mj_ifc_ok {cd : Jvm.ClassFile.Cond} {off : Int} {x : Int32} {tgt : Nat} (hd : decode I.2.2.1 pc = .ok (.ifCond cd off, 3)) (ht : (pc : Int) + off = (tgt : Int)) (k : mjG X d C S I Post (match mjCmp cd x 0 with
  | true => tgt
  | false => pc + 3) lo st hp kc ks) : mjG X d C S I Post pc lo (.int x :: st) hp kc ks := by
  cases cd
  · refine mjr_if_eq hd ht (fun c => ?_) (fun c => ?_) <;> simpa [mjCmp, c] using k
  · refine mjr_if_ne hd ht (fun c => ?_) (fun c => ?_) <;> simpa [mjCmp, c] using k
  · refine mjr_if_lt hd ht (fun c => ?_) (fun c => ?_) <;> simpa [mjCmp, c] using k
  · refine mjr_if_ge hd ht (fun c => ?_) (fun c => ?_) <;> simpa [mjCmp, c] using k
  · refine mjr_if_gt hd ht (fun c => ?_) (fun c => ?_) <;> simpa [mjCmp, c] using k
  · refine mjr_if_le hd ht (fun c => ?_) (fun c => ?_) <;> simpa [mjCmp, c] using k
theorem mj_icm_ok {cd : Jvm.ClassFile.Cond} {off : Int} {x y : Int32} {tgt : Nat} (hd : decode I.2.2.1 pc = .ok (.if_icmp cd off, 3)) (ht : (pc : Int) + off = (tgt : Int)) (k : mjG X d C S I Post (match mjCmp cd x y with
  | true => tgt
  | false => pc + 3) lo st hp kc ks) : mjG X d C S I Post pc lo (.int y :: .int x :: st) hp kc ks := by
  cases cd
  · refine mjr_icmp_eq hd ht (fun c => ?_) (fun c => ?_) <;> simpa [mjCmp, c] using k
  · refine mjr_icmp_ne hd ht (fun c => ?_) (fun c => ?_) <;> simpa [mjCmp, c] using k
  · refine mjr_icmp_lt hd ht (fun c => ?_) (fun c => ?_) <;> simpa [mjCmp, c] using k
  · refine mjr_icmp_ge hd ht (fun c => ?_) (fun c => ?_) <;> simpa [mjCmp, c] using k
  · refine mjr_icmp_gt hd ht (fun c => ?_) (fun c => ?_) <;> simpa [mjCmp, c] using k
  · refine mjr_icmp_le hd ht (fun c => ?_) (fun c => ?_) <;> simpa [mjCmp, c] using k
theorem mj_tab_ok {dflt lw hi : Int} {offs : Array Int} {len : Nat} {x : Int32} (hd : decode I.2.2.1 pc = .ok (.tableswitch dflt lw hi offs, len)) (h : mj_sw x.toInt pc (.tableswitch dflt lw hi offs) lo st hp = some z) (k : mjG X d C S I Post z.1 z.2.1 z.2.2.1 z.2.2.2 kc ks) : mjG X d C S I Post pc lo (.int x :: st) hp kc ks := by
  unfold mj_sw at h
  dsimp only at h
  split at h
  · next hb =>
    obtain ⟨a, h1x⟩ := mjb_some h
    cases h1x
    refine mjr_tableOut hd ?_ (Int.toNat_of_nonneg (by simpa using a)).symm k
    simpa using hb
  · next hb =>
    simp only [Bool.or_eq_false_iff, decide_eq_false_iff_not] at hb
    split at h
    · next off ho =>
      obtain ⟨a, h1x⟩ := mjb_some h
      cases h1x
      exact mjr_tableIn hd hb.1 hb.2 ho (Int.toNat_of_nonneg (by simpa using a)).symm k
    · cases h
theorem mj_ldc_ok {idx : Nat} (hd : decode I.2.2.1 pc = .ok (.ldc idx, 2)) (h : mj_ldc I.2.1 idx pc lo st hp = some z) (k : mjG X d C S I Post z.1 z.2.1 z.2.2.1 z.2.2.2 kc ks) : mjG X d C S I Post pc lo st hp kc ks := by
  unfold mj_ldc at h
  split at h
  · next v hv => cases h; exact mjr_ldc hd hv k
  · split at h
    · next i hi => cases h; exact mjr_ldcS hd hi k
    · cases h
theorem mj_getS_ok {idx q : Nat} (hd : decode I.2.2.1 pc = .ok (.getfield idx, 3)) (h : mj_getS I.2.1 idx pc q lo st hp = some z) (k : mjG X d C S I Post z.1 z.2.1 z.2.2.1 z.2.2.2 kc ks) : mjG X d C S I Post pc lo (.ref q :: st) hp kc ks := by
  unfold mj_getS at h
  split at h
  · next i hi =>
    obtain ⟨hi2, rfl⟩ := mjKi_ok hi
    obtain ⟨a, g⟩ := mjb_some h
    have hcn : I.2.1 = 17 := by simpa using a
    split at g
    · cases g; exact mjr_getS_value hi2 hcn hd k
    · cases g; exact mjr_getS_coder hi2 hcn hd k
    · cases g
  · cases h
theorem mj_gst_ok {idx : Nat} (hd : decode I.2.2.1 pc = .ok (.getstatic idx, 3)) (h : mj_gst I.2.1 idx pc lo st hp = some z) (k : mjG X d C S I Post z.1 z.2.1 z.2.2.1 z.2.2.2 kc ks) : mjG X d C S I Post pc lo st hp kc ks := by
  unfold mj_gst at h
  obtain ⟨a, g⟩ := mjb_some h
  have hcn : I.2.1 = 17 := by simpa using a
  split at g
  · cases g; exact mjr_gets1 hcn hd k
  · cases g; exact mjr_gets2 hcn hd k
  · cases g
theorem mj_get_ok {idx : Nat} (hd : decode I.2.2.1 pc = .ok (.getfield idx, 3)) (h : mj_get I.2.1 idx pc lo st hp = some z) (k : mjG X d C S I Post z.1 z.2.1 z.2.2.1 z.2.2.2 kc ks) : mjG X d C S I Post pc lo st hp kc ks := by
  unfold mj_get at h
  split at h
  · next g r =>
    split at h
    · next ci j hf =>
      split at h
      · next c2 fs hx =>
        split at h
        · next v hv =>
          obtain ⟨a, h1x⟩ := mjb_some h
          have : c2 = ci := by simpa using a
          subst this
          cases h1x
          exact mjr_getfield hd hf hx hv k
        · cases h
      · cases h
    · exact mj_getS_ok hd h k
  · cases h
theorem mj_put_ok {idx : Nat} (hd : decode I.2.2.1 pc = .ok (.putfield idx, 3)) (h : mj_put I idx pc lo st hp = some z) (k : mjG X d C S I Post z.1 z.2.1 z.2.2.1 z.2.2.2 kc ks) : mjG X d C S I Post pc lo st hp kc ks := by
  unfold mj_put at h
  split at h
  · next v g r =>
    split at h
    · next ci j hf =>
      split at h
      · next c2 fs hx =>
        obtain ⟨a, h1x⟩ := mjb_some h
        simp only [Bool.and_eq_true, Bool.or_eq_true, beq_iff_eq, decide_eq_true_eq, Bool.not_eq_true'] at a
        obtain ⟨⟨⟨rfl, a2⟩, a3⟩, a4⟩ := a
        cases h1x
        exact mjr_putfield hd hf hx a2 a3 (mj_fit_ok a4).1 (mj_fit_ok a4).2 k
      · cases h
    · cases h
  · cases h
theorem mj_al0_ok (hd : decode I.2.2.1 pc = .ok (.iaload, 1)) (h : mj_al 0 pc lo st hp = some z) (k : mjG X d C S I Post z.1 z.2.1 z.2.2.1 z.2.2.2 kc ks) : mjG X d C S I Post pc lo st hp kc ks := by
  unfold mj_al at h
  split at h
  · next i g r =>
    split at h
    · next t n f hx =>
      obtain ⟨a, h1x⟩ := mjb_some h
      simp at a
      obtain ⟨a1, rfl⟩ := a
      cases h1x
      exact mjr_iaload hd hx (mj_in_ok a1) k
    · next t n f hx =>
      obtain ⟨a, h1x⟩ := mjb_some h
      simp at a
    · next hx =>
      split at h
      · next q hq =>
        obtain ⟨a, g⟩ := mjb_some h
        simp at a
      · cases h
    · cases h
  · cases h
theorem mj_al1_ok (hd : decode I.2.2.1 pc = .ok (.laload, 1)) (h : mj_al 1 pc lo st hp = some z) (k : mjG X d C S I Post z.1 z.2.1 z.2.2.1 z.2.2.2 kc ks) : mjG X d C S I Post pc lo st hp kc ks := by
  unfold mj_al at h
  split at h
  · next i g r =>
    split at h
    · next t n f hx =>
      obtain ⟨a, h1x⟩ := mjb_some h
      simp at a
    · next t n f hx =>
      obtain ⟨a, h1x⟩ := mjb_some h
      simp at a
      obtain ⟨a1, rfl⟩ := a
      cases h1x
      exact mjr_laload hd hx (mj_in_ok a1) k
    · next hx =>
      split at h
      · next q hq =>
        obtain ⟨a, g⟩ := mjb_some h
        simp at a
      · cases h
    · cases h
  · cases h
theorem mj_al2_ok (hd : decode I.2.2.1 pc = .ok (.baload, 1)) (h : mj_al 2 pc lo st hp = some z) (k : mjG X d C S I Post z.1 z.2.1 z.2.2.1 z.2.2.2 kc ks) : mjG X d C S I Post pc lo st hp kc ks := by
  unfold mj_al at h
  split at h
  · next i g r =>
    split at h
    · next t n f hx =>
      obtain ⟨a, h1x⟩ := mjb_some h
      simp at a
      obtain ⟨a1, a2⟩ := a
      cases h1x
      rcases a2 with rfl | rfl
      · exact mjr_baload_b hd hx (mj_in_ok a1) k
      · exact mjr_baload_z hd hx (mj_in_ok a1) k
    · next t n f hx =>
      obtain ⟨a, h1x⟩ := mjb_some h
      simp at a
    · next hx =>
      split at h
      · next q hq =>
        obtain ⟨a, g⟩ := mjb_some h
        simp only [Bool.and_eq_true] at a
        obtain ⟨hq2, rfl⟩ := mjKa_ok hq
        cases g
        exact mjr_baloadS hq2 hd (mj_in_ok a.2) k
      · cases h
    · cases h
  · cases h
theorem mj_as0_ok (hd : decode I.2.2.1 pc = .ok (.iastore, 1)) (h : mj_as 0 pc lo st hp = some z) (k : mjG X d C S I Post z.1 z.2.1 z.2.2.1 z.2.2.2 kc ks) : mjG X d C S I Post pc lo st hp kc ks := by
  unfold mj_as at h
  split at h
  · next x i g r =>
    split at h
    · next t n f hx =>
      obtain ⟨a, h1x⟩ := mjb_some h
      split at h1x
      · obtain ⟨-, h2x⟩ := mjb_some h1x
        cases h2x
        exact mjr_iastore hd hx (mj_in_ok a) k
      · obtain ⟨b, h2x⟩ := mjb_some h1x
        simp at b
      · obtain ⟨b, h2x⟩ := mjb_some h1x
        simp at b
      · cases h1x
    · cases h
  · next x i g r =>
    split at h
    · next t n f hx =>
      obtain ⟨a, h1x⟩ := mjb_some h
      simp at a
    · cases h
  · cases h
theorem mj_as2_ok (hd : decode I.2.2.1 pc = .ok (.bastore, 1)) (h : mj_as 2 pc lo st hp = some z) (k : mjG X d C S I Post z.1 z.2.1 z.2.2.1 z.2.2.2 kc ks) : mjG X d C S I Post pc lo st hp kc ks := by
  unfold mj_as at h
  split at h
  · next x i g r =>
    split at h
    · next t n f hx =>
      obtain ⟨a, h1x⟩ := mjb_some h
      split at h1x
      · obtain ⟨b, h2x⟩ := mjb_some h1x
        simp at b
      · obtain ⟨-, h2x⟩ := mjb_some h1x
        cases h2x
        exact mjr_bastore_b hd hx (mj_in_ok a) k
      · obtain ⟨-, h2x⟩ := mjb_some h1x
        cases h2x
        exact mjr_bastore_z hd hx (mj_in_ok a) k
      · cases h1x
    · cases h
  · next x i g r =>
    split at h
    · next t n f hx =>
      obtain ⟨a, h1x⟩ := mjb_some h
      simp at a
    · cases h
  · cases h
theorem mj_as1_ok (hd : decode I.2.2.1 pc = .ok (.lastore, 1)) (h : mj_as 1 pc lo st hp = some z) (k : mjG X d C S I Post z.1 z.2.1 z.2.2.1 z.2.2.2 kc ks) : mjG X d C S I Post pc lo st hp kc ks := by
  unfold mj_as at h
  split at h
  · next x i g r =>
    split at h
    · next t n f hx =>
      obtain ⟨a, h1x⟩ := mjb_some h
      split at h1x
      · obtain ⟨b, h2x⟩ := mjb_some h1x
        simp at b
      · obtain ⟨b, h2x⟩ := mjb_some h1x
        simp at b
      · obtain ⟨b, h2x⟩ := mjb_some h1x
        simp at b
      · cases h1x
    · cases h
  · next x i g r =>
    split at h
    · next t n f hx =>
      obtain ⟨a, h1x⟩ := mjb_some h
      simp at a
      obtain ⟨a1, rfl⟩ := a
      cases h1x
      exact mjr_lastore hd hx (mj_in_ok a1) k
    · cases h
  · cases h
set_option maxHeartbeats 4000000 in
theorem mj_ins_ok {i : Instr} {len : Nat} (hd : decode I.2.2.1 pc = .ok (i, len)) (h : mj_ins I i len pc lo st hp = some z) (k : mjG X d C S I Post z.1 z.2.1 z.2.2.1 z.2.2.2 kc ks) : mjG X d C S I Post pc lo st hp kc ks := by
  cases i with
  | iconst n => obtain ⟨rfl, g⟩ := mj_l1 h; cases g; exact mjr_iconst hd k
  | bipush n => obtain ⟨rfl, g⟩ := mj_l1 h; cases g; exact mjr_bipush hd k
  | sipush n => obtain ⟨rfl, g⟩ := mj_l1 h; cases g; exact mjr_sipush hd k
  | lconst n => obtain ⟨rfl, g⟩ := mj_l1 h; cases g; exact mjr_lconst hd k
  | ldc n => obtain ⟨rfl, g⟩ := mj_l1 h; exact mj_ldc_ok hd g k
  | ldc2_w n => obtain ⟨rfl, g⟩ := mj_l1 h; obtain ⟨v, hv, g2⟩ := Option.bind_eq_some_iff.mp g; cases g2; exact mjr_ldc2 hd hv k
  | iload_n n => obtain ⟨rfl, g⟩ := mj_l1 h; rcases mj_ld_some g with ⟨a, x, hx, hz⟩ | ⟨a, x, hx, hz⟩ | ⟨a, x, hx, hz⟩ <;> first | (exact absurd a (by decide)) | (cases hz; exact mjr_iload_n hd hx k)
  | istore_n n => obtain ⟨rfl, g⟩ := mj_l1 h; rcases mj_sto_some g with ⟨a, b, x, r, rfl, hz⟩ | ⟨a, b, x, r, rfl, hz⟩ | ⟨a, b, x, r, rfl, hz⟩ <;> first | (exact absurd a (by decide)) | (cases hz; exact mjr_istore_n hd b k)
  | iload n => obtain ⟨rfl, g⟩ := mj_l1 h; rcases mj_ld_some g with ⟨a, x, hx, hz⟩ | ⟨a, x, hx, hz⟩ | ⟨a, x, hx, hz⟩ <;> first | (exact absurd a (by decide)) | (cases hz; exact mjr_iload hd hx k)
  | istore n => obtain ⟨rfl, g⟩ := mj_l1 h; rcases mj_sto_some g with ⟨a, b, x, r, rfl, hz⟩ | ⟨a, b, x, r, rfl, hz⟩ | ⟨a, b, x, r, rfl, hz⟩ <;> first | (exact absurd a (by decide)) | (cases hz; exact mjr_istore hd b k)
  | lload_n n => obtain ⟨rfl, g⟩ := mj_l1 h; rcases mj_ld_some g with ⟨a, x, hx, hz⟩ | ⟨a, x, hx, hz⟩ | ⟨a, x, hx, hz⟩ <;> first | (exact absurd a (by decide)) | (cases hz; exact mjr_lload_n hd hx k)
  | lstore_n n => obtain ⟨rfl, g⟩ := mj_l1 h; rcases mj_sto_some g with ⟨a, b, x, r, rfl, hz⟩ | ⟨a, b, x, r, rfl, hz⟩ | ⟨a, b, x, r, rfl, hz⟩ <;> first | (exact absurd a (by decide)) | (cases hz; exact mjr_lstore_n hd b k)
  | lload n => obtain ⟨rfl, g⟩ := mj_l1 h; rcases mj_ld_some g with ⟨a, x, hx, hz⟩ | ⟨a, x, hx, hz⟩ | ⟨a, x, hx, hz⟩ <;> first | (exact absurd a (by decide)) | (cases hz; exact mjr_lload hd hx k)
  | lstore n => obtain ⟨rfl, g⟩ := mj_l1 h; rcases mj_sto_some g with ⟨a, b, x, r, rfl, hz⟩ | ⟨a, b, x, r, rfl, hz⟩ | ⟨a, b, x, r, rfl, hz⟩ <;> first | (exact absurd a (by decide)) | (cases hz; exact mjr_lstore hd b k)
  | aload_n n => obtain ⟨rfl, g⟩ := mj_l1 h; rcases mj_ld_some g with ⟨a, x, hx, hz⟩ | ⟨a, x, hx, hz⟩ | ⟨a, x, hx, hz⟩ <;> first | (exact absurd a (by decide)) | (cases hz; exact mjr_aload_n hd hx k)
  | astore_n n => obtain ⟨rfl, g⟩ := mj_l1 h; rcases mj_sto_some g with ⟨a, b, x, r, rfl, hz⟩ | ⟨a, b, x, r, rfl, hz⟩ | ⟨a, b, x, r, rfl, hz⟩ <;> first | (exact absurd a (by decide)) | (cases hz; exact mjr_astore_n hd b k)
  | aload n => obtain ⟨rfl, g⟩ := mj_l1 h; rcases mj_ld_some g with ⟨a, x, hx, hz⟩ | ⟨a, x, hx, hz⟩ | ⟨a, x, hx, hz⟩ <;> first | (exact absurd a (by decide)) | (cases hz; exact mjr_aload hd hx k)
  | astore n => obtain ⟨rfl, g⟩ := mj_l1 h; rcases mj_sto_some g with ⟨a, b, x, r, rfl, hz⟩ | ⟨a, b, x, r, rfl, hz⟩ | ⟨a, b, x, r, rfl, hz⟩ <;> first | (exact absurd a (by decide)) | (cases hz; exact mjr_astore hd b k)
  | iadd => obtain ⟨rfl, g⟩ := mj_l1 h; obtain ⟨x, y, r, rfl, hz⟩ := mj_ii_some g; cases hz; exact mjr_iadd hd k
  | isub => obtain ⟨rfl, g⟩ := mj_l1 h; obtain ⟨x, y, r, rfl, hz⟩ := mj_ii_some g; cases hz; exact mjr_isub hd k
  | imul => obtain ⟨rfl, g⟩ := mj_l1 h; obtain ⟨x, y, r, rfl, hz⟩ := mj_ii_some g; cases hz; exact mjr_imul hd k
  | iand => obtain ⟨rfl, g⟩ := mj_l1 h; obtain ⟨x, y, r, rfl, hz⟩ := mj_ii_some g; cases hz; exact mjr_iand hd k
  | ior => obtain ⟨rfl, g⟩ := mj_l1 h; obtain ⟨x, y, r, rfl, hz⟩ := mj_ii_some g; cases hz; exact mjr_ior hd k
  | ishl => obtain ⟨rfl, g⟩ := mj_l1 h; obtain ⟨x, y, r, rfl, hz⟩ := mj_ii_some g; cases hz; exact mjr_ishl hd k
  | ishr => obtain ⟨rfl, g⟩ := mj_l1 h; obtain ⟨x, y, r, rfl, hz⟩ := mj_ii_some g; cases hz; exact mjr_ishr hd k
  | idiv =>
    obtain ⟨rfl, g⟩ := mj_l1 h
    split at g
    · next y x r => (obtain ⟨a, g2⟩ := mjb_some g; cases g2; exact mjr_idiv hd (by simpa using a) k)
    · cases g
  | irem =>
    obtain ⟨rfl, g⟩ := mj_l1 h
    split at g
    · next y x r => (obtain ⟨a, g2⟩ := mjb_some g; cases g2; exact mjr_irem hd (by simpa using a) k)
    · cases g
  | ladd => obtain ⟨rfl, g⟩ := mj_l1 h; obtain ⟨x, y, r, rfl, hz⟩ := mj_ll_some g; cases hz; exact mjr_ladd hd k
  | lmul => obtain ⟨rfl, g⟩ := mj_l1 h; obtain ⟨x, y, r, rfl, hz⟩ := mj_ll_some g; cases hz; exact mjr_lmul hd k
  | land => obtain ⟨rfl, g⟩ := mj_l1 h; obtain ⟨x, y, r, rfl, hz⟩ := mj_ll_some g; cases hz; exact mjr_land hd k
  | lor => obtain ⟨rfl, g⟩ := mj_l1 h; obtain ⟨x, y, r, rfl, hz⟩ := mj_ll_some g; cases hz; exact mjr_lor hd k
  | lcmp => obtain ⟨rfl, g⟩ := mj_l1 h; obtain ⟨x, y, r, rfl, hz⟩ := mj_ll_some g; cases hz; exact mjr_lcmp hd k
  | lshl => obtain ⟨rfl, g⟩ := mj_l1 h; obtain ⟨x, y, r, rfl, hz⟩ := mj_lsh_some g; cases hz; exact mjr_lshl hd k
  | lshr => obtain ⟨rfl, g⟩ := mj_l1 h; obtain ⟨x, y, r, rfl, hz⟩ := mj_lsh_some g; cases hz; exact mjr_lshr hd k
  | ineg => obtain ⟨rfl, g⟩ := mj_l1 h; obtain ⟨x, r, rfl, hz⟩ := mj_i_some g; cases hz; exact mjr_ineg hd k
  | i2l => obtain ⟨rfl, g⟩ := mj_l1 h; obtain ⟨x, r, rfl, hz⟩ := mj_i_some g; cases hz; exact mjr_i2l hd k
  | i2b => obtain ⟨rfl, g⟩ := mj_l1 h; obtain ⟨x, r, rfl, hz⟩ := mj_i_some g; cases hz; exact mjr_i2b hd k
  | i2c => obtain ⟨rfl, g⟩ := mj_l1 h; obtain ⟨x, r, rfl, hz⟩ := mj_i_some g; cases hz; exact mjr_i2c hd k
  | l2i =>
    obtain ⟨rfl, g⟩ := mj_l1 h
    split at g
    · next x r => (cases g; exact mjr_l2i hd k)
    · cases g
  | dup =>
    obtain ⟨rfl, g⟩ := mj_l1 h
    split at g
    · next v r => (obtain ⟨a, g2⟩ := mjb_some g; cases g2; exact mjr_dup hd (by simpa using a) k)
    · cases g
  | pop =>
    obtain ⟨rfl, g⟩ := mj_l1 h
    split at g
    · next v r => (obtain ⟨a, g2⟩ := mjb_some g; cases g2; exact mjr_pop hd (by simpa using a) k)
    · cases g
  | dup2 =>
    obtain ⟨rfl, g⟩ := mj_l1 h
    split at g
    · next v u r => (obtain ⟨a, g2⟩ := mjb_some g; simp only [Bool.and_eq_true, beq_iff_eq] at a; cases g2; exact mjr_dup2 hd a.1 a.2 k)
    · cases g
  | goto off => obtain ⟨rfl, g⟩ := mj_l1 h; obtain ⟨a, g2⟩ := mjb_some g; cases g2; exact mjr_goto hd (Int.toNat_of_nonneg (by simpa using a)).symm k
  | iinc n z =>
    obtain ⟨rfl, g⟩ := mj_l1 h
    split at g
    · next x hx => (obtain ⟨a, g2⟩ := mjb_some g; cases g2; exact mjr_iinc hd hx (by simpa using a) k)
    · cases g
  | ifCond cd off =>
    obtain ⟨rfl, g⟩ := mj_l1 h
    split at g
    · next x r => (obtain ⟨a, g2⟩ := mjb_some g; have ht := (Int.toNat_of_nonneg (show (0 : Int) ≤ (pc : Int) + off by simpa using a)).symm; cases g2; exact mj_ifc_ok hd ht k)
    · cases g
  | if_icmp cd off =>
    obtain ⟨rfl, g⟩ := mj_l1 h
    split at g
    · next y x r => (obtain ⟨a, g2⟩ := mjb_some g; have ht := (Int.toNat_of_nonneg (show (0 : Int) ≤ (pc : Int) + off by simpa using a)).symm; cases g2; exact mj_icm_ok hd ht k)
    · cases g
  | lookupswitch dflt ps =>
    simp only [mj_ins] at h
    split at h
    · next x r => (obtain ⟨a, g2⟩ := mjb_some h; simp only [Bool.and_eq_true, decide_eq_true_eq] at a; cases g2; exact mjr_lookup hd a.1 (Int.toNat_of_nonneg a.2).symm k)
    · cases h
  | tableswitch dflt lw hi offs =>
    simp only [mj_ins] at h
    split at h
    · next x r => exact mj_tab_ok hd h k
    · cases h
  | getfield n => obtain ⟨rfl, g⟩ := mj_l1 h; exact mj_get_ok hd g k
  | putfield n => obtain ⟨rfl, g⟩ := mj_l1 h; exact mj_put_ok hd g k
  | iaload => obtain ⟨rfl, g⟩ := mj_l1 h; exact mj_al0_ok hd g k
  | laload => obtain ⟨rfl, g⟩ := mj_l1 h; exact mj_al1_ok hd g k
  | baload => obtain ⟨rfl, g⟩ := mj_l1 h; exact mj_al2_ok hd g k
  | iastore => obtain ⟨rfl, g⟩ := mj_l1 h; exact mj_as0_ok hd g k
  | lastore => obtain ⟨rfl, g⟩ := mj_l1 h; exact mj_as1_ok hd g k
  | bastore => obtain ⟨rfl, g⟩ := mj_l1 h; exact mj_as2_ok hd g k
  | getstatic n => obtain ⟨rfl, g⟩ := mj_l1 h; exact mj_gst_ok hd g k
  | arraylength =>
    obtain ⟨rfl, g⟩ := mj_l1 h
    split at g
    · next q r =>
      split at g
      · next t a hx =>
        obtain ⟨a, g2⟩ := mjb_some g
        cases g2
        exact mjr_arraylength hd hx (by simpa using a) k
      · next hx =>
        split at g
        · next q2 hq =>
          obtain ⟨hq2, rfl⟩ := mjKa_ok hq
          cases g
          exact mjr_alenS hq2 hd k
        · cases g
      · cases g
    · cases g
  | _ => cases h
def mj_step (I : mjI) (z : mjZ) : Option mjZ := match decode I.2.2.1 z.1 with
  | .ok (i, len) => mj_ins I i len z.1 z.2.1 z.2.2.1 z.2.2.2
  | .error _ => none
theorem mj_step_ok {z0 : mjZ} (h : mj_step I z0 = some z) (k : mjG X d C S I Post z.1 z.2.1 z.2.2.1 z.2.2.2 kc ks) : mjG X d C S I Post z0.1 z0.2.1 z0.2.2.1 z0.2.2.2 kc ks := by
  unfold mj_step at h
  split at h
  · next i len hd => exact mj_ins_ok hd h k
  · cases h
def mj_steps (I : mjI) : Nat → mjZ → Option mjZ
  | 0, z => some z
  | n + 1, z => match mj_step I z with
    | some z' => mj_steps I n z'
    | none => none
theorem mj_steps_ok (n : Nat) : ∀ {z0 : mjZ}, mj_steps I n z0 = some z → mjG X d C S I Post z.1 z.2.1 z.2.2.1 z.2.2.2 kc ks → mjG X d C S I Post z0.1 z0.2.1 z0.2.2.1 z0.2.2.2 kc ks := by
  induction n with
  | zero => intro z0 h k; cases h; exact k
  | succ n ih =>
    intro z0 h k
    unfold mj_steps at h
    split at h
    · next z' hz => exact mj_step_ok hz (ih h k)
    · cases h
end MJ3
