/-! ===== the same runs, with values worked out at each step (for the kernel) ===== -/
def fN {α : Type} (n : Nat) (k : Nat → α) : α := match n with
  | 0 => k 0
  | m + 1 => k (m + 1)
theorem fN_eq {α : Type} (n : Nat) (k : Nat → α) : fN n k = k n := by cases n <;> rfl
def fI {α : Type} (x : Int32) (k : Int32 → α) : α := fN x.toBitVec.toNat (fun n => k (Int32.ofNat n))
theorem fI_eq {α : Type} (x : Int32) (k : Int32 → α) : fI x k = k x := by
  unfold fI
  rw [fN_eq]
  congr 1
  apply Int32.toBitVec_inj.mp
  show BitVec.ofNat 32 x.toBitVec.toNat = x.toBitVec
  simp
def fJ {α : Type} (x : Int64) (k : Int64 → α) : α := fN x.toBitVec.toNat (fun n => k (Int64.ofNat n))
theorem fJ_eq {α : Type} (x : Int64) (k : Int64 → α) : fJ x k = k x := by
  unfold fJ
  rw [fN_eq]
  congr 1
  apply Int64.toBitVec_inj.mp
  show BitVec.ofNat 64 x.toBitVec.toNat = x.toBitVec
  simp
def fV {α : Type} (v : Value) (k : Value → α) : α := match v with
  | .int x => fI x (fun x => k (.int x))
  | .long x => fJ x (fun x => k (.long x))
  | .ref h => fN h (fun h => k (.ref h))
  | .null => k .null
  | .float x => k (.float x)
  | .double x => k (.double x)
  | .retAddr x => k (.retAddr x)
theorem fV_eq {α : Type} (v : Value) (k : Value → α) : fV v k = k v := by
  cases v <;> simp only [fV, fI_eq, fJ_eq, fN_eq]
def fS {α : Type} : List Value → (List Value → α) → α
  | [], k => k []
  | v :: l, k => fV v (fun v => fS l (fun l => k (v :: l)))
theorem fS_eq {α : Type} (l : List Value) : ∀ k : List Value → α, fS l k = k l := by
  induction l with
  | nil => intro k; rfl
  | cons v l ih => intro k; simp only [fS, fV_eq, ih]
def fO {α : Type} : mjLo → (mjLo → α) → α
  | [], k => k []
  | none :: l, k => fO l (fun l => k (none :: l))
  | some v :: l, k => fV v (fun v => fO l (fun l => k (some v :: l)))
theorem fO_eq {α : Type} (l : mjLo) : ∀ k : mjLo → α, fO l k = k l := by
  induction l with
  | nil => intro k; rfl
  | cons v l ih => intro k; cases v <;> simp only [fO, fV_eq, ih]
def fE {α : Type} (x : va_E) (k : va_E → α) : α := match x with
  | .inl (t, n, a) => fN t (fun t => fN n (fun n => match a with
    | .inl f => k (.inl (t, n, .inl f))
    | .inr (.inl f) => k (.inl (t, n, .inr (.inl f)))
    | .inr (.inr f) => k (.inl (t, n, .inr (.inr f)))))
  | .inr (c, fs) => fN c (fun c => fS fs (fun fs => k (.inr (c, fs))))
theorem fE_eq {α : Type} (x : va_E) (k : va_E → α) : fE x k = k x := by
  match x with
  | .inl (t, n, .inl f) => simp only [fE, fN_eq]
  | .inl (t, n, .inr (.inl f)) => simp only [fE, fN_eq]
  | .inl (t, n, .inr (.inr f)) => simp only [fE, fN_eq]
  | .inr (c, fs) => simp only [fE, fN_eq, fS_eq]
def fH {α : Type} : mjH → (mjH → α) → α
  | [], k => k []
  | x :: l, k => fE x (fun x => fH l (fun l => k (x :: l)))
theorem fH_eq {α : Type} (l : mjH) : ∀ k : mjH → α, fH l k = k l := by
  induction l with
  | nil => intro k; rfl
  | cons x l ih => intro k; simp only [fH, fE_eq, ih]
def fZ {α : Type} (b : Bool) (z : mjZ) (k : mjZ → α) : α := match z with
  | (pc, lo, st, hp) => fN pc (fun pc => fO lo (fun lo => fS st (fun st => match b with
    | true => fH hp (fun hp => k (pc, lo, st, hp))
    | false => k (pc, lo, st, hp))))
theorem fZ_eq {α : Type} (b : Bool) (z : mjZ) (k : mjZ → α) : fZ b z k = k z := by
  obtain ⟨pc, lo, st, hp⟩ := z
  cases b <;> simp only [fZ, fN_eq, fO_eq, fS_eq, fH_eq]
/-- does it write? -/
def mj_wr (i : Instr) : Bool := match i with
  | .putfield _ => true
  | .iastore => true
  | .lastore => true
  | .bastore => true
  | _ => false
def mj_exF : Nat → Bool → Nat → mjI → mjZ → Nat → Nat → Option (Option Value × mjH × Nat × Nat)
  | 0, _, _, _, _, _, _ => none
  | n + 1, b, d, I, z, kc, ks => fZ b z (fun z => fN kc (fun kc => fN ks (fun ks => match decode I.2.2.1 z.1 with
    | .error _ => none
    | .ok (i, len) => match mj_ins I i len z.1 z.2.1 z.2.2.1 z.2.2.2 with
      | some z' => mj_exF n (mj_wr i) d I z' kc ks
      | none => match mj_ret I i len z.2.2.1 with
        | some r => some (r, z.2.2.2, kc, ks)
        | none => match mj_new I i len z with
          | some (z', c, s) => mj_exF n true d I z' (kc + c) (ks + s)
          | none => match mj_call I i len z.2.2.1 z.2.2.2 with
            | some (_, J, As, rest) => match d with
              | 0 => none
              | d' + 1 => match mj_exF n false d' J (0, mjLo0 As J.2.2.2.1, [], z.2.2.2) 0 0 with
                | some (r, hp', c, s) => match c == 0 || (mjWl z.2.2.2.length z.2.1 && mjWs z.2.2.2.length rest) with
                  | true => mj_exF n false (d' + 1) I (z.1 + 3, z.2.1, r.toList ++ rest, hp') (kc + c) (ks + s)
                  | false => none
                | none => none
            | none => match mj_obj I i len d z with
              | some z' => mj_exF n false d I z' kc ks
              | none => none)))
theorem mj_exF_eq (n : Nat) : ∀ (b : Bool) (d : Nat) (I : mjI) (z : mjZ) (kc ks : Nat), mj_exF n b d I z kc ks = mj_ex n d I z kc ks := by
  induction n with
  | zero => intros; rfl
  | succ n ih =>
    intro b d I z kc ks
    simp only [mj_exF, mj_ex, fZ_eq, fN_eq, ih]
    rfl
def mj_oneF (f d : Nat) (I : mjI) (z : mjZ) : Option (mjZ × Nat × Nat) := match decode I.2.2.1 z.1 with
  | .error _ => none
  | .ok (i, len) => match mj_ins I i len z.1 z.2.1 z.2.2.1 z.2.2.2 with
    | some z' => some (z', 0, 0)
    | none => match mj_new I i len z with
      | some x => some x
      | none => match mj_call I i len z.2.2.1 z.2.2.2 with
        | some (_, J, As, rest) => match d with
          | 0 => none
          | d' + 1 => match mj_exF f true d' J (0, mjLo0 As J.2.2.2.1, [], z.2.2.2) 0 0 with
            | some (r, hp', c, s) => match c == 0 || (mjWl z.2.2.2.length z.2.1 && mjWs z.2.2.2.length rest) with
              | true => some ((z.1 + 3, z.2.1, r.toList ++ rest, hp'), c, s)
              | false => none
            | none => none
        | none => match mj_obj I i len d z with
          | some z' => some (z', 0, 0)
          | none => none
theorem mj_oneF_eq (f d : Nat) (I : mjI) (z : mjZ) : mj_oneF f d I z = mj_one f d I z := by
  simp only [mj_oneF, mj_one, mj_exF_eq]
  rfl
def mj_goF (f d : Nat) (I : mjI) : Nat → mjZ → Nat → Nat → Option (mjZ × Nat × Nat)
  | 0, z, kc, ks => some (z, kc, ks)
  | n + 1, z, kc, ks => match mj_oneF f d I z with
    | some (z', c, s) => fZ true z' (fun z' => mj_goF f d I n z' (kc + c) (ks + s))
    | none => none
theorem mj_goF_eq (f d : Nat) (I : mjI) (n : Nat) : ∀ (z : mjZ) (kc ks : Nat), mj_goF f d I n z kc ks = mj_go f d I n z kc ks := by
  induction n with
  | zero => intros; rfl
  | succ n ih =>
    intro z kc ks
    simp only [mj_goF, mj_go, mj_oneF_eq, fZ_eq, ih]
    rfl
