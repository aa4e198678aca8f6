/-! ===== an instruction by its bytes ===== -/
noncomputable def mjSuf (l : List UInt8) : Nat → List UInt8 := List.rec (motive := fun _ => Nat → List UInt8) (fun _ => []) (fun x r ih n => Nat.casesOn (motive := fun _ => List UInt8) n (x :: r) (fun k => ih k)) l
noncomputable def mjK0 (c : ByteArray) (p o : Nat) : Bool := match mjSuf c.data.toList p with
  | x :: _ => Nat.beq x.toNat o
  | _ => false
noncomputable def mjK1 (c : ByteArray) (p o a : Nat) : Bool := match mjSuf c.data.toList p with
  | x :: y :: _ => Nat.beq x.toNat o && Nat.beq y.toNat a
  | _ => false
noncomputable def mjK2 (c : ByteArray) (p o a : Nat) : Bool := match mjSuf c.data.toList p with
  | x :: y :: z :: _ => Nat.beq x.toNat o && Nat.beq (y.toNat * 256 + z.toNat) a
  | _ => false
noncomputable def mjK3 (c : ByteArray) (p o : Nat) (v : Int) : Bool := match mjSuf c.data.toList p with
  | x :: y :: _ => Nat.beq x.toNat o && decide (Jvm.ClassFile.Reader.signed 8 y.toNat = v)
  | _ => false
noncomputable def mjK4 (c : ByteArray) (p o : Nat) (v : Int) : Bool := match mjSuf c.data.toList p with
  | x :: y :: z :: _ => Nat.beq x.toNat o && decide (Jvm.ClassFile.Reader.signed 16 (y.toNat * 256 + z.toNat) = v)
  | _ => false
noncomputable def mjK5 (c : ByteArray) (p o a : Nat) (v : Int) : Bool := match mjSuf c.data.toList p with
  | x :: y :: z :: _ => Nat.beq x.toNat o && (Nat.beq y.toNat a && decide (Jvm.ClassFile.Reader.signed 8 z.toNat = v))
  | _ => false
theorem mjSuf_0 (l : List UInt8) : mjSuf l 0 = l := by
  cases l with
  | nil => rfl
  | cons x r => rfl
theorem mjSuf_cons {x : UInt8} {r : List UInt8} : ∀ (l : List UInt8) (p : Nat), mjSuf l p = x :: r → l[p]? = some x ∧ mjSuf l (p + 1) = r := by
  intro l
  induction l with
  | nil => intro p h; cases h
  | cons y t ih =>
    intro p h
    cases p with
    | zero =>
      have h2 : y :: t = x :: r := h
      cases h2
      exact ⟨rfl, mjSuf_0 _⟩
    | succ p =>
      obtain ⟨h1, h2⟩ := ih p h
      exact ⟨by rw [List.getElem?_cons_succ]; exact h1, h2⟩
theorem mjK_and {x y : Bool} (h : (x && y) = true) : x = true ∧ y = true := by
  cases x
  · cases h
  · exact ⟨rfl, h⟩
section MJ14Z
variable {c : ByteArray} {p : Nat}
theorem mjB_u1 {x : UInt8} (ex : c.data.toList[p]? = some x) : (Jvm.ClassFile.Reader.u1 : Jvm.ClassFile.Decoder Nat) c p = .ok (x.toNat, p + 1) := by
  have e : (Jvm.ClassFile.Reader.u1 : Jvm.ClassFile.Decoder Nat) c p = (if h : p < c.size then .ok (c[p].toNat, p + 1) else .error (Jvm.ClassFile.HasTruncated.truncated p)) := by
    show (do if h : p < c.size then do set (p + 1); Pure.pure c[p].toNat else MonadExcept.throw (Jvm.ClassFile.HasTruncated.truncated p) : Jvm.ClassFile.Decoder Nat) c p = _
    by_cases hi : p < c.size
    · rw [dif_pos hi, dif_pos hi]; rfl
    · rw [dif_neg hi, dif_neg hi]; rfl
  obtain ⟨hl, hx⟩ := List.getElem?_eq_some_iff.mp ex
  have hl2 : p < c.size := by simpa using hl
  rw [e, dif_pos hl2, ← hx]
  rfl
theorem mjB_bind {α β : Type} {r : Jvm.ClassFile.Decoder α} {f : α → Jvm.ClassFile.Decoder β} {a : α} {q : Nat} (h : r c p = .ok (a, q)) : (r >>= f) c p = f a c q := by
  have e : (r >>= f) c p = (match r c p with | .error e => Except.error e | .ok (a, s) => f a c s) := by
    show (do let (a, s) ← r c p; f a c s : Except Jvm.ClassFile.DecodeError (β × Nat)) = _
    cases r c p <;> rfl
  rw [h] at e
  exact e
theorem mjB_map {α β : Type} {r : Jvm.ClassFile.Decoder α} {g : α → β} {a : α} {q : Nat} (h : r c p = .ok (a, q)) : (g <$> r : Jvm.ClassFile.Decoder β) c p = .ok (g a, q) := by
  have e : (g <$> r : Jvm.ClassFile.Decoder β) c p = (match r c p with | .error e => Except.error e | .ok (a, s) => Except.ok (g a, s)) := by
    show (do let (a, s) ← r c p; .ok (g a, s) : Except Jvm.ClassFile.DecodeError (β × Nat)) = _
    cases r c p <;> rfl
  rw [h] at e
  exact e
theorem mjB_u2 {x y : UInt8} (h : c.data.toList[p]? = some x) (h2 : c.data.toList[p + 1]? = some y) : (Jvm.ClassFile.Reader.u2 : Jvm.ClassFile.Decoder Nat) c p = .ok (x.toNat * 256 + y.toNat, p + 1 + 1) := by
  show ((Jvm.ClassFile.Reader.u1 : Jvm.ClassFile.Decoder Nat) >>= fun (v : Nat) => ((Jvm.ClassFile.Reader.u1 : Jvm.ClassFile.Decoder Nat) >>= fun (w : Nat) => (Pure.pure (v * 256 + w) : Jvm.ClassFile.Decoder Nat))) c p = _
  have e1 := mjB_bind (f := fun (v : Nat) => ((Jvm.ClassFile.Reader.u1 : Jvm.ClassFile.Decoder Nat) >>= fun (w : Nat) => (Pure.pure (v * 256 + w) : Jvm.ClassFile.Decoder Nat))) (mjB_u1 h)
  have e2 := mjB_bind (f := fun (w : Nat) => (Pure.pure (x.toNat * 256 + w) : Jvm.ClassFile.Decoder Nat)) (mjB_u1 h2)
  exact e1.trans e2
theorem mjB_s1 {x : UInt8} (h : c.data.toList[p]? = some x) : (Jvm.ClassFile.Reader.s1 : Jvm.ClassFile.Decoder Int) c p = .ok (Jvm.ClassFile.Reader.signed 8 x.toNat, p + 1) := by
  show (Jvm.ClassFile.Reader.signed 8 <$> (Jvm.ClassFile.Reader.u1 : Jvm.ClassFile.Decoder Nat) : Jvm.ClassFile.Decoder Int) c p = _
  exact mjB_map (mjB_u1 h)
theorem mjB_s2 {x y : UInt8} (h : c.data.toList[p]? = some x) (h2 : c.data.toList[p + 1]? = some y) : (Jvm.ClassFile.Reader.s2 : Jvm.ClassFile.Decoder Int) c p = .ok (Jvm.ClassFile.Reader.signed 16 (x.toNat * 256 + y.toNat), p + 1 + 1) := by
  show (Jvm.ClassFile.Reader.signed 16 <$> (Jvm.ClassFile.Reader.u2 : Jvm.ClassFile.Decoder Nat) : Jvm.ClassFile.Decoder Int) c p = _
  exact mjB_map (mjB_u2 h h2)
theorem mjB_dec {x : UInt8} {o : Nat} {f : Nat → Jvm.ClassFile.Decoder Instr} {I : Instr} {n : Nat} (hf : Jvm.ClassFile.Decoder.instr p = ((Jvm.ClassFile.Reader.u1 : Jvm.ClassFile.Decoder Nat) >>= f)) (h : c.data.toList[p]? = some x) (ho : x.toNat = o) (hr : f o c (p + 1) = .ok (I, p + n)) : decode c p = .ok (I, n) := by
  have e : decode c p = (match Jvm.ClassFile.Decoder.instr p c p with | .error e => Except.error e | .ok (i, s) => Except.ok (i, s - p)) := by
    show (do let (i, s) ← Jvm.ClassFile.Decoder.instr p c p; .ok (i, s - p) : Except Jvm.ClassFile.DecodeError (Instr × Nat)) = _
    cases Jvm.ClassFile.Decoder.instr p c p <;> rfl
  have e2 : Jvm.ClassFile.Decoder.instr p c p = .ok (I, p + n) := by
    rw [hf]
    subst ho
    exact (mjB_bind (mjB_u1 h)).trans hr
  rw [e2] at e
  refine e.trans ?_
  show Except.ok (I, p + n - p) = Except.ok (I, n)
  rw [Nat.add_sub_cancel_left]
theorem dk0 {o : Nat} {f : Nat → Jvm.ClassFile.Decoder Instr} {I : Instr} (hf : Jvm.ClassFile.Decoder.instr p = ((Jvm.ClassFile.Reader.u1 : Jvm.ClassFile.Decoder Nat) >>= f)) (hr : f o = (Pure.pure I : Jvm.ClassFile.Decoder Instr)) (h : mjK0 c p o = true) : decode c p = .ok (I, 1) := by
  unfold mjK0 at h
  split at h
  · next x1 r1 e0 =>
    refine mjB_dec hf (mjSuf_cons _ _ e0).1 (Nat.eq_of_beq_eq_true h) ?_
    rw [hr]
    exact (rfl : (Except.ok (I, p + 1) : Except Jvm.ClassFile.DecodeError (Instr × Nat)) = Except.ok (I, p + 1))
  · cases h
theorem dk1 {o a : Nat} {f : Nat → Jvm.ClassFile.Decoder Instr} {g : Nat → Instr} (hf : Jvm.ClassFile.Decoder.instr p = ((Jvm.ClassFile.Reader.u1 : Jvm.ClassFile.Decoder Nat) >>= f)) (hr : f o = ((Jvm.ClassFile.Reader.u1 : Jvm.ClassFile.Decoder Nat) >>= fun (v : Nat) => (Pure.pure (g v) : Jvm.ClassFile.Decoder Instr))) (h : mjK1 c p o a = true) : decode c p = .ok (g a, 2) := by
  unfold mjK1 at h
  split at h
  · next x1 y1 r1 e0 =>
    obtain ⟨e1, e2⟩ := mjSuf_cons _ _ e0
    obtain ⟨e2, -⟩ := mjSuf_cons _ _ e2
    obtain ⟨h1, h2⟩ := mjK_and h
    have e3 := mjB_u1 e2
    rw [Nat.eq_of_beq_eq_true h2] at e3
    refine mjB_dec hf e1 (Nat.eq_of_beq_eq_true h1) ?_
    rw [hr]
    have e4 := mjB_bind (f := fun (v : Nat) => (Pure.pure (g v) : Jvm.ClassFile.Decoder Instr)) e3
    exact e4
  · cases h
theorem dk2 {o a : Nat} {f : Nat → Jvm.ClassFile.Decoder Instr} {g : Nat → Instr} (hf : Jvm.ClassFile.Decoder.instr p = ((Jvm.ClassFile.Reader.u1 : Jvm.ClassFile.Decoder Nat) >>= f)) (hr : f o = ((Jvm.ClassFile.Reader.u2 : Jvm.ClassFile.Decoder Nat) >>= fun (v : Nat) => (Pure.pure (g v) : Jvm.ClassFile.Decoder Instr))) (h : mjK2 c p o a = true) : decode c p = .ok (g a, 3) := by
  unfold mjK2 at h
  split at h
  · next x1 y1 z1 r1 e0 =>
    obtain ⟨e1, e2⟩ := mjSuf_cons _ _ e0
    obtain ⟨e2, e3⟩ := mjSuf_cons _ _ e2
    obtain ⟨e3, -⟩ := mjSuf_cons _ _ e3
    obtain ⟨h1, h2⟩ := mjK_and h
    have e4 := mjB_u2 e2 e3
    rw [Nat.eq_of_beq_eq_true h2] at e4
    refine mjB_dec hf e1 (Nat.eq_of_beq_eq_true h1) ?_
    rw [hr]
    have e5 := mjB_bind (f := fun (v : Nat) => (Pure.pure (g v) : Jvm.ClassFile.Decoder Instr)) e4
    exact e5
  · cases h
theorem dk3 {o : Nat} {v : Int} {f : Nat → Jvm.ClassFile.Decoder Instr} {g : Int → Instr} (hf : Jvm.ClassFile.Decoder.instr p = ((Jvm.ClassFile.Reader.u1 : Jvm.ClassFile.Decoder Nat) >>= f)) (hr : f o = ((Jvm.ClassFile.Reader.s1 : Jvm.ClassFile.Decoder Int) >>= fun (w : Int) => (Pure.pure (g w) : Jvm.ClassFile.Decoder Instr))) (h : mjK3 c p o v = true) : decode c p = .ok (g v, 2) := by
  unfold mjK3 at h
  split at h
  · next x1 y1 r1 e0 =>
    obtain ⟨e1, e2⟩ := mjSuf_cons _ _ e0
    obtain ⟨e2, -⟩ := mjSuf_cons _ _ e2
    obtain ⟨h1, h2⟩ := mjK_and h
    have e3 := mjB_s1 e2
    rw [of_decide_eq_true h2] at e3
    refine mjB_dec hf e1 (Nat.eq_of_beq_eq_true h1) ?_
    rw [hr]
    have e4 := mjB_bind (f := fun (w : Int) => (Pure.pure (g w) : Jvm.ClassFile.Decoder Instr)) e3
    exact e4
  · cases h
theorem dk4 {o : Nat} {v : Int} {f : Nat → Jvm.ClassFile.Decoder Instr} {g : Int → Instr} (hf : Jvm.ClassFile.Decoder.instr p = ((Jvm.ClassFile.Reader.u1 : Jvm.ClassFile.Decoder Nat) >>= f)) (hr : f o = ((Jvm.ClassFile.Reader.s2 : Jvm.ClassFile.Decoder Int) >>= fun (w : Int) => (Pure.pure (g w) : Jvm.ClassFile.Decoder Instr))) (h : mjK4 c p o v = true) : decode c p = .ok (g v, 3) := by
  unfold mjK4 at h
  split at h
  · next x1 y1 z1 r1 e0 =>
    obtain ⟨e1, e2⟩ := mjSuf_cons _ _ e0
    obtain ⟨e2, e3⟩ := mjSuf_cons _ _ e2
    obtain ⟨e3, -⟩ := mjSuf_cons _ _ e3
    obtain ⟨h1, h2⟩ := mjK_and h
    have e4 := mjB_s2 e2 e3
    rw [of_decide_eq_true h2] at e4
    refine mjB_dec hf e1 (Nat.eq_of_beq_eq_true h1) ?_
    rw [hr]
    have e5 := mjB_bind (f := fun (w : Int) => (Pure.pure (g w) : Jvm.ClassFile.Decoder Instr)) e4
    exact e5
  · cases h
theorem dk5 {o a : Nat} {v : Int} {f : Nat → Jvm.ClassFile.Decoder Instr} {g : Nat → Int → Instr} (hf : Jvm.ClassFile.Decoder.instr p = ((Jvm.ClassFile.Reader.u1 : Jvm.ClassFile.Decoder Nat) >>= f)) (hr : f o = ((Jvm.ClassFile.Reader.u1 : Jvm.ClassFile.Decoder Nat) >>= fun (u : Nat) => ((Jvm.ClassFile.Reader.s1 : Jvm.ClassFile.Decoder Int) >>= fun (w : Int) => (Pure.pure (g u w) : Jvm.ClassFile.Decoder Instr)))) (h : mjK5 c p o a v = true) : decode c p = .ok (g a v, 3) := by
  unfold mjK5 at h
  split at h
  · next x1 y1 z1 r1 e0 =>
    obtain ⟨e1, e2⟩ := mjSuf_cons _ _ e0
    obtain ⟨e2, e3⟩ := mjSuf_cons _ _ e2
    obtain ⟨e3, -⟩ := mjSuf_cons _ _ e3
    obtain ⟨h1, h2⟩ := mjK_and h
    obtain ⟨h2, h3⟩ := mjK_and h2
    have e4 := mjB_u1 e2
    have e5 := mjB_s1 e3
    rw [Nat.eq_of_beq_eq_true h2] at e4
    rw [of_decide_eq_true h3] at e5
    refine mjB_dec hf e1 (Nat.eq_of_beq_eq_true h1) ?_
    rw [hr]
    have e6 := mjB_bind (f := fun (u : Nat) => ((Jvm.ClassFile.Reader.s1 : Jvm.ClassFile.Decoder Int) >>= fun (w : Int) => (Pure.pure (g u w) : Jvm.ClassFile.Decoder Instr))) e4
    have e7 := mjB_bind (f := fun (w : Int) => (Pure.pure (g a w) : Jvm.ClassFile.Decoder Instr)) e5
    exact e6.trans e7
  · cases h
set_option maxRecDepth 100000 in
theorem dzq_2 (h : mjK0 c p 2 = true) : decode c p = .ok (.iconst (-1), 1) := dk0 rfl rfl h
set_option maxRecDepth 100000 in
theorem dzq_3 (h : mjK0 c p 3 = true) : decode c p = .ok (.iconst 0, 1) := dk0 rfl rfl h
set_option maxRecDepth 100000 in
theorem dzq_4 (h : mjK0 c p 4 = true) : decode c p = .ok (.iconst 1, 1) := dk0 rfl rfl h
set_option maxRecDepth 100000 in
theorem dzq_5 (h : mjK0 c p 5 = true) : decode c p = .ok (.iconst 2, 1) := dk0 rfl rfl h
set_option maxRecDepth 100000 in
theorem dzq_6 (h : mjK0 c p 6 = true) : decode c p = .ok (.iconst 3, 1) := dk0 rfl rfl h
set_option maxRecDepth 100000 in
theorem dzq_7 (h : mjK0 c p 7 = true) : decode c p = .ok (.iconst 4, 1) := dk0 rfl rfl h
set_option maxRecDepth 100000 in
theorem dzq_8 (h : mjK0 c p 8 = true) : decode c p = .ok (.iconst 5, 1) := dk0 rfl rfl h
set_option maxRecDepth 100000 in
theorem dzq_16 {v : Int} (h : mjK3 c p 16 v = true) : decode c p = .ok (.bipush v, 2) := dk3 (g := fun x => .bipush x) rfl rfl h
set_option maxRecDepth 100000 in
theorem dzq_17 {v : Int} (h : mjK4 c p 17 v = true) : decode c p = .ok (.sipush v, 3) := dk4 (g := fun x => .sipush x) rfl rfl h
set_option maxRecDepth 100000 in
theorem dzq_21 {a : Nat} (h : mjK1 c p 21 a = true) : decode c p = .ok (.iload a, 2) := dk1 (g := fun x => .iload x) rfl rfl h
set_option maxRecDepth 100000 in
theorem dzq_26 (h : mjK0 c p 26 = true) : decode c p = .ok (.iload_n 0, 1) := dk0 rfl rfl h
set_option maxRecDepth 100000 in
theorem dzq_27 (h : mjK0 c p 27 = true) : decode c p = .ok (.iload_n 1, 1) := dk0 rfl rfl h
set_option maxRecDepth 100000 in
theorem dzq_28 (h : mjK0 c p 28 = true) : decode c p = .ok (.iload_n 2, 1) := dk0 rfl rfl h
set_option maxRecDepth 100000 in
theorem dzq_29 (h : mjK0 c p 29 = true) : decode c p = .ok (.iload_n 3, 1) := dk0 rfl rfl h
set_option maxRecDepth 100000 in
theorem dzq_30 (h : mjK0 c p 30 = true) : decode c p = .ok (.lload_n 0, 1) := dk0 rfl rfl h
set_option maxRecDepth 100000 in
theorem dzq_31 (h : mjK0 c p 31 = true) : decode c p = .ok (.lload_n 1, 1) := dk0 rfl rfl h
set_option maxRecDepth 100000 in
theorem dzq_32 (h : mjK0 c p 32 = true) : decode c p = .ok (.lload_n 2, 1) := dk0 rfl rfl h
set_option maxRecDepth 100000 in
theorem dzq_33 (h : mjK0 c p 33 = true) : decode c p = .ok (.lload_n 3, 1) := dk0 rfl rfl h
set_option maxRecDepth 100000 in
theorem dzq_42 (h : mjK0 c p 42 = true) : decode c p = .ok (.aload_n 0, 1) := dk0 rfl rfl h
set_option maxRecDepth 100000 in
theorem dzq_43 (h : mjK0 c p 43 = true) : decode c p = .ok (.aload_n 1, 1) := dk0 rfl rfl h
set_option maxRecDepth 100000 in
theorem dzq_44 (h : mjK0 c p 44 = true) : decode c p = .ok (.aload_n 2, 1) := dk0 rfl rfl h
set_option maxRecDepth 100000 in
theorem dzq_45 (h : mjK0 c p 45 = true) : decode c p = .ok (.aload_n 3, 1) := dk0 rfl rfl h
set_option maxRecDepth 100000 in
theorem dzq_46 (h : mjK0 c p 46 = true) : decode c p = .ok (.iaload, 1) := dk0 rfl rfl h
set_option maxRecDepth 100000 in
theorem dzq_47 (h : mjK0 c p 47 = true) : decode c p = .ok (.laload, 1) := dk0 rfl rfl h
set_option maxRecDepth 100000 in
theorem dzq_51 (h : mjK0 c p 51 = true) : decode c p = .ok (.baload, 1) := dk0 rfl rfl h
set_option maxRecDepth 100000 in
theorem dzq_54 {a : Nat} (h : mjK1 c p 54 a = true) : decode c p = .ok (.istore a, 2) := dk1 (g := fun x => .istore x) rfl rfl h
set_option maxRecDepth 100000 in
theorem dzq_59 (h : mjK0 c p 59 = true) : decode c p = .ok (.istore_n 0, 1) := dk0 rfl rfl h
set_option maxRecDepth 100000 in
theorem dzq_60 (h : mjK0 c p 60 = true) : decode c p = .ok (.istore_n 1, 1) := dk0 rfl rfl h
set_option maxRecDepth 100000 in
theorem dzq_61 (h : mjK0 c p 61 = true) : decode c p = .ok (.istore_n 2, 1) := dk0 rfl rfl h
set_option maxRecDepth 100000 in
theorem dzq_62 (h : mjK0 c p 62 = true) : decode c p = .ok (.istore_n 3, 1) := dk0 rfl rfl h
set_option maxRecDepth 100000 in
theorem dzq_79 (h : mjK0 c p 79 = true) : decode c p = .ok (.iastore, 1) := dk0 rfl rfl h
set_option maxRecDepth 100000 in
theorem dzq_87 (h : mjK0 c p 87 = true) : decode c p = .ok (.pop, 1) := dk0 rfl rfl h
set_option maxRecDepth 100000 in
theorem dzq_89 (h : mjK0 c p 89 = true) : decode c p = .ok (.dup, 1) := dk0 rfl rfl h
set_option maxRecDepth 100000 in
theorem dzq_96 (h : mjK0 c p 96 = true) : decode c p = .ok (.iadd, 1) := dk0 rfl rfl h
set_option maxRecDepth 100000 in
theorem dzq_100 (h : mjK0 c p 100 = true) : decode c p = .ok (.isub, 1) := dk0 rfl rfl h
set_option maxRecDepth 100000 in
theorem dzq_104 (h : mjK0 c p 104 = true) : decode c p = .ok (.imul, 1) := dk0 rfl rfl h
set_option maxRecDepth 100000 in
theorem dzq_132 {a : Nat} {v : Int} (h : mjK5 c p 132 a v = true) : decode c p = .ok (.iinc a v, 3) := dk5 (g := fun x y => .iinc x y) rfl rfl h
set_option maxRecDepth 100000 in
theorem dzq_153 {v : Int} (h : mjK4 c p 153 v = true) : decode c p = .ok (.ifCond .eq v, 3) := dk4 (g := fun x => .ifCond .eq x) rfl rfl h
set_option maxRecDepth 100000 in
theorem dzq_154 {v : Int} (h : mjK4 c p 154 v = true) : decode c p = .ok (.ifCond .ne v, 3) := dk4 (g := fun x => .ifCond .ne x) rfl rfl h
set_option maxRecDepth 100000 in
theorem dzq_155 {v : Int} (h : mjK4 c p 155 v = true) : decode c p = .ok (.ifCond .lt v, 3) := dk4 (g := fun x => .ifCond .lt x) rfl rfl h
set_option maxRecDepth 100000 in
theorem dzq_156 {v : Int} (h : mjK4 c p 156 v = true) : decode c p = .ok (.ifCond .ge v, 3) := dk4 (g := fun x => .ifCond .ge x) rfl rfl h
set_option maxRecDepth 100000 in
theorem dzq_157 {v : Int} (h : mjK4 c p 157 v = true) : decode c p = .ok (.ifCond .gt v, 3) := dk4 (g := fun x => .ifCond .gt x) rfl rfl h
set_option maxRecDepth 100000 in
theorem dzq_158 {v : Int} (h : mjK4 c p 158 v = true) : decode c p = .ok (.ifCond .le v, 3) := dk4 (g := fun x => .ifCond .le x) rfl rfl h
set_option maxRecDepth 100000 in
theorem dzq_159 {v : Int} (h : mjK4 c p 159 v = true) : decode c p = .ok (.if_icmp .eq v, 3) := dk4 (g := fun x => .if_icmp .eq x) rfl rfl h
set_option maxRecDepth 100000 in
theorem dzq_160 {v : Int} (h : mjK4 c p 160 v = true) : decode c p = .ok (.if_icmp .ne v, 3) := dk4 (g := fun x => .if_icmp .ne x) rfl rfl h
set_option maxRecDepth 100000 in
theorem dzq_161 {v : Int} (h : mjK4 c p 161 v = true) : decode c p = .ok (.if_icmp .lt v, 3) := dk4 (g := fun x => .if_icmp .lt x) rfl rfl h
set_option maxRecDepth 100000 in
theorem dzq_162 {v : Int} (h : mjK4 c p 162 v = true) : decode c p = .ok (.if_icmp .ge v, 3) := dk4 (g := fun x => .if_icmp .ge x) rfl rfl h
set_option maxRecDepth 100000 in
theorem dzq_163 {v : Int} (h : mjK4 c p 163 v = true) : decode c p = .ok (.if_icmp .gt v, 3) := dk4 (g := fun x => .if_icmp .gt x) rfl rfl h
set_option maxRecDepth 100000 in
theorem dzq_164 {v : Int} (h : mjK4 c p 164 v = true) : decode c p = .ok (.if_icmp .le v, 3) := dk4 (g := fun x => .if_icmp .le x) rfl rfl h
set_option maxRecDepth 100000 in
theorem dzq_167 {v : Int} (h : mjK4 c p 167 v = true) : decode c p = .ok (.goto v, 3) := dk4 (g := fun x => .goto x) rfl rfl h
set_option maxRecDepth 100000 in
theorem dzq_172 (h : mjK0 c p 172 = true) : decode c p = .ok (.ireturn, 1) := dk0 rfl rfl h
set_option maxRecDepth 100000 in
theorem dzq_177 (h : mjK0 c p 177 = true) : decode c p = .ok (.return_, 1) := dk0 rfl rfl h
set_option maxRecDepth 100000 in
theorem dzq_180 {a : Nat} (h : mjK2 c p 180 a = true) : decode c p = .ok (.getfield a, 3) := dk2 (g := fun x => .getfield x) rfl rfl h
set_option maxRecDepth 100000 in
theorem dzq_181 {a : Nat} (h : mjK2 c p 181 a = true) : decode c p = .ok (.putfield a, 3) := dk2 (g := fun x => .putfield x) rfl rfl h
set_option maxRecDepth 100000 in
theorem dzq_182 {a : Nat} (h : mjK2 c p 182 a = true) : decode c p = .ok (.invokevirtual a, 3) := dk2 (g := fun x => .invokevirtual x) rfl rfl h
set_option maxRecDepth 100000 in
theorem dzq_184 {a : Nat} (h : mjK2 c p 184 a = true) : decode c p = .ok (.invokestatic a, 3) := dk2 (g := fun x => .invokestatic x) rfl rfl h
end MJ14Z
