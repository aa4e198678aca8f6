/-! ===== methods as functions: the helpers, and a rule for each ===== -/
abbrev mjU : Type := Option (Option Value × mjH)
abbrev mjR : Type := Nat → List Value → mjH → mjU
def mjEq (q : Option Value × mjH) (r : Option Value) (hp : mjH) : Prop := (r, hp) = q
def mjC (R : mjR) (d : Nat) : Prop := ∀ (k : Nat) (As : List Value) (hp : mjH) (q : Option Value × mjH), R k As hp = some q → mjM d 0 0 k As hp (mjEq q)
/-- how many rounds a loop may take -/
def mjN : Nat := 100000000
theorem mj_no {q : Option Value × mjH} {P : Prop} (h : (none : mjU) = some q) : P := nomatch h
def gI (hp : mjH) (h ci j : Nat) (k : Int32 → mjU) : mjU := match hp[h]? with
  | some (.inr (c, fs)) => match c == ci with
    | true => match fs[j]? with
      | some (.int v) => k v
      | _ => none
    | false => none
  | _ => none
def gL (hp : mjH) (h ci j : Nat) (k : Int64 → mjU) : mjU := match hp[h]? with
  | some (.inr (c, fs)) => match c == ci with
    | true => match fs[j]? with
      | some (.long v) => k v
      | _ => none
    | false => none
  | _ => none
def gR (hp : mjH) (h ci j : Nat) (k : Nat → mjU) : mjU := match hp[h]? with
  | some (.inr (c, fs)) => match c == ci with
    | true => match fs[j]? with
      | some (.ref v) => k v
      | _ => none
    | false => none
  | _ => none
/-- a String's bytes, its coder -/
def gSv (h : Nat) (k : Nat → mjU) : mjU := match mjKi h with
  | some i => k (1000001 + 2 * i)
  | none => none
def gSc (h : Nat) (k : Int32 → mjU) : mjU := match mjKi h with
  | some _ => k 0
  | none => none
def pI (hp : mjH) (h ci j : Nat) (v : Int32) (k : mjH → mjU) : mjU := match hp[h]? with
  | some (.inr (c, fs)) => match c == ci && decide (j < fs.length) with
    | true => k (hp.set h (.inr (ci, fs.set j (.int v))))
    | false => none
  | _ => none
def pZ (hp : mjH) (h ci j : Nat) (v : Int32) (k : mjH → mjU) : mjU := match hp[h]? with
  | some (.inr (c, fs)) => match c == ci && decide (j < fs.length) && (v == 0 || v == 1) with
    | true => k (hp.set h (.inr (ci, fs.set j (.int v))))
    | false => none
  | _ => none
def pL (hp : mjH) (h ci j : Nat) (v : Int64) (k : mjH → mjU) : mjU := match hp[h]? with
  | some (.inr (c, fs)) => match c == ci && decide (j < fs.length) with
    | true => k (hp.set h (.inr (ci, fs.set j (.long v))))
    | false => none
  | _ => none
def pR (hp : mjH) (h ci j : Nat) (v : Nat) (k : mjH → mjU) : mjU := match hp[h]? with
  | some (.inr (c, fs)) => match c == ci && decide (j < fs.length) with
    | true => k (hp.set h (.inr (ci, fs.set j (.ref v))))
    | false => none
  | _ => none
def aI (hp : mjH) (h : Nat) (i : Int32) (k : Int32 → mjU) : mjU := match hp[h]? with
  | some (.inl (t, n, .inl f)) => match t == 0 && mj_in i n with
    | true => k (f i.toNatClampNeg)
    | false => none
  | _ => none
def aL (hp : mjH) (h : Nat) (i : Int32) (k : Int64 → mjU) : mjU := match hp[h]? with
  | some (.inl (t, n, .inr (.inl f))) => match t == 1 && mj_in i n with
    | true => k (f i.toNatClampNeg)
    | false => none
  | _ => none
def aB (hp : mjH) (h : Nat) (i : Int32) (k : Int32 → mjU) : mjU := match hp[h]? with
  | some (.inl (t, n, .inl f)) => match (t == 2 || t == 3) && mj_in i n with
    | true => k (f i.toNatClampNeg)
    | false => none
  | none => match mjKa h with
    | some q => match mj_in i (mjKl.getD q 0) with
      | true => k ((mjKb.getD q []).getD i.toNatClampNeg 0)
      | false => none
    | none => none
  | _ => none
def aN (hp : mjH) (h : Nat) (k : Int32 → mjU) : mjU := match hp[h]? with
  | some (.inl (t, a)) => match decide (t < 4) with
    | true => k (Int32.ofNat a.1)
    | false => none
  | none => match mjKa h with
    | some q => k (Int32.ofNat (mjKl.getD q 0))
    | none => none
  | _ => none
def sI (hp : mjH) (h : Nat) (i x : Int32) (k : mjH → mjU) : mjU := match hp[h]? with
  | some (.inl (t, n, .inl f)) => match t == 0 && mj_in i n with
    | true => k (hp.set h (.inl (0, n, .inl (upd f i.toNatClampNeg x))))
    | false => none
  | _ => none
def sL (hp : mjH) (h : Nat) (i : Int32) (x : Int64) (k : mjH → mjU) : mjU := match hp[h]? with
  | some (.inl (t, n, .inr (.inl f))) => match t == 1 && mj_in i n with
    | true => k (hp.set h (.inl (1, n, .inr (.inl (vp_updL f i.toNatClampNeg x)))))
    | false => none
  | _ => none
def sB (hp : mjH) (h : Nat) (i x : Int32) (k : mjH → mjU) : mjU := match hp[h]? with
  | some (.inl (t, n, .inl f)) => match t == 2 && mj_in i n with
    | true => k (hp.set h (.inl (2, n, .inl (upd f i.toNatClampNeg (vp_nar .byte x)))))
    | false => match t == 3 && mj_in i n with
      | true => k (hp.set h (.inl (3, n, .inl (upd f i.toNatClampNeg (vp_nar .boolean x)))))
      | false => none
  | _ => none
def bI (o : mjU) (k : Int32 → mjH → mjU) : mjU := match o with
  | some (some (.int v), hp) => k v hp
  | _ => none
def bL (o : mjU) (k : Int64 → mjH → mjU) : mjU := match o with
  | some (some (.long v), hp) => k v hp
  | _ => none
def bN (o : mjU) (k : mjH → mjU) : mjU := match o with
  | some (none, hp) => k hp
  | _ => none
/-- the receiver is an object of that class -/
def rV (hp : mjH) (h ci : Nat) (o : mjU) : mjU := match hp[h]? with
  | some (.inr (c, _)) => match c == ci with
    | true => o
    | false => none
  | _ => none
def rS (h : Nat) (o : mjU) : mjU := match mjKi h with
  | some _ => o
  | none => none
def cpY (hp : mjH) (b : Nat) (sp : Int32) (a : Nat) (dp n : Int32) (k : mjH → mjU) : mjU := match hp[b]?, hp[a]? with
  | some (.inl (t0, n0, .inl f)), some (.inl (t1, n1, .inl g)) => match t0 == 0 && t1 == 0 && !decide (sp < 0) && !decide (dp < 0) && !decide (n < 0) && decide (sp.toNatClampNeg + n.toNatClampNeg ≤ n0) && decide (dp.toNatClampNeg + n.toNatClampNeg ≤ n1) with
    | true => k (hp.set a (.inl (0, n1, .inl (va_cpy f g sp.toNatClampNeg dp.toNatClampNeg n.toNatClampNeg))))
    | false => none
  | _, _ => none
def mjLe : mjLo → mjLo → Prop
  | [], _ => True
  | none :: a, _ :: b => mjLe a b
  | some v :: a, w :: b => w = some v ∧ mjLe a b
  | _ :: _, [] => False
theorem mjLe_at : ∀ {a b : mjLo} (_ : mjLe a b) (i : Nat) (v : Value), a[i]? = some (some v) → b[i]? = some (some v)
  | [], _, _, i, v, e => by simp at e
  | none :: a, _ :: b, h, 0, v, e => by simp at e
  | none :: a, _ :: b, h, i + 1, v, e => mjLe_at (a := a) (b := b) h i v e
  | some u :: a, w :: b, h, 0, v, e => by
    simp only [List.getElem?_cons_zero, Option.some.injEq] at e ⊢
    rw [h.1, e]
  | some u :: a, w :: b, h, i + 1, v, e => mjLe_at (a := a) (b := b) h.2 i v e
  | none :: a, [], h, _, _, _ => h.elim
  | some u :: a, [], h, _, _, _ => h.elim
def mjVf (j ci n : Nat) : Prop := ∃ J, mjMt j = some J ∧ J.2.2.2.2.2.2 = false ∧ J.1.name ≠ "<init>" ∧ ci < 13 ∧ (mjCl ci).1 = J.1.cls ∧ n = J.2.2.2.2.2.1
def mjSf (j n : Nat) : Prop := ∃ J, mjMt j = some J ∧ J.2.2.2.2.2.2 = true ∧ n = J.2.2.2.2.2.1
def mjTf (j n : Nat) : Prop := ∃ J, mjMt j = some J ∧ J.2.2.2.2.2.2 = false ∧ J.1.name ≠ "<init>" ∧ J.1.cls = "java/lang/String" ∧ n = J.2.2.2.2.2.1
theorem mj_swout {x : Int32} {lw hi : Int} (L : List Int32) (hL : (decide (hi < lw + L.length) && (List.range L.length).all (fun i => decide ((L.getD i 0).toInt = lw + i))) = true) (hn : ∀ c ∈ L, ¬ x = c) : x.toInt < lw ∨ hi < x.toInt := by
  simp only [Bool.and_eq_true, decide_eq_true_eq, List.all_eq_true, List.mem_range] at hL
  by_cases h1 : x.toInt < lw
  · exact Or.inl h1
  by_cases h2 : hi < x.toInt
  · exact Or.inr h2
  exfalso
  have h3 : (x.toInt - lw).toNat < L.length := by omega
  have h4 := hL.2 _ h3
  refine hn (L.getD (x.toInt - lw).toNat 0) ?_ (Int32.toInt_inj.mp (by rw [h4]; omega))
  rw [List.getD_eq_getElem?_getD, List.getElem?_eq_getElem h3]
  exact List.getElem_mem h3
theorem mj_lkout {x : Int32} {dflt : Int} : ∀ (ps : List (Int × Int)) (L : List Int32), ps.map Prod.fst = L.map Int32.toInt → (∀ c ∈ L, ¬ x = c) → Op.lookupswitch.offset ps dflt x.toInt = dflt
  | [], _, _, _ => rfl
  | (a, b) :: ps, [], e, _ => by simp at e
  | (a, b) :: ps, c :: L, e, h => by
    simp only [List.map_cons, List.cons.injEq] at e
    rw [Op.lookupswitch.offset_cons, if_neg]
    · exact mj_lkout ps L e.2 (fun c' hc => h c' (List.mem_cons_of_mem _ hc))
    · intro g
      exact h c List.mem_cons_self (Int32.toInt_inj.mp (by rw [← e.1, g]))
section MJT
variable {X : mjX} {d C S : Nat} {I : mjI} {Post : Option Value → mjH → Prop} {pc : Nat} {lo : mjLo} {st : List Value} {hp : mjH} {kc ks : Nat} {q : Option Value × mjH}
theorem mjG.fg {lo' : mjLo} (hl : mjLe lo' lo) (k : mjG X d C S I Post pc lo' st hp kc ks) : mjG X d C S I Post pc lo st hp kc ks := k.forget (mjLe_at hl)
theorem mjq_ic {n : Int} {v : Int32} (hd : decode I.2.2.1 pc = .ok (.iconst n, 1)) (hv : Int32.ofInt n = v) (k : mjG X d C S I Post (pc + 1) lo (.int v :: st) hp kc ks) : mjG X d C S I Post pc lo (st) hp kc ks := by
  subst hv
  exact mjr_iconst hd k
theorem mjq_bi {n : Int} {v : Int32} (hd : decode I.2.2.1 pc = .ok (.bipush n, 2)) (hv : (Int8.ofInt n).toInt32 = v) (k : mjG X d C S I Post (pc + 2) lo (.int v :: st) hp kc ks) : mjG X d C S I Post pc lo (st) hp kc ks := by
  subst hv
  exact mjr_bipush hd k
theorem mjq_si {n : Int} {v : Int32} (hd : decode I.2.2.1 pc = .ok (.sipush n, 3)) (hv : (Int16.ofInt n).toInt32 = v) (k : mjG X d C S I Post (pc + 3) lo (.int v :: st) hp kc ks) : mjG X d C S I Post pc lo (st) hp kc ks := by
  subst hv
  exact mjr_sipush hd k
theorem mjq_lc {n : Fin 2} {v : Int64} (hd : decode I.2.2.1 pc = .ok (.lconst n, 1)) (hv : Int64.ofNat (n : Nat) = v) (k : mjG X d C S I Post (pc + 1) lo (.long v :: st) hp kc ks) : mjG X d C S I Post pc lo (st) hp kc ks := by
  subst hv
  exact mjr_lconst hd k
theorem mjq_ldS {idx i v : Nat} (hd : decode I.2.2.1 pc = .ok (.ldc idx, 2)) (hs : mjSr I.2.1 idx = some i) (hv : 1000000 + 2 * i = v) (k : mjG X d C S I Post (pc + 2) lo (.ref v :: st) hp kc ks) : mjG X d C S I Post pc lo (st) hp kc ks := by
  subst hv
  exact mjr_ldcS hd hs k
theorem mjq_istore_n {n : Fin 4} {x : Int32} {lo' : mjLo} (hd : decode I.2.2.1 pc = .ok (.istore_n n, 1)) (hn : (n : Nat) < I.2.2.2.1) (hl : mjS1 lo n (.int x) = lo') (k : mjG X d C S I Post (pc + 1) lo' st hp kc ks) : mjG X d C S I Post pc lo (.int x :: st) hp kc ks := by
  subst hl
  exact mjr_istore_n hd hn k
theorem mjq_istore {n : Nat} {x : Int32} {lo' : mjLo} (hd : decode I.2.2.1 pc = .ok (.istore n, 2)) (hn : (n : Nat) < I.2.2.2.1) (hl : mjS1 lo n (.int x) = lo') (k : mjG X d C S I Post (pc + 2) lo' st hp kc ks) : mjG X d C S I Post pc lo (.int x :: st) hp kc ks := by
  subst hl
  exact mjr_istore hd hn k
theorem mjq_lstore_n {n : Fin 4} {x : Int64} {lo' : mjLo} (hd : decode I.2.2.1 pc = .ok (.lstore_n n, 1)) (hn : (n : Nat) + 1 < I.2.2.2.1) (hl : mjS2 lo n (.long x) = lo') (k : mjG X d C S I Post (pc + 1) lo' st hp kc ks) : mjG X d C S I Post pc lo (.long x :: st) hp kc ks := by
  subst hl
  exact mjr_lstore_n hd hn k
theorem mjq_lstore {n : Nat} {x : Int64} {lo' : mjLo} (hd : decode I.2.2.1 pc = .ok (.lstore n, 2)) (hn : (n : Nat) + 1 < I.2.2.2.1) (hl : mjS2 lo n (.long x) = lo') (k : mjG X d C S I Post (pc + 2) lo' st hp kc ks) : mjG X d C S I Post pc lo (.long x :: st) hp kc ks := by
  subst hl
  exact mjr_lstore hd hn k
theorem mjq_astore_n {n : Fin 4} {x : Nat} {lo' : mjLo} (hd : decode I.2.2.1 pc = .ok (.astore_n n, 1)) (hn : (n : Nat) < I.2.2.2.1) (hl : mjS1 lo n (.ref x) = lo') (k : mjG X d C S I Post (pc + 1) lo' st hp kc ks) : mjG X d C S I Post pc lo (.ref x :: st) hp kc ks := by
  subst hl
  exact mjr_astore_n hd hn k
theorem mjq_astore {n : Nat} {x : Nat} {lo' : mjLo} (hd : decode I.2.2.1 pc = .ok (.astore n, 2)) (hn : (n : Nat) < I.2.2.2.1) (hl : mjS1 lo n (.ref x) = lo') (k : mjG X d C S I Post (pc + 2) lo' st hp kc ks) : mjG X d C S I Post pc lo (.ref x :: st) hp kc ks := by
  subst hl
  exact mjr_astore hd hn k
theorem mjq_iinc {i : Nat} {n : Int} {x c : Int32} {lo' : mjLo} (hd : decode I.2.2.1 pc = .ok (.iinc i n, 3)) (hv : lo[i]? = some (some (.int x))) (hn : i < I.2.2.2.1) (hc : Int32.ofInt n = c) (hl : mjS1 lo i (.int (x + c)) = lo') (k : mjG X d C S I Post (pc + 3) lo' st hp kc ks) : mjG X d C S I Post pc lo (st) hp kc ks := by
  subst hc
  subst hl
  exact mjr_iinc hd hv hn k
theorem mjq_if_eq {x : Int32} {off : Int} {tgt : Nat} {A B : mjU} (hd : decode I.2.2.1 pc = .ok (.ifCond .eq off, 3)) (ht : (pc : Int) + off = (tgt : Int)) (hq : (if x = 0 then A else B) = some q) (kt : A = some q → mjG X d C S I Post tgt lo st hp kc ks) (kf : B = some q → mjG X d C S I Post (pc + 3) lo st hp kc ks) : mjG X d C S I Post pc lo (.int x :: st) hp kc ks :=
  mjr_if_eq hd ht (fun c => kt ((if_pos c).symm.trans hq)) (fun c => kf ((if_neg c).symm.trans hq))
theorem mjq_icmp_eq {x y : Int32} {off : Int} {tgt : Nat} {A B : mjU} (hd : decode I.2.2.1 pc = .ok (.if_icmp .eq off, 3)) (ht : (pc : Int) + off = (tgt : Int)) (hq : (if x = y then A else B) = some q) (kt : A = some q → mjG X d C S I Post tgt lo st hp kc ks) (kf : B = some q → mjG X d C S I Post (pc + 3) lo st hp kc ks) : mjG X d C S I Post pc lo (.int y :: .int x :: st) hp kc ks :=
  mjr_icmp_eq hd ht (fun c => kt ((if_pos c).symm.trans hq)) (fun c => kf ((if_neg c).symm.trans hq))
theorem mjq_if_ne {x : Int32} {off : Int} {tgt : Nat} {A B : mjU} (hd : decode I.2.2.1 pc = .ok (.ifCond .ne off, 3)) (ht : (pc : Int) + off = (tgt : Int)) (hq : (if x = 0 then B else A) = some q) (kt : A = some q → mjG X d C S I Post tgt lo st hp kc ks) (kf : B = some q → mjG X d C S I Post (pc + 3) lo st hp kc ks) : mjG X d C S I Post pc lo (.int x :: st) hp kc ks :=
  mjr_if_ne hd ht (fun c => kt ((if_neg c).symm.trans hq)) (fun c => kf ((if_pos c).symm.trans hq))
theorem mjq_icmp_ne {x y : Int32} {off : Int} {tgt : Nat} {A B : mjU} (hd : decode I.2.2.1 pc = .ok (.if_icmp .ne off, 3)) (ht : (pc : Int) + off = (tgt : Int)) (hq : (if x = y then B else A) = some q) (kt : A = some q → mjG X d C S I Post tgt lo st hp kc ks) (kf : B = some q → mjG X d C S I Post (pc + 3) lo st hp kc ks) : mjG X d C S I Post pc lo (.int y :: .int x :: st) hp kc ks :=
  mjr_icmp_ne hd ht (fun c => kt ((if_neg c).symm.trans hq)) (fun c => kf ((if_pos c).symm.trans hq))
theorem mjq_if_lt {x : Int32} {off : Int} {tgt : Nat} {A B : mjU} (hd : decode I.2.2.1 pc = .ok (.ifCond .lt off, 3)) (ht : (pc : Int) + off = (tgt : Int)) (hq : (if x < 0 then A else B) = some q) (kt : A = some q → mjG X d C S I Post tgt lo st hp kc ks) (kf : B = some q → mjG X d C S I Post (pc + 3) lo st hp kc ks) : mjG X d C S I Post pc lo (.int x :: st) hp kc ks :=
  mjr_if_lt hd ht (fun c => kt ((if_pos c).symm.trans hq)) (fun c => kf ((if_neg c).symm.trans hq))
theorem mjq_icmp_lt {x y : Int32} {off : Int} {tgt : Nat} {A B : mjU} (hd : decode I.2.2.1 pc = .ok (.if_icmp .lt off, 3)) (ht : (pc : Int) + off = (tgt : Int)) (hq : (if x < y then A else B) = some q) (kt : A = some q → mjG X d C S I Post tgt lo st hp kc ks) (kf : B = some q → mjG X d C S I Post (pc + 3) lo st hp kc ks) : mjG X d C S I Post pc lo (.int y :: .int x :: st) hp kc ks :=
  mjr_icmp_lt hd ht (fun c => kt ((if_pos c).symm.trans hq)) (fun c => kf ((if_neg c).symm.trans hq))
theorem mjq_if_ge {x : Int32} {off : Int} {tgt : Nat} {A B : mjU} (hd : decode I.2.2.1 pc = .ok (.ifCond .ge off, 3)) (ht : (pc : Int) + off = (tgt : Int)) (hq : (if 0 ≤ x then A else B) = some q) (kt : A = some q → mjG X d C S I Post tgt lo st hp kc ks) (kf : B = some q → mjG X d C S I Post (pc + 3) lo st hp kc ks) : mjG X d C S I Post pc lo (.int x :: st) hp kc ks :=
  mjr_if_ge hd ht (fun c => kt ((if_pos c).symm.trans hq)) (fun c => kf ((if_neg c).symm.trans hq))
theorem mjq_icmp_ge {x y : Int32} {off : Int} {tgt : Nat} {A B : mjU} (hd : decode I.2.2.1 pc = .ok (.if_icmp .ge off, 3)) (ht : (pc : Int) + off = (tgt : Int)) (hq : (if y ≤ x then A else B) = some q) (kt : A = some q → mjG X d C S I Post tgt lo st hp kc ks) (kf : B = some q → mjG X d C S I Post (pc + 3) lo st hp kc ks) : mjG X d C S I Post pc lo (.int y :: .int x :: st) hp kc ks :=
  mjr_icmp_ge hd ht (fun c => kt ((if_pos c).symm.trans hq)) (fun c => kf ((if_neg c).symm.trans hq))
theorem mjq_if_gt {x : Int32} {off : Int} {tgt : Nat} {A B : mjU} (hd : decode I.2.2.1 pc = .ok (.ifCond .gt off, 3)) (ht : (pc : Int) + off = (tgt : Int)) (hq : (if 0 < x then A else B) = some q) (kt : A = some q → mjG X d C S I Post tgt lo st hp kc ks) (kf : B = some q → mjG X d C S I Post (pc + 3) lo st hp kc ks) : mjG X d C S I Post pc lo (.int x :: st) hp kc ks :=
  mjr_if_gt hd ht (fun c => kt ((if_pos c).symm.trans hq)) (fun c => kf ((if_neg c).symm.trans hq))
theorem mjq_icmp_gt {x y : Int32} {off : Int} {tgt : Nat} {A B : mjU} (hd : decode I.2.2.1 pc = .ok (.if_icmp .gt off, 3)) (ht : (pc : Int) + off = (tgt : Int)) (hq : (if y < x then A else B) = some q) (kt : A = some q → mjG X d C S I Post tgt lo st hp kc ks) (kf : B = some q → mjG X d C S I Post (pc + 3) lo st hp kc ks) : mjG X d C S I Post pc lo (.int y :: .int x :: st) hp kc ks :=
  mjr_icmp_gt hd ht (fun c => kt ((if_pos c).symm.trans hq)) (fun c => kf ((if_neg c).symm.trans hq))
theorem mjq_if_le {x : Int32} {off : Int} {tgt : Nat} {A B : mjU} (hd : decode I.2.2.1 pc = .ok (.ifCond .le off, 3)) (ht : (pc : Int) + off = (tgt : Int)) (hq : (if x ≤ 0 then A else B) = some q) (kt : A = some q → mjG X d C S I Post tgt lo st hp kc ks) (kf : B = some q → mjG X d C S I Post (pc + 3) lo st hp kc ks) : mjG X d C S I Post pc lo (.int x :: st) hp kc ks :=
  mjr_if_le hd ht (fun c => kt ((if_pos c).symm.trans hq)) (fun c => kf ((if_neg c).symm.trans hq))
theorem mjq_icmp_le {x y : Int32} {off : Int} {tgt : Nat} {A B : mjU} (hd : decode I.2.2.1 pc = .ok (.if_icmp .le off, 3)) (ht : (pc : Int) + off = (tgt : Int)) (hq : (if x ≤ y then A else B) = some q) (kt : A = some q → mjG X d C S I Post tgt lo st hp kc ks) (kf : B = some q → mjG X d C S I Post (pc + 3) lo st hp kc ks) : mjG X d C S I Post pc lo (.int y :: .int x :: st) hp kc ks :=
  mjr_icmp_le hd ht (fun c => kt ((if_pos c).symm.trans hq)) (fun c => kf ((if_neg c).symm.trans hq))
theorem mjq_idiv {x y : Int32} {A : mjU} (hd : decode I.2.2.1 pc = .ok (.idiv, 1)) (hq : (if y = 0 then none else A) = some q) (k : A = some q → mjG X d C S I Post (pc + 1) lo (.int (x / y) :: st) hp kc ks) : mjG X d C S I Post pc lo (.int y :: .int x :: st) hp kc ks := by
  by_cases c : y = 0
  · rw [if_pos c] at hq; exact mj_no hq
  · rw [if_neg c] at hq; exact mjr_idiv hd c (k hq)
theorem mjq_irem {x y : Int32} {A : mjU} (hd : decode I.2.2.1 pc = .ok (.irem, 1)) (hq : (if y = 0 then none else A) = some q) (k : A = some q → mjG X d C S I Post (pc + 1) lo (.int (x - x / y * y) :: st) hp kc ks) : mjG X d C S I Post pc lo (.int y :: .int x :: st) hp kc ks := by
  by_cases c : y = 0
  · rw [if_pos c] at hq; exact mj_no hq
  · rw [if_neg c] at hq; exact mjr_irem hd c (k hq)
theorem mjq_gI {idx ci j h : Nat} {kk : Int32 → mjU} (hd : decode I.2.2.1 pc = .ok (.getfield idx, 3)) (hf : mjFr I.2.1 idx = some (ci, j)) (hq : gI hp h ci j kk = some q) (k : ∀ v, kk v = some q → mjG X d C S I Post (pc + 3) lo (.int v :: st) hp kc ks) : mjG X d C S I Post pc lo (.ref h :: st) hp kc ks := by
  unfold gI at hq
  split at hq
  · next c fs hx =>
    split at hq
    · next hc =>
      rw [beq_iff_eq] at hc
      subst hc
      split at hq
      · next v hv => exact mjr_getfield hd hf hx hv (k v hq)
      · exact mj_no hq
    · exact mj_no hq
  · exact mj_no hq
theorem mjq_gL {idx ci j h : Nat} {kk : Int64 → mjU} (hd : decode I.2.2.1 pc = .ok (.getfield idx, 3)) (hf : mjFr I.2.1 idx = some (ci, j)) (hq : gL hp h ci j kk = some q) (k : ∀ v, kk v = some q → mjG X d C S I Post (pc + 3) lo (.long v :: st) hp kc ks) : mjG X d C S I Post pc lo (.ref h :: st) hp kc ks := by
  unfold gL at hq
  split at hq
  · next c fs hx =>
    split at hq
    · next hc =>
      rw [beq_iff_eq] at hc
      subst hc
      split at hq
      · next v hv => exact mjr_getfield hd hf hx hv (k v hq)
      · exact mj_no hq
    · exact mj_no hq
  · exact mj_no hq
theorem mjq_gR {idx ci j h : Nat} {kk : Nat → mjU} (hd : decode I.2.2.1 pc = .ok (.getfield idx, 3)) (hf : mjFr I.2.1 idx = some (ci, j)) (hq : gR hp h ci j kk = some q) (k : ∀ v, kk v = some q → mjG X d C S I Post (pc + 3) lo (.ref v :: st) hp kc ks) : mjG X d C S I Post pc lo (.ref h :: st) hp kc ks := by
  unfold gR at hq
  split at hq
  · next c fs hx =>
    split at hq
    · next hc =>
      rw [beq_iff_eq] at hc
      subst hc
      split at hq
      · next v hv => exact mjr_getfield hd hf hx hv (k v hq)
      · exact mj_no hq
    · exact mj_no hq
  · exact mj_no hq
theorem mjq_pI {idx ci j h : Nat} {v : Int32} {kk : mjH → mjU} (hd : decode I.2.2.1 pc = .ok (.putfield idx, 3)) (hf : mjFr I.2.1 idx = some (ci, j)) (hfi : ((mjCl ci).2.1 j).2.2.2 = false) (hty : mjTyv ci j = .int) (hq : pI hp h ci j v kk = some q) (k : ∀ hp', kk hp' = some q → mjG X d C S I Post (pc + 3) lo st hp' kc ks) : mjG X d C S I Post pc lo (.int v :: .ref h :: st) hp kc ks := by
  unfold pI at hq
  split at hq
  · next c fs hx =>
    split at hq
    · next hc =>
      simp only [Bool.and_eq_true, beq_iff_eq, decide_eq_true_eq] at hc
      obtain ⟨rfl, hj⟩ := hc
      exact mjr_putfield hd hf hx hj (Or.inl hfi) (by rw [hty]; rfl) (by rw [hty]; rfl) (k _ hq)
    · exact mj_no hq
  · exact mj_no hq
theorem mjq_pZ {idx ci j h : Nat} {v : Int32} {kk : mjH → mjU} (hd : decode I.2.2.1 pc = .ok (.putfield idx, 3)) (hf : mjFr I.2.1 idx = some (ci, j)) (hfi : ((mjCl ci).2.1 j).2.2.2 = false) (hty : mjTyv ci j = .boolean) (hq : pZ hp h ci j v kk = some q) (k : ∀ hp', kk hp' = some q → mjG X d C S I Post (pc + 3) lo st hp' kc ks) : mjG X d C S I Post pc lo (.int v :: .ref h :: st) hp kc ks := by
  unfold pZ at hq
  split at hq
  · next c fs hx =>
    split at hq
    · next hc =>
      simp only [Bool.and_eq_true, Bool.or_eq_true, beq_iff_eq, decide_eq_true_eq] at hc
      obtain ⟨⟨rfl, hj⟩, hv⟩ := hc
      refine mjr_putfield hd hf hx hj (Or.inl hfi) ?_ ?_ (k _ hq)
      · rw [hty]; rcases hv with rfl | rfl <;> rfl
      · rw [hty]; rcases hv with rfl | rfl <;> rfl
    · exact mj_no hq
  · exact mj_no hq
theorem mjq_pL {idx ci j h : Nat} {v : Int64} {kk : mjH → mjU} (hd : decode I.2.2.1 pc = .ok (.putfield idx, 3)) (hf : mjFr I.2.1 idx = some (ci, j)) (hfi : ((mjCl ci).2.1 j).2.2.2 = false) (hty : mjTyv ci j = .long) (hq : pL hp h ci j v kk = some q) (k : ∀ hp', kk hp' = some q → mjG X d C S I Post (pc + 3) lo st hp' kc ks) : mjG X d C S I Post pc lo (.long v :: .ref h :: st) hp kc ks := by
  unfold pL at hq
  split at hq
  · next c fs hx =>
    split at hq
    · next hc =>
      simp only [Bool.and_eq_true, beq_iff_eq, decide_eq_true_eq] at hc
      obtain ⟨rfl, hj⟩ := hc
      exact mjr_putfield hd hf hx hj (Or.inl hfi) (by rw [hty]; rfl) (by rw [hty]; rfl) (k _ hq)
    · exact mj_no hq
  · exact mj_no hq
theorem mjq_pR {idx ci j h : Nat} {v : Nat} {kk : mjH → mjU} (hd : decode I.2.2.1 pc = .ok (.putfield idx, 3)) (hf : mjFr I.2.1 idx = some (ci, j)) (hfi : ((mjCl ci).2.1 j).2.2.2 = false) (hty : ∀ x : Nat, narrow (mjTyv ci j) (.ref x) = .ref x ∧ fits (mjTyv ci j) (.ref x) = true) (hq : pR hp h ci j v kk = some q) (k : ∀ hp', kk hp' = some q → mjG X d C S I Post (pc + 3) lo st hp' kc ks) : mjG X d C S I Post pc lo (.ref v :: .ref h :: st) hp kc ks := by
  unfold pR at hq
  split at hq
  · next c fs hx =>
    split at hq
    · next hc =>
      simp only [Bool.and_eq_true, beq_iff_eq, decide_eq_true_eq] at hc
      obtain ⟨rfl, hj⟩ := hc
      exact mjr_putfield hd hf hx hj (Or.inl hfi) (hty v).1 (hty v).2 (k _ hq)
    · exact mj_no hq
  · exact mj_no hq
theorem mjq_gSv {h : Nat} {kk : Nat → mjU} (hcn : I.2.1 = 17) (hd : decode I.2.2.1 pc = .ok (.getfield 9, 3)) (hq : gSv h kk = some q) (k : ∀ v, kk v = some q → mjG X d C S I Post (pc + 3) lo (.ref v :: st) hp kc ks) : mjG X d C S I Post pc lo (.ref h :: st) hp kc ks := by
  unfold gSv at hq
  split at hq
  · next i hi =>
    obtain ⟨a, rfl⟩ := mjKi_ok hi
    exact mjr_getS_value a hcn hd (k _ hq)
  · exact mj_no hq
theorem mjq_gSc {h : Nat} {kk : Int32 → mjU} (hcn : I.2.1 = 17) (hd : decode I.2.2.1 pc = .ok (.getfield 15, 3)) (hq : gSc h kk = some q) (k : ∀ v, kk v = some q → mjG X d C S I Post (pc + 3) lo (.int v :: st) hp kc ks) : mjG X d C S I Post pc lo (.ref h :: st) hp kc ks := by
  unfold gSc at hq
  split at hq
  · next i hi =>
    obtain ⟨a, rfl⟩ := mjKi_ok hi
    exact mjr_getS_coder a hcn hd (k _ hq)
  · exact mj_no hq
theorem mjq_aI {h : Nat} {i : Int32} {kk : Int32 → mjU} (hd : decode I.2.2.1 pc = .ok (.iaload, 1)) (hq : aI hp h i kk = some q) (k : ∀ v, kk v = some q → mjG X d C S I Post (pc + 1) lo (.int v :: st) hp kc ks) : mjG X d C S I Post pc lo (.int i :: .ref h :: st) hp kc ks := by
  unfold aI at hq
  split at hq
  · next t n f hx =>
    split at hq
    · next hc =>
      simp only [Bool.and_eq_true, beq_iff_eq] at hc
      obtain ⟨rfl, hi⟩ := hc
      exact mjr_iaload hd hx (mj_in_ok hi) (k _ hq)
    · exact mj_no hq
  · exact mj_no hq
theorem mjq_aL {h : Nat} {i : Int32} {kk : Int64 → mjU} (hd : decode I.2.2.1 pc = .ok (.laload, 1)) (hq : aL hp h i kk = some q) (k : ∀ v, kk v = some q → mjG X d C S I Post (pc + 1) lo (.long v :: st) hp kc ks) : mjG X d C S I Post pc lo (.int i :: .ref h :: st) hp kc ks := by
  unfold aL at hq
  split at hq
  · next t n f hx =>
    split at hq
    · next hc =>
      simp only [Bool.and_eq_true, beq_iff_eq] at hc
      obtain ⟨rfl, hi⟩ := hc
      exact mjr_laload hd hx (mj_in_ok hi) (k _ hq)
    · exact mj_no hq
  · exact mj_no hq
theorem mjq_aB {h : Nat} {i : Int32} {kk : Int32 → mjU} (hd : decode I.2.2.1 pc = .ok (.baload, 1)) (hq : aB hp h i kk = some q) (k : ∀ v, kk v = some q → mjG X d C S I Post (pc + 1) lo (.int v :: st) hp kc ks) : mjG X d C S I Post pc lo (.int i :: .ref h :: st) hp kc ks := by
  unfold aB at hq
  split at hq
  · next t n f hx =>
    split at hq
    · next hc =>
      simp only [Bool.and_eq_true, Bool.or_eq_true, beq_iff_eq] at hc
      obtain ⟨rfl | rfl, hi⟩ := hc
      · exact mjr_baload_b hd hx (mj_in_ok hi) (k _ hq)
      · exact mjr_baload_z hd hx (mj_in_ok hi) (k _ hq)
    · exact mj_no hq
  · split at hq
    · next a ha =>
      obtain ⟨b, rfl⟩ := mjKa_ok ha
      split at hq
      · next hi => exact mjr_baloadS b hd (mj_in_ok hi) (k _ hq)
      · exact mj_no hq
    · exact mj_no hq
  · exact mj_no hq
theorem mjq_aN {h : Nat} {kk : Int32 → mjU} (hd : decode I.2.2.1 pc = .ok (.arraylength, 1)) (hq : aN hp h kk = some q) (k : ∀ v, kk v = some q → mjG X d C S I Post (pc + 1) lo (.int v :: st) hp kc ks) : mjG X d C S I Post pc lo (.ref h :: st) hp kc ks := by
  unfold aN at hq
  split at hq
  · next t a hx =>
    split at hq
    · next hc => exact mjr_arraylength hd hx (of_decide_eq_true hc) (k _ hq)
    · exact mj_no hq
  · split at hq
    · next a ha =>
      obtain ⟨b, rfl⟩ := mjKa_ok ha
      exact mjr_alenS b hd (k _ hq)
    · exact mj_no hq
  · exact mj_no hq
theorem mjq_sI {h : Nat} {i x : Int32} {kk : mjH → mjU} (hd : decode I.2.2.1 pc = .ok (.iastore, 1)) (hq : sI hp h i x kk = some q) (k : ∀ hp', kk hp' = some q → mjG X d C S I Post (pc + 1) lo st hp' kc ks) : mjG X d C S I Post pc lo (.int x :: .int i :: .ref h :: st) hp kc ks := by
  unfold sI at hq
  split at hq
  · next t n f hx =>
    split at hq
    · next hc =>
      simp only [Bool.and_eq_true, beq_iff_eq] at hc
      obtain ⟨rfl, hi⟩ := hc
      exact mjr_iastore hd hx (mj_in_ok hi) (k _ hq)
    · exact mj_no hq
  · exact mj_no hq
theorem mjq_sL {h : Nat} {i : Int32} {x : Int64} {kk : mjH → mjU} (hd : decode I.2.2.1 pc = .ok (.lastore, 1)) (hq : sL hp h i x kk = some q) (k : ∀ hp', kk hp' = some q → mjG X d C S I Post (pc + 1) lo st hp' kc ks) : mjG X d C S I Post pc lo (.long x :: .int i :: .ref h :: st) hp kc ks := by
  unfold sL at hq
  split at hq
  · next t n f hx =>
    split at hq
    · next hc =>
      simp only [Bool.and_eq_true, beq_iff_eq] at hc
      obtain ⟨rfl, hi⟩ := hc
      exact mjr_lastore hd hx (mj_in_ok hi) (k _ hq)
    · exact mj_no hq
  · exact mj_no hq
theorem mjq_sB {h : Nat} {i x : Int32} {kk : mjH → mjU} (hd : decode I.2.2.1 pc = .ok (.bastore, 1)) (hq : sB hp h i x kk = some q) (k : ∀ hp', kk hp' = some q → mjG X d C S I Post (pc + 1) lo st hp' kc ks) : mjG X d C S I Post pc lo (.int x :: .int i :: .ref h :: st) hp kc ks := by
  unfold sB at hq
  split at hq
  · next t n f hx =>
    split at hq
    · next hc =>
      simp only [Bool.and_eq_true, beq_iff_eq] at hc
      obtain ⟨rfl, hi⟩ := hc
      exact mjr_bastore_b hd hx (mj_in_ok hi) (k _ hq)
    · split at hq
      · next hc =>
        simp only [Bool.and_eq_true, beq_iff_eq] at hc
        obtain ⟨rfl, hi⟩ := hc
        exact mjr_bastore_z hd hx (mj_in_ok hi) (k _ hq)
      · exact mj_no hq
  · exact mj_no hq
theorem mjq_vI {R : mjR} {d' : Nat} {idx j h ci n : Nat} {As rest : List Value} {st0 : List Value} {kk : Int32 → mjH → mjU} (hd : decode I.2.2.1 pc = .ok (.invokevirtual idx, 3)) (hm : mjMr I.2.1 idx = some j) (hV : mjVf j ci n) (hn : As.length = n) (hsum : Nat.ble (rest.map fun v => v.category).sum 8 = true) (hs : As.reverse ++ .ref h :: rest = st0) (hR : mjC R d') (hdd : d' + 1 ≤ d) (h1 : kc ≤ C) (h2 : ks ≤ S) (hq : rV hp h ci (bI (R j (.ref h :: As) hp) kk) = some q) (k : ∀ v hp', kk v hp' = some q → mjG X d C S I Post (pc + 3) lo (.int v :: rest) hp' kc ks) : mjG X d C S I Post pc lo st0 hp kc ks := by
  subst hs
  obtain ⟨J, a1, a2, a3, a4, a5, rfl⟩ := hV
  unfold rV at hq
  split at hq
  · next c fs hx =>
    split at hq
    · next hc =>
      rw [beq_iff_eq] at hc
      subst hc
      unfold bI at hq
      split at hq
      · next v hp1 e => exact mjr_invokevirtual hd hm a1 a2 a3 (Or.inl ⟨_, _, hx, a4, a5⟩) hn (Nat.le_of_ble_eq_true hsum) hdd h1 h2 (Or.inl rfl) (hR _ _ _ _ e) (fun r hp2 hr _ => by cases hr; exact k _ _ hq)
      · exact mj_no hq
    · exact mj_no hq
  · exact mj_no hq
theorem mjq_wI {R : mjR} {d' : Nat} {idx j h n : Nat} {As rest : List Value} {st0 : List Value} {kk : Int32 → mjH → mjU} (hd : decode I.2.2.1 pc = .ok (.invokevirtual idx, 3)) (hm : mjMr I.2.1 idx = some j) (hV : mjTf j n) (hn : As.length = n) (hsum : Nat.ble (rest.map fun v => v.category).sum 8 = true) (hs : As.reverse ++ .ref h :: rest = st0) (hR : mjC R d') (hdd : d' + 1 ≤ d) (h1 : kc ≤ C) (h2 : ks ≤ S) (hq : rS h (bI (R j (.ref h :: As) hp) kk) = some q) (k : ∀ v hp', kk v hp' = some q → mjG X d C S I Post (pc + 3) lo (.int v :: rest) hp' kc ks) : mjG X d C S I Post pc lo st0 hp kc ks := by
  subst hs
  obtain ⟨J, a1, a2, a3, a4, rfl⟩ := hV
  unfold rS at hq
  split at hq
  · next i hi =>
    obtain ⟨b1, b2⟩ := mjKi_ok hi
    unfold bI at hq
    split at hq
    · next v hp1 e => exact mjr_invokevirtual hd hm a1 a2 a3 (Or.inr ⟨i, b1, b2, a4⟩) hn (Nat.le_of_ble_eq_true hsum) hdd h1 h2 (Or.inl rfl) (hR _ _ _ _ e) (fun r hp2 hr _ => by cases hr; exact k _ _ hq)
    · exact mj_no hq
  · exact mj_no hq
theorem mjq_scI {R : mjR} {d' : Nat} {idx j n : Nat} {As rest : List Value} {st0 : List Value} {kk : Int32 → mjH → mjU} (hd : decode I.2.2.1 pc = .ok (.invokestatic idx, 3)) (hm : mjMr I.2.1 idx = some j) (hV : mjSf j n) (hn : As.length = n) (hsum : Nat.ble (rest.map fun v => v.category).sum 8 = true) (hs : As.reverse ++ rest = st0) (hR : mjC R d') (hdd : d' + 1 ≤ d) (h1 : kc ≤ C) (h2 : ks ≤ S) (hq : bI (R j As hp) kk = some q) (k : ∀ v hp', kk v hp' = some q → mjG X d C S I Post (pc + 3) lo (.int v :: rest) hp' kc ks) : mjG X d C S I Post pc lo st0 hp kc ks := by
  subst hs
  obtain ⟨J, a1, a2, rfl⟩ := hV
  unfold bI at hq
  split at hq
  · next v hp1 e => exact mjr_invokestatic hd hm a1 a2 hn (Nat.le_of_ble_eq_true hsum) hdd h1 h2 (Or.inl rfl) (hR _ _ _ _ e) (fun r hp2 hr _ => by cases hr; exact k _ _ hq)
  · exact mj_no hq
theorem mjq_vL {R : mjR} {d' : Nat} {idx j h ci n : Nat} {As rest : List Value} {st0 : List Value} {kk : Int64 → mjH → mjU} (hd : decode I.2.2.1 pc = .ok (.invokevirtual idx, 3)) (hm : mjMr I.2.1 idx = some j) (hV : mjVf j ci n) (hn : As.length = n) (hsum : Nat.ble (rest.map fun v => v.category).sum 8 = true) (hs : As.reverse ++ .ref h :: rest = st0) (hR : mjC R d') (hdd : d' + 1 ≤ d) (h1 : kc ≤ C) (h2 : ks ≤ S) (hq : rV hp h ci (bL (R j (.ref h :: As) hp) kk) = some q) (k : ∀ v hp', kk v hp' = some q → mjG X d C S I Post (pc + 3) lo (.long v :: rest) hp' kc ks) : mjG X d C S I Post pc lo st0 hp kc ks := by
  subst hs
  obtain ⟨J, a1, a2, a3, a4, a5, rfl⟩ := hV
  unfold rV at hq
  split at hq
  · next c fs hx =>
    split at hq
    · next hc =>
      rw [beq_iff_eq] at hc
      subst hc
      unfold bL at hq
      split at hq
      · next v hp1 e => exact mjr_invokevirtual hd hm a1 a2 a3 (Or.inl ⟨_, _, hx, a4, a5⟩) hn (Nat.le_of_ble_eq_true hsum) hdd h1 h2 (Or.inl rfl) (hR _ _ _ _ e) (fun r hp2 hr _ => by cases hr; exact k _ _ hq)
      · exact mj_no hq
    · exact mj_no hq
  · exact mj_no hq
theorem mjq_wL {R : mjR} {d' : Nat} {idx j h n : Nat} {As rest : List Value} {st0 : List Value} {kk : Int64 → mjH → mjU} (hd : decode I.2.2.1 pc = .ok (.invokevirtual idx, 3)) (hm : mjMr I.2.1 idx = some j) (hV : mjTf j n) (hn : As.length = n) (hsum : Nat.ble (rest.map fun v => v.category).sum 8 = true) (hs : As.reverse ++ .ref h :: rest = st0) (hR : mjC R d') (hdd : d' + 1 ≤ d) (h1 : kc ≤ C) (h2 : ks ≤ S) (hq : rS h (bL (R j (.ref h :: As) hp) kk) = some q) (k : ∀ v hp', kk v hp' = some q → mjG X d C S I Post (pc + 3) lo (.long v :: rest) hp' kc ks) : mjG X d C S I Post pc lo st0 hp kc ks := by
  subst hs
  obtain ⟨J, a1, a2, a3, a4, rfl⟩ := hV
  unfold rS at hq
  split at hq
  · next i hi =>
    obtain ⟨b1, b2⟩ := mjKi_ok hi
    unfold bL at hq
    split at hq
    · next v hp1 e => exact mjr_invokevirtual hd hm a1 a2 a3 (Or.inr ⟨i, b1, b2, a4⟩) hn (Nat.le_of_ble_eq_true hsum) hdd h1 h2 (Or.inl rfl) (hR _ _ _ _ e) (fun r hp2 hr _ => by cases hr; exact k _ _ hq)
    · exact mj_no hq
  · exact mj_no hq
theorem mjq_scL {R : mjR} {d' : Nat} {idx j n : Nat} {As rest : List Value} {st0 : List Value} {kk : Int64 → mjH → mjU} (hd : decode I.2.2.1 pc = .ok (.invokestatic idx, 3)) (hm : mjMr I.2.1 idx = some j) (hV : mjSf j n) (hn : As.length = n) (hsum : Nat.ble (rest.map fun v => v.category).sum 8 = true) (hs : As.reverse ++ rest = st0) (hR : mjC R d') (hdd : d' + 1 ≤ d) (h1 : kc ≤ C) (h2 : ks ≤ S) (hq : bL (R j As hp) kk = some q) (k : ∀ v hp', kk v hp' = some q → mjG X d C S I Post (pc + 3) lo (.long v :: rest) hp' kc ks) : mjG X d C S I Post pc lo st0 hp kc ks := by
  subst hs
  obtain ⟨J, a1, a2, rfl⟩ := hV
  unfold bL at hq
  split at hq
  · next v hp1 e => exact mjr_invokestatic hd hm a1 a2 hn (Nat.le_of_ble_eq_true hsum) hdd h1 h2 (Or.inl rfl) (hR _ _ _ _ e) (fun r hp2 hr _ => by cases hr; exact k _ _ hq)
  · exact mj_no hq
theorem mjq_vN {R : mjR} {d' : Nat} {idx j h ci n : Nat} {As rest : List Value} {st0 : List Value} {kk : mjH → mjU} (hd : decode I.2.2.1 pc = .ok (.invokevirtual idx, 3)) (hm : mjMr I.2.1 idx = some j) (hV : mjVf j ci n) (hn : As.length = n) (hsum : Nat.ble (rest.map fun v => v.category).sum 8 = true) (hs : As.reverse ++ .ref h :: rest = st0) (hR : mjC R d') (hdd : d' + 1 ≤ d) (h1 : kc ≤ C) (h2 : ks ≤ S) (hq : rV hp h ci (bN (R j (.ref h :: As) hp) kk) = some q) (k : ∀ hp', kk hp' = some q → mjG X d C S I Post (pc + 3) lo rest hp' kc ks) : mjG X d C S I Post pc lo st0 hp kc ks := by
  subst hs
  obtain ⟨J, a1, a2, a3, a4, a5, rfl⟩ := hV
  unfold rV at hq
  split at hq
  · next c fs hx =>
    split at hq
    · next hc =>
      rw [beq_iff_eq] at hc
      subst hc
      unfold bN at hq
      split at hq
      · next hp1 e => exact mjr_invokevirtual hd hm a1 a2 a3 (Or.inl ⟨_, _, hx, a4, a5⟩) hn (Nat.le_of_ble_eq_true hsum) hdd h1 h2 (Or.inl rfl) (hR _ _ _ _ e) (fun r hp2 hr _ => by cases hr; exact k _ hq)
      · exact mj_no hq
    · exact mj_no hq
  · exact mj_no hq
theorem mjq_wN {R : mjR} {d' : Nat} {idx j h n : Nat} {As rest : List Value} {st0 : List Value} {kk : mjH → mjU} (hd : decode I.2.2.1 pc = .ok (.invokevirtual idx, 3)) (hm : mjMr I.2.1 idx = some j) (hV : mjTf j n) (hn : As.length = n) (hsum : Nat.ble (rest.map fun v => v.category).sum 8 = true) (hs : As.reverse ++ .ref h :: rest = st0) (hR : mjC R d') (hdd : d' + 1 ≤ d) (h1 : kc ≤ C) (h2 : ks ≤ S) (hq : rS h (bN (R j (.ref h :: As) hp) kk) = some q) (k : ∀ hp', kk hp' = some q → mjG X d C S I Post (pc + 3) lo rest hp' kc ks) : mjG X d C S I Post pc lo st0 hp kc ks := by
  subst hs
  obtain ⟨J, a1, a2, a3, a4, rfl⟩ := hV
  unfold rS at hq
  split at hq
  · next i hi =>
    obtain ⟨b1, b2⟩ := mjKi_ok hi
    unfold bN at hq
    split at hq
    · next hp1 e => exact mjr_invokevirtual hd hm a1 a2 a3 (Or.inr ⟨i, b1, b2, a4⟩) hn (Nat.le_of_ble_eq_true hsum) hdd h1 h2 (Or.inl rfl) (hR _ _ _ _ e) (fun r hp2 hr _ => by cases hr; exact k _ hq)
    · exact mj_no hq
  · exact mj_no hq
theorem mjq_scN {R : mjR} {d' : Nat} {idx j n : Nat} {As rest : List Value} {st0 : List Value} {kk : mjH → mjU} (hd : decode I.2.2.1 pc = .ok (.invokestatic idx, 3)) (hm : mjMr I.2.1 idx = some j) (hV : mjSf j n) (hn : As.length = n) (hsum : Nat.ble (rest.map fun v => v.category).sum 8 = true) (hs : As.reverse ++ rest = st0) (hR : mjC R d') (hdd : d' + 1 ≤ d) (h1 : kc ≤ C) (h2 : ks ≤ S) (hq : bN (R j As hp) kk = some q) (k : ∀ hp', kk hp' = some q → mjG X d C S I Post (pc + 3) lo rest hp' kc ks) : mjG X d C S I Post pc lo st0 hp kc ks := by
  subst hs
  obtain ⟨J, a1, a2, rfl⟩ := hV
  unfold bN at hq
  split at hq
  · next hp1 e => exact mjr_invokestatic hd hm a1 a2 hn (Nat.le_of_ble_eq_true hsum) hdd h1 h2 (Or.inl rfl) (hR _ _ _ _ e) (fun r hp2 hr _ => by cases hr; exact k _ hq)
  · exact mj_no hq
theorem mjq_copy {idx a b : Nat} {sp dp n : Int32} {rest : List Value} {kk : mjH → mjU} (hd : decode I.2.2.1 pc = .ok (.invokestatic idx, 3)) (hy : mjYr I.2.1 idx = true) (hsum : Nat.ble (rest.map fun v => v.category).sum 8 = true) (hdd : 1 ≤ d) (hq : cpY hp b sp a dp n kk = some q) (k : ∀ hp', kk hp' = some q → mjG X d C S I Post (pc + 3) lo rest hp' kc ks) : mjG X d C S I Post pc lo (.int n :: .int dp :: .ref a :: .int sp :: .ref b :: rest) hp kc ks := by
  unfold cpY at hq
  split at hq
  · next t0 n0 f t1 n1 g hb ha =>
    split at hq
    · next hc =>
      simp only [Bool.and_eq_true, beq_iff_eq, Bool.not_eq_true', decide_eq_false_iff_not, decide_eq_true_eq] at hc
      obtain ⟨⟨⟨⟨⟨⟨rfl, rfl⟩, g1⟩, g2⟩, g3⟩, g4⟩, g5⟩ := hc
      exact mjr_copy hd hy hb ha g1 g2 g3 g4 g5 (Nat.le_of_ble_eq_true hsum) hdd (k _ hq)
    · exact mj_no hq
  · exact mj_no hq
theorem mjq_ret {v : Int32} (hd : decode I.2.2.1 pc = .ok (.ireturn, 1)) (hr : I.2.2.2.2.1 = some .int) (h1 : kc ≤ C) (h2 : ks ≤ S) (hq : some (some (.int v), hp) = some q) : mjG X d C S I (mjEq q) pc lo [.int v] hp kc ks :=
  mjr_ireturn hd hr rfl h1 h2 (Option.some.inj hq)
theorem mjq_retZ {v : Int32} {ty : FieldType} (hd : decode I.2.2.1 pc = .ok (.ireturn, 1)) (hr : I.2.2.2.2.1 = some ty) (h1 : kc ≤ C) (h2 : ks ≤ S) (hq : (if narrow ty (.int v) = .int v then some (some (.int v), hp) else none) = some q) : mjG X d C S I (mjEq q) pc lo [.int v] hp kc ks := by
  by_cases c : narrow ty (.int v) = .int v
  · rw [if_pos c] at hq
    exact mjr_ireturn hd hr c h1 h2 (Option.some.inj hq)
  · rw [if_neg c] at hq
    exact mj_no hq
theorem mjq_lret {v : Int64} (hd : decode I.2.2.1 pc = .ok (.lreturn, 1)) (hr : I.2.2.2.2.1 = some .long) (h1 : kc ≤ C) (h2 : ks ≤ S) (hq : some (some (.long v), hp) = some q) : mjG X d C S I (mjEq q) pc lo [.long v] hp kc ks :=
  mjr_lreturn hd hr h1 h2 (Option.some.inj hq)
theorem mjq_nret (hd : decode I.2.2.1 pc = .ok (.return_, 1)) (hr : I.2.2.2.2.1 = none) (h1 : kc ≤ C) (h2 : ks ≤ S) (hq : some (none, hp) = some q) : mjG X d C S I (mjEq q) pc lo [] hp kc ks :=
  mjr_return hd hr h1 h2 (Option.some.inj hq)
theorem mjq_tsw {dflt lw hi off : Int} {offs : Array Int} {len tgt : Nat} {x c : Int32} {A B : mjU} (hd : decode I.2.2.1 pc = .ok (.tableswitch dflt lw hi offs, len)) (g1 : ¬ c.toInt < lw) (g2 : ¬ hi < c.toInt) (ho : offs[(c.toInt - lw).toNat]? = some off) (ht : (pc : Int) + off = (tgt : Int)) (hq : (if x = c then A else B) = some q) (kt : A = some q → mjG X d C S I Post tgt lo st hp kc ks) (kf : ¬ x = c → B = some q → mjG X d C S I Post pc lo (.int x :: st) hp kc ks) : mjG X d C S I Post pc lo (.int x :: st) hp kc ks := by
  by_cases e : x = c
  · rw [if_pos e] at hq
    subst e
    exact mjr_tableIn hd g1 g2 ho ht (kt hq)
  · rw [if_neg e] at hq
    exact kf e hq
theorem mjq_lsw {dflt : Int} {ps : Array (Int × Int)} {len tgt : Nat} {x c : Int32} {A B : mjU} (hd : decode I.2.2.1 pc = .ok (.lookupswitch dflt ps, len)) (hs : (ps.toList.zip (ps.toList.drop 1)).all (fun (a, next) => a.1 < next.1) = true) (ht : (pc : Int) + Op.lookupswitch.offset ps.toList dflt c.toInt = (tgt : Int)) (hq : (if x = c then A else B) = some q) (kt : A = some q → mjG X d C S I Post tgt lo st hp kc ks) (kf : ¬ x = c → B = some q → mjG X d C S I Post pc lo (.int x :: st) hp kc ks) : mjG X d C S I Post pc lo (.int x :: st) hp kc ks := by
  by_cases e : x = c
  · rw [if_pos e] at hq
    subst e
    exact mjr_lookup hd hs ht (kt hq)
  · rw [if_neg e] at hq
    exact kf e hq
theorem mjq_lswD {dflt : Int} {ps : Array (Int × Int)} {len tgt : Nat} {x : Int32} (L : List Int32) (hd : decode I.2.2.1 pc = .ok (.lookupswitch dflt ps, len)) (hs : (ps.toList.zip (ps.toList.drop 1)).all (fun (a, next) => a.1 < next.1) = true) (hL : ps.toList.map Prod.fst = L.map Int32.toInt) (hn : ∀ c ∈ L, ¬ x = c) (ht : (pc : Int) + dflt = (tgt : Int)) (k : mjG X d C S I Post tgt lo st hp kc ks) : mjG X d C S I Post pc lo (.int x :: st) hp kc ks :=
  mjr_lookup hd hs (by rw [mj_lkout _ L hL hn]; exact ht) k
theorem mj_all1 {x c : Int32} {L : List Int32} (h : ¬ x = c) (k : ∀ c ∈ L, ¬ x = c) : ∀ c' ∈ c :: L, ¬ x = c' := List.forall_mem_cons.mpr ⟨h, k⟩
theorem mj_all0 {x : Int32} : ∀ c ∈ ([] : List Int32), ¬ x = c := fun _ h => nomatch h
end MJT
