/-! ===== every order of every BLOCK: what waits, how much ===== -/
def vtM (T : TT) (L : List CD) (E : EV) (os : List Row) (m v : Nat) : Nat := if v < npT L m then pyT T L m v else vtR E os (jmT T L m) v
def osM (rs : List RcM) (z : PB) (m : Nat) : List Row := (zT rs z m).2.2.2.1
/-- a program that was accepted: what a RUN stands on -/
def PRG (T : TT) (N k0 : Nat) (t : PT) (rs : List RcM) (kb : Nat) (z : PB) (tr : Bool) : Prop := ACY T N t.1 ∧ (∀ m, m < nMem t.1 → OKe T t.1 m ∧ (psM t.1 m).length ≤ 6 ∧ hmM t.1 m < t.1.length) ∧ ∀ m, m ≤ 384 → isMT t.1 m = true → gdGS (i0T t m) (osM rs z m) ∧ sdW (osM rs z m) (i0T t m) ((kqT T rs kb m, 0, [], 0), npT t.1 m, i0T t m + (osM rs z m).length, false, 0) ∧ ∃ j l, jrun (EmT T t.1 tr (ktL k0 t.2.2.1) m) (osM rs z m) (jmT T t.1 m) = some (j, l)
section MJB27
variable {T : TT} {N k0 kb m k : Nat} {L : List CD} {t : PT} {rs : List RcM} {z : PB} {tr : Bool} {E : EV} {r : Row} {G : GS} {x : WS}
theorem okW_E {r : Row} {x : WS} (ok : okW r x) (h : isE r) : okEr 60 20 120 r x.1 := by
  rcases ok with ok | ⟨q, _⟩ | ⟨q, _⟩ | ⟨q, _⟩ | ⟨q, _⟩ | ⟨q, _⟩ | ⟨q, _⟩ | q | ⟨q, _⟩ | ⟨q, _⟩
  · exact ok
  all_goals
    exfalso
    unfold isE at h
  · rw [q] at h; exact absurd h (by decide)
  · rw [q] at h; exact absurd h (by decide)
  · rcases q with q | q <;> · rw [q.1] at h; exact absurd h (by decide)
  · rw [q] at h; exact absurd h (by decide)
  · rw [q] at h; exact absurd h (by decide)
  · rcases q with q | q | q | q <;> · rw [q] at h; exact absurd h (by decide)
  · rcases q with q | q | q | q <;> · rw [q] at h; exact absurd h (by decide)
  · rw [q] at h; exact absurd h (by decide)
  · rw [q] at h; exact absurd h (by decide)
theorem val_step {i : Nat} (ow : okW r x) (ok : okG r G) (e : x.1.2.2.2 = vG G) : (nxW r i x).1.2.2.2 = vG (nxG r G) ∧ (nxW r i x).2.1 = x.2.1 + (if r.1 = 20 then 1 else 0) ∧ (x.1.2.2.2 ≤ 120 → (nxW r i x).1.2.2.2 ≤ 120) := by
  have En : isE r → (nxW r i x).2.1 = x.2.1 + (if r.1 = 20 then 1 else 0) ∧ (x.1.2.2.2 ≤ 120 → (nxW r i x).1.2.2.2 ≤ 120) := by
    intro h
    have o := okW_E ow h
    rw [nxW_E h]
    refine ⟨?_, fun _ => o.2.2.2.2.1⟩
    rw [if_neg (fun q => by unfold isE at h; rw [q] at h; exact absurd h (by decide))]
    rfl
  rcases ok with o | ⟨o, G', eG⟩ | ⟨o, G', eG⟩ | ⟨o, n, G', n6, ob, eG⟩ | ⟨o, n, i', w, G', eG, hi, n6, oa⟩ | ⟨o, n, G', n6, oa, eG⟩ | ⟨o, eG⟩ | ⟨o, eG⟩ | ⟨o, eG⟩ | ⟨o, eG⟩ | ⟨o, eG⟩ | ⟨o, eG⟩
  · have hE : isE r := by unfold isE; rcases o with o | o | o | o | o <;> rw [o] <;> decide
    refine ⟨?_, En hE⟩
    rw [nxW_E hE, nxG_a o]
    show (hxE r x.1).2.2.2 = 1 + vG G
    rw [← e]
    unfold hxE
    rcases o with o | o | o | o | o
    · rw [o, if_pos (by decide)]; dsimp only; omega
    · rw [o, if_pos (by decide)]; dsimp only; omega
    · rw [o, if_pos (by decide)]; dsimp only; omega
    · rw [o, if_pos (by decide)]; dsimp only; omega
    · rw [o, if_neg (by decide), if_pos rfl]; dsimp only; omega
  · have hE : isE r := by unfold isE; rw [o]; decide
    refine ⟨?_, En hE⟩
    subst eG
    have e' : x.1.2.2.2 = 1 + (1 + vG G') := e
    rw [nxW_E hE, nxG_9 o]
    show (hxE r x.1).2.2.2 = 1 + vG G'
    unfold hxE
    rw [o, if_neg (by decide), if_neg (by decide), if_pos rfl]
    dsimp only
    omega
  · have hE : isE r := by unfold isE; rcases o with o | o | o | o <;> rw [o] <;> decide
    refine ⟨?_, En hE⟩
    rw [nxW_E hE, nxG_n (by rcases o with o | o | o | o <;> rw [o] <;> decide), ← e]
    show (hxE r x.1).2.2.2 = _
    unfold hxE
    rcases o with o | o | o | o
    · rw [o, if_neg (by decide), if_neg (by decide), if_neg (by decide), if_neg (by decide), if_neg (by decide), if_neg (by decide), if_neg (by decide)]
    · rw [o, if_neg (by decide), if_neg (by decide), if_neg (by decide), if_neg (by decide), if_neg (by decide), if_neg (by decide), if_neg (by decide)]
    · rw [o, if_neg (by decide), if_neg (by decide), if_neg (by decide), if_pos rfl]
    · rw [o, if_neg (by decide), if_neg (by decide), if_neg (by decide), if_neg (by decide), if_neg (by decide), if_neg (by decide), if_neg (by decide)]
  · have hE : isE r := by unfold isE; rw [o]; decide
    refine ⟨?_, En hE⟩
    subst eG
    have e' : x.1.2.2.2 = 1 + vG G' := e
    rw [nxW_E hE, nxG_11 o]
    show (hxE r x.1).2.2.2 = 0 + 1 + vG G'
    rw [hx_11 o]
    dsimp only
    omega
  · have hE : isE r := by unfold isE; rw [o]; decide
    refine ⟨?_, En hE⟩
    subst eG
    have e' : x.1.2.2.2 = 1 + (i' + 1 + vG G') := e
    rw [nxW_E hE, nxG_12 o]
    show (hxE r x.1).2.2.2 = i' + 1 + 1 + vG G'
    rw [hx_12 o]
    dsimp only
    omega
  · have hE : isE r := by unfold isE; rw [o]; decide
    refine ⟨?_, En hE⟩
    subst eG
    have e' : x.1.2.2.2 = n + 1 + vG G' := e
    rw [nxW_E hE, nxG_13 o]
    show (hxE r x.1).2.2.2 = 1 + vG G'
    rw [hx_13 o, oa, nN_nI (by omega)]
    dsimp only
    omega
  · subst eG
    have e' : x.1.2.2.2 = 0 := e
    have n : nxW r i x = ((x.1.1, x.1.2.1 + 1, x.1.2.2), x.2.1, i, x.2.2.2) := by unfold nxW; rw [if_pos o]
    rw [n, nxG_15 o, if_neg (by rw [o]; decide)]
    exact ⟨e', rfl, fun h => h⟩
  · subst eG
    have e' : x.1.2.2.2 = 1 + 0 := e
    have n : nxW r i x = (x.1, x.2.1, i, x.2.2.2) := by unfold nxW; rw [o, if_neg (by decide), if_pos rfl]
    rw [n, nxG_16 o, if_neg (by rw [o]; decide)]
    exact ⟨e', rfl, fun h => h⟩
  · subst eG
    have e' : x.1.2.2.2 = 1 + 0 := e
    have n : nxW r i x = ((x.1.1, x.1.2.1 - 2, x.1.2.2.1, x.1.2.2.2 - 1), x.2) := by unfold nxW; rw [o, if_neg (by decide), if_neg (by decide), if_pos rfl]
    rw [n, nxG_17 (Or.inl o), if_neg (by rw [o]; decide)]
    refine ⟨?_, rfl, fun h => ?_⟩
    · show x.1.2.2.2 - 1 = 0; omega
    · show x.1.2.2.2 - 1 ≤ 120; omega
  · subst eG
    have e' : x.1.2.2.2 = 1 + (1 + 0) := e
    have n : nxW r i x = ((x.1.1, x.1.2.1 - 2, x.1.2.2.1, x.1.2.2.2 - 2), x.2) := by unfold nxW; rw [o, if_neg (by decide), if_neg (by decide), if_neg (by decide), if_pos rfl]
    rw [n, nxG_17 (Or.inr o), if_neg (by rw [o]; decide)]
    refine ⟨?_, rfl, fun h => ?_⟩
    · show x.1.2.2.2 - 2 = 0; omega
    · show x.1.2.2.2 - 2 ≤ 120; omega
  · subst eG
    have e' : x.1.2.2.2 = 1 + 0 := e
    by_cases q : r.1 = 20
    · have n : nxW r i x = ((x.1.1, x.1.2.1 - 1, x.1.2.2.1, x.1.2.2.2 - 1), x.2.1 + 1, x.2.2.1, false, x.2.2.2.2) := by unfold nxW; rw [q, if_neg (by decide), if_neg (by decide), if_neg (by decide), if_neg (by decide), if_neg (by decide), if_pos rfl]
      rw [n, nxG_o (Or.inl q), if_pos q]
      refine ⟨?_, rfl, fun h => ?_⟩
      · show x.1.2.2.2 - 1 = 0; omega
      · show x.1.2.2.2 - 1 ≤ 120; omega
    · have q2 : r.1 = 21 ∨ r.1 = 24 ∨ r.1 = 28 ∨ r.1 = 25 := by
        rcases o with o | o | o | o | o
        · exact absurd o q
        · exact Or.inl o
        · exact Or.inr (Or.inl o)
        · exact Or.inr (Or.inr (Or.inr o))
        · exact Or.inr (Or.inr (Or.inl o.1))
      rw [nx_pop q2, nxG_o (by rcases q2 with h | h | h | h <;> rw [h] <;> decide), if_neg q]
      refine ⟨?_, rfl, fun h => ?_⟩
      · show x.1.2.2.2 - 1 = 0; omega
      · show x.1.2.2.2 - 1 ≤ 120; omega
  · subst eG
    rw [nxG_n (by rcases o with o | o | o | o | o | o | o <;> rw [o] <;> decide), if_neg (by rcases o with o | o | o | o | o | o | o <;> rw [o] <;> decide), ← e]
    rcases o with o | o | o | o | o | o | o
    · rw [nx_same (Or.inl o)]; exact ⟨rfl, rfl, fun h => h⟩
    · rw [nx_same (Or.inr (Or.inl o))]; exact ⟨rfl, rfl, fun h => h⟩
    · have n : nxW r i x = ((if r.2.2.1 = -1 then x.1.1 else x.1.1 + 1, x.1.2), x.2.1, x.2.2.1, true, x.2.2.2.2) := by unfold nxW; rw [o, if_neg (by decide), if_neg (by decide), if_neg (by decide), if_neg (by decide), if_pos rfl]
      rw [n]; exact ⟨rfl, rfl, fun h => h⟩
    · rw [nx_same (Or.inr (Or.inr (Or.inl o)))]; exact ⟨rfl, rfl, fun h => h⟩
    · rw [nx_same (Or.inr (Or.inr (Or.inr o)))]; exact ⟨rfl, rfl, fun h => h⟩
    · have n : nxW r i x = (x.1, x.2.1, x.2.2.1, x.2.2.2.1, x.2.2.2.2 + 1) := by unfold nxW; rw [o, if_neg (by decide), if_neg (by decide), if_neg (by decide), if_neg (by decide), if_neg (by decide), if_neg (by decide), if_neg (by decide), if_neg (by decide), if_pos rfl]
      rw [n]; exact ⟨rfl, rfl, fun h => h⟩
    · have n : nxW r i x = (x.1, x.2.1, x.2.2.1, x.2.2.2.1, x.2.2.2.2 - 1) := by unfold nxW; rw [o, if_neg (by decide), if_neg (by decide), if_neg (by decide), if_neg (by decide), if_neg (by decide), if_neg (by decide), if_neg (by decide), if_neg (by decide), if_neg (by decide), if_pos rfl]
      rw [n]; exact ⟨rfl, rfl, fun h => h⟩
theorem val_run : ∀ (a : List Row) (i : Nat) (x : WS) (G : GS), sdW a i x → sdG a G → x.1.2.2.2 = vG G → x.1.2.2.2 ≤ 120 → (fdW a i x).1.2.2.2 = vG (fdG a G) ∧ (fdW a i x).2.1 = x.2.1 + n20 a ∧ vG (fdG a G) ≤ 120
  | [], i, x, G, _, _, e, h => ⟨e, rfl, by show vG G ≤ 120; omega⟩
  | r :: a, i, x, G, sw, sg, e, h => by
    obtain ⟨a1, a2, a3⟩ := val_step (i := i) sw.1 sg.1 e
    obtain ⟨b1, b2, b3⟩ := val_run a (i + 1) (nxW r i x) (nxG r G) sw.2 sg.2 a1 (a3 h)
    refine ⟨b1, ?_, b3⟩
    show (fdW a (i + 1) (nxW r i x)).2.1 = x.2.1 + ((if r.1 = 20 then 1 else 0) + n20 a)
    omega
theorem EmT_1 {kt : Int32 → Nat} : (EmT T L tr kt m).1 = T ∧ (EmT T L tr kt m).2.1 = L := by
  unfold EmT
  by_cases e : m = 384
  · rw [if_pos e]; exact ⟨rfl, rfl⟩
  · rw [if_neg e]; exact ⟨rfl, rfl⟩
/-- at every order of every BLOCK -/
theorem PRG.pos (P : PRG T N k0 t rs kb z tr) (hm : m ≤ 384) (im : isMT t.1 m = true) (hk : k ≤ (osM rs z m).length) : ∃ j l, jrun (EmT T t.1 tr (ktL k0 t.2.2.1) m) ((osM rs z m).take k) (jmT T t.1 m) = some (j, l) ∧ JOK T t.1 (vtM T t.1 (EmT T t.1 tr (ktL k0 t.2.2.1) m) (osM rs z m) m) j (fdG ((osM rs z m).take k) []) ∧ (jRS j).length ≤ 120 ∧ l.length ≤ k ∧ sdG ((osM rs z m).drop k) (fdG ((osM rs z m).take k) []) := by
  obtain ⟨Ac, PM, PB⟩ := P
  obtain ⟨⟨g1, g2, g3⟩, sw, jf, lf, hj⟩ := PB m hm im
  obtain ⟨E, hE⟩ : ∃ E, E = EmT T t.1 tr (ktL k0 t.2.2.1) m := ⟨_, rfl⟩
  obtain ⟨os, ho⟩ : ∃ os, os = osM rs z m := ⟨_, rfl⟩
  rw [← ho] at g1 g2 g3 sw hj hk
  rw [← hE] at hj
  rw [← hE, ← ho]
  have E1 : E.1 = T := by rw [hE]; exact EmT_1.1
  have E2 : E.2.1 = t.1 := by rw [hE]; exact EmT_1.2
  have split : os = os.take k ++ os.drop k := (List.take_append_drop k os).symm
  have tl : (os.take k).length = k := by rw [List.length_take]; omega
  have g1' := g1
  rw [split, sdG_app] at g1'
  have hj' := hj
  rw [split, jrun_app] at hj'
  cases ha : jrun E (os.take k) (jmT T t.1 m) with
  | none => rw [ha] at hj'; cases hj'
  | some y =>
    obtain ⟨j, l⟩ := y
    have hh : ∀ c, E.2.2.2.2.1 = some c → c < E.2.1.length := by
      intro c hc
      rw [E2]
      rw [hE] at hc
      unfold EmT at hc
      by_cases e : m = 384
      · rw [if_pos e] at hc; cases hc
      · rw [if_neg e] at hc
        have hc' : some (hmM t.1 m) = some c := hc
        cases hc'
        exact (PM m (isMT_lt im e).1).2.2
    have np6 : npT t.1 m ≤ 6 := by
      unfold npT
      by_cases e : m = 384
      · rw [if_pos e]; omega
      · rw [if_neg e]; exact (PM m (isMT_lt im e).1).2.1
    have J0 : JOK E.1 E.2.1 (vtM T t.1 E os m) (jmT T t.1 m) [] := by
      refine ⟨⟨rfl, rfl, rfl⟩, fun x hx => (by cases hx), fun e he => ?_, by show 0 < _; omega⟩
      have he' : e ∈ (if m = 384 then [] else pvs T t.1 m (psM t.1 m).length) := he
      by_cases q : m = 384
      · rw [if_pos q] at he'; cases he'
      · rw [if_neg q] at he'
        obtain ⟨i, i1, i2⟩ := pvs_mem _ e he'
        have npe : npT t.1 m = (psM t.1 m).length := if_neg q
        rw [i2]
        refine ⟨?_, by show i < 16; omega, ?_⟩
        · show (if i < npT t.1 m then pyT T t.1 m i else _) = _
          rw [if_pos (by omega)]
        · rw [E2]
          exact tOK.v Ac.1 (py_v Ac.1 (PM m (isMT_lt im q).1).2.2)
    have cond : ∀ a1 r a2 j2 l2, os.take k = a1 ++ r :: a2 → r.1 = 20 → jrun E a1 (jmT T t.1 m) = some (j2, l2) → vtM T t.1 E os m j2.2.2.2.1 = j2.2.2.2.2.2.1.2 ∧ j2.2.2.2.1 < 16 := by
      intro a1 r a2 j2 l2 ea er ej
      have eo : a1 ++ r :: (a2 ++ os.drop k) = os := by rw [show a1 ++ r :: (a2 ++ os.drop k) = (a1 ++ r :: a2) ++ os.drop k by rw [List.append_assoc]; rfl, ← ea, List.take_append_drop]
      have s1 : sdG (a1 ++ r :: (a2 ++ os.drop k)) [] := by rw [eo]; exact g1
      rw [sdG_app] at s1
      have s2 : sdW (a1 ++ r :: (a2 ++ os.drop k)) (i0T t m) ((kqT T rs kb m, 0, [], 0), npT t.1 m, i0T t m + os.length, false, 0) := by rw [eo]; exact sw
      rw [sdW_app] at s2
      have s3 : jrun E (a1 ++ r :: (a2 ++ os.drop k)) (jmT T t.1 m) = some (jf, lf) := by rw [eo]; exact hj
      rw [jrun_app, ej] at s3
      dsimp only at s3
      have td := (td_run a1 _ [] j2 l2 s1.1 ej).1
      have td0 : (jmT T t.1 m).2.2.2.1 = npT t.1 m := rfl
      have vr := (val_run a1 _ _ [] s2.1 s1.1 rfl (Nat.zero_le _)).2.1
      refine ⟨?_, ?_⟩
      · cases hy : jrow E r j2 with
        | none =>
          have : jrun E (r :: (a2 ++ os.drop k)) j2 = none := by
            show (match jrow E r j2 with
              | none => none
              | some (j1, c1) => match jrun E (a2 ++ os.drop k) j1 with
                | none => none
                | some (j2, c2) => some (j2, c1 ++ c2)) = none
            rw [hy]
          rw [this] at s3
          cases s3
        | some y =>
          have v := vtR_at a1 (a2 ++ os.drop k) (jmT T t.1 m) [] j2 l2 s1.1 ej er ⟨y, hy⟩
          rw [eo] at v
          unfold vtM
          rw [if_neg (by omega)]
          exact v
      · have ow := s2.2.1
        have lt : (fdW a1 (i0T t m) ((kqT T rs kb m, 0, [], 0), npT t.1 m, i0T t m + os.length, false, 0)).2.1 < 16 := by
          rcases ow with ok | ⟨q, _⟩ | ⟨q, _⟩ | ⟨q, _⟩ | ⟨q, _⟩ | ⟨_, _, q, _⟩ | ⟨q, _⟩ | q | ⟨q, _⟩ | ⟨q, _⟩
          · have := ok.1
            rw [er] at this
            exact absurd this (by decide)
          · rw [er] at q; exact absurd q (by decide)
          · rw [er] at q; exact absurd q (by decide)
          · rcases q with q | q <;> · have := q.1; rw [er] at this; exact absurd this (by decide)
          · rw [er] at q; exact absurd q (by decide)
          · exact q
          · rw [er] at q; exact absurd q (by decide)
          · rw [er] at q; exact absurd q (by decide)
          · rw [er] at q; exact absurd q (by decide)
          · rw [er] at q; exact absurd q (by decide)
        have vr' : (fdW a1 (i0T t m) ((kqT T rs kb m, 0, [], 0), npT t.1 m, i0T t m + os.length, false, 0)).2.1 = npT t.1 m + n20 a1 := vr
        omega
    have JK := rel_run (N := N) (vt := vtM T t.1 E os m) (by rw [E1, E2]; exact Ac) (by rw [E2]; exact fun m hm => (PM m hm).2.1) hh (os.take k) _ [] j l g1'.1 J0 ha cond
    rw [E1, E2] at JK
    have sw' := sw
    rw [split, sdW_app] at sw'
    have vb := (val_run _ _ _ [] sw'.1 g1'.1 rfl (Nat.zero_le _)).2.2
    have ll := (td_run _ _ [] j l g1'.1 ha).2
    exact ⟨j, l, rfl, JK, by rw [RELj_len _ _ _ _ JK.1]; exact vb, by omega, g1'.2⟩
end MJB27
