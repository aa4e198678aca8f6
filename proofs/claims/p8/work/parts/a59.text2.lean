/-! ===== what was read of a TEXT: CLASSES, main ===== -/
/-- CLASSES one behind the other: head, MEMBERS -/
def CCh : Nat → List (HD × List RcM) → Nat → Prop
  | p, [], p' => p ≤ p'
  | p, E :: l, p' => ∃ q e, p ≤ E.1.1 ∧ E.1.1 < q ∧ (¬ E.1.2.2.1 = 0 → E.1.1 < E.1.2.2.1 ∧ E.1.2.2.1 < q) ∧ (∀ r, r ∈ E.2 → q ≤ r.1.1 ∧ r.2.1 ≤ e) ∧ q ≤ e ∧ CCh e l p'
def mmD (L : List CD) : List MD := (FL L).map (fun x => x.2)
section MJA59
variable {T : TT} {M N k0 : Nat}
theorem flat_snoc : ∀ (L : List CD) (b : Nat) (E : CD), flat b (L ++ [E]) = flat b L ++ E.2.map (fun md => (b + L.length, md))
  | [], b, E => by
    show E.2.map (fun md => (b, md)) ++ [] = [] ++ _
    rw [List.append_nil, List.nil_append]
    rfl
  | D :: L, b, E => by
    show D.2.map (fun md => (b, md)) ++ flat (b + 1) (L ++ [E]) = (D.2.map (fun md => (b, md)) ++ flat (b + 1) L) ++ _
    rw [flat_snoc L (b + 1) E, List.append_assoc, List.length_cons, show b + 1 + L.length = b + (L.length + 1) by omega]
theorem mmD_snoc (L : List CD) (E : CD) : mmD (L ++ [E]) = mmD L ++ E.2 := by
  unfold mmD FL
  rw [flat_snoc, List.map_append, List.map_map]
  congr 1
  exact (List.map_congr_left (fun _ _ => rfl)).trans (List.map_id _)
theorem mmD_at {L : List CD} {m : Nat} (h : m < nMem L) : (mmD L)[m]? = some (mdM L m) := by
  have hl : m < (FL L).length := by unfold FL; rw [flat_len]; exact h
  unfold mmD mdM
  rw [List.getElem?_map, List.getElem?_eq_getElem hl]
  rfl
theorem mmD_len (L : List CD) : (mmD L).length = nMem L := by unfold mmD FL; rw [List.length_map, flat_len]
theorem pClass_ok (hN : N ≤ 3000) (h0 : (T N).1 = 0) (hk0 : k0 ≤ 1000) {n c kq i0 : Nat} {r : Nat × CD × List Nat × List Row × List (Nat × Nat)} (hkq : k0 ≤ kq) (h : pClass T (N + 1) n c kq i0 = .inr r) (hc : c < N) (h2 : 4 * kq ≤ 4 * k0 + c) (h3 : i0 ≤ 2 * c) : ∃ rs : List RcM, r.2.1.2 = rs.map (fun r => r.1) ∧ HDk T N r.2.1.1 ∧ c < r.1 ∧ r.1 ≤ N ∧ agR c r.1 r.2.2.2.2 ∧ 4 * (kq + r.2.2.1.length) ≤ 4 * k0 + r.1 ∧ i0 + r.2.2.2.1.length ≤ 2 * r.1 ∧ (∃ q, c ≤ r.2.1.1.1 ∧ r.2.1.1.1 < q ∧ (¬ r.2.1.1.2.2.1 = 0 → r.2.1.1.1 < r.2.1.1.2.2.1 ∧ r.2.1.1.2.2.1 < q) ∧ (∀ x, x ∈ rs → q ≤ x.1.1 ∧ x.2.1 ≤ r.1) ∧ q ≤ r.1) ∧ ∀ kt ot ag, KT kt kq r.2.2.1 → OT ot i0 r.2.2.2.1 → AGf ag r.2.2.2.2 → CHm T (N + 1) kt ot ag k0 c rs r.1 := by
  unfold pClass at h
  cases hh : pHead T n c with
  | inl e => rw [hh] at h; cases h
  | inr hd =>
    rw [hh] at h
    dsimp only at h
    obtain ⟨a1, a2, a3, a4, a5, a6, a7⟩ := pHead_ok h0 hc hh
    cases hm : pMems T (N + 1) (kq + (hdK hd.2).length) i0 25 (hd.1, [], [], [], []) with
    | inl e => rw [hm] at h; cases h
    | inr z =>
      rw [hm] at h
      dsimp only at h
      obtain ⟨rs, ka, oa, ga, b1, b2, b3, b4, b5, b6, b7, b8, b9, b10, b11⟩ := pMems_ok (k0 := k0) hN h0 (kq := kq + (hdK hd.2).length) (i0 := i0) hk0 (by omega) 25 (hd.1, [], [], [], []) z hm a3 (by show 4 * (kq + (hdK hd.2).length + 0) ≤ 4 * k0 + hd.1; omega) (by show i0 + 0 ≤ 2 * hd.1; omega) (by show 0 ≤ 24; omega)
      dsimp only at b1 b2 b3 b4 b5 b7 b11
      rw [List.nil_append] at b1 b2 b3 b4
      by_cases g : (T z.1).1 = 125
      · rw [if_pos g] at h
        have c1 := lt_z h0 b6 g (by decide)
        cases h
        refine ⟨rs, b1, a1, by show c < z.1 + 1; omega, by show z.1 + 1 ≤ N; omega, ?_, ?_, by show i0 + z.2.2.2.1.length ≤ 2 * (z.1 + 1); omega, ⟨hd.1, by show c ≤ hd.2.1; omega, by show hd.2.1 < hd.1; omega, a7, fun x hx => ?_, by show hd.1 ≤ z.1 + 1; omega⟩, fun kt ot ag k1 k2 k3 => ?_⟩
        · show agR c (z.1 + 1) z.2.2.2.2
          rw [b4]
          exact b7.mono (by omega) (by omega)
        · show 4 * (kq + (hdK hd.2 ++ z.2.2.1).length) ≤ 4 * k0 + (z.1 + 1)
          rw [List.length_append]
          omega
        · obtain ⟨i, hi⟩ := List.mem_iff_getElem?.mp hx
          have t := b11 (ktL (kq + (hdK hd.2).length) ka) (fun i => (oa[i - i0]?).getD (0, 0, 0, 0, 0)) (rAg ga (fun _ => 0)) (by
            show KT _ (kq + (hdK hd.2).length + 0) ka
            exact KT_ex _ _ (by rw [b2] at b8; omega)) (by
            intro j r hj
            show (oa[i0 + 0 + j - i0]?).getD (0, 0, 0, 0, 0) = r
            rw [show i0 + 0 + j - i0 = j by omega, hj]
            rfl) (fun e he => rAg_m ga _ b7.2 e he)
          obtain ⟨_, u1, u2⟩ := t.at hi
          exact ⟨u1, by show x.2.1 ≤ z.1 + 1; omega⟩
        · have k1' := KT.app k1
          have t := b11 kt ot ag (by show KT kt (kq + (hdK hd.2).length + 0) ka; rw [← b2]; exact k1'.2) (by show OT ot (i0 + 0) oa; rw [← b3]; exact k2) (by rw [← b4]; exact k3)
          have l1 := CHm.lo (p0 := c) t (by omega)
          have l2 : CHm T (N + 1) kt ot ag k0 z.1 [] (z.1 + 1) := by show z.1 ≤ z.1 + 1; omega
          have l3 := CHm.app l1 l2
          rw [List.append_nil] at l3
          exact l3
      · rw [if_neg g] at h; cases h
theorem pClasses_ok (hN : N ≤ 3000) (h0 : (T N).1 = 0) (hk0 : k0 ≤ 1000) : ∀ (f : Nat) (z y : PC), pClasses T (N + 1) k0 f z = .inr y → z.1 ≤ N → 4 * z.2.2.1.length ≤ z.1 → z.2.2.2.1.length ≤ 2 * z.1 → (∀ (c : Nat) (E : CD), z.2.1[c]? = some E → HDk T N E.1) → ∃ (rs : List RcM) (ka : List Nat) (oa : List Row) (ga : List (Nat × Nat)), mmD y.2.1 = mmD z.2.1 ++ rs.map (fun r => r.1) ∧ y.2.2.1 = z.2.2.1 ++ ka ∧ y.2.2.2.1 = z.2.2.2.1 ++ oa ∧ y.2.2.2.2 = z.2.2.2.2 ++ ga ∧ z.1 ≤ y.1 ∧ y.1 ≤ N ∧ agR z.1 y.1 ga ∧ 4 * y.2.2.1.length ≤ y.1 ∧ y.2.2.2.1.length ≤ 2 * y.1 ∧ (∀ (c : Nat) (E : CD), y.2.1[c]? = some E → HDk T N E.1) ∧ (∃ ll : List (HD × List RcM), y.2.1 = z.2.1 ++ ll.map (fun E => (E.1, E.2.map (fun r => r.1))) ∧ rs = ll.flatMap (fun E => E.2) ∧ CCh z.1 ll y.1) ∧ ∀ kt ot ag, KT kt (k0 + z.2.2.1.length) ka → OT ot z.2.2.2.1.length oa → AGf ag ga → CHm T (N + 1) kt ot ag k0 z.1 rs y.1
  | 0, z, y, h, h1, h2, h3, h4 => by
    cases h
    exact ⟨[], [], [], [], (List.append_nil _).symm, (List.append_nil _).symm, (List.append_nil _).symm, (List.append_nil _).symm, Nat.le_refl _, h1, agR.nil, h2, h3, h4, ⟨[], (List.append_nil _).symm, rfl, Nat.le_refl _⟩, fun _ _ _ _ _ _ => Nat.le_refl _⟩
  | f + 1, z, y, h, h1, h2, h3, h4 => by
    unfold pClasses at h
    by_cases g : (T z.1).1 = 5
    · rw [if_pos g] at h
      have c1 := lt_z h0 h1 g (by decide)
      cases hm : pClass T (N + 1) z.2.1.length z.1 (k0 + z.2.2.1.length) z.2.2.2.1.length with
      | inl e => rw [hm] at h; cases h
      | inr r =>
        rw [hm] at h
        dsimp only at h
        obtain ⟨r1, a1, a2, a3, a4, a5, a6, a7, ⟨q1, aq⟩, a8⟩ := pClass_ok (k0 := k0) hN h0 hk0 (by omega) hm c1 (by omega) h3
        obtain ⟨rs, ka, oa, ga, b1, b2, b3, b4, b5, b6, b7, b8, b9, b10, ⟨ll, l1, l2, l3⟩, b11⟩ := pClasses_ok hN h0 hk0 f (r.1, z.2.1 ++ [r.2.1], z.2.2.1 ++ r.2.2.1, z.2.2.2.1 ++ r.2.2.2.1, z.2.2.2.2 ++ r.2.2.2.2) y h a4 (by show 4 * (z.2.2.1 ++ r.2.2.1).length ≤ r.1; rw [List.length_append]; omega) (by show (z.2.2.2.1 ++ r.2.2.2.1).length ≤ 2 * r.1; rw [List.length_append]; omega) (by
          intro c E hc
          have hc' : (z.2.1 ++ [r.2.1])[c]? = some E := hc
          by_cases hl : c < z.2.1.length
          · rw [List.getElem?_append_left hl] at hc'
            exact h4 c E hc'
          · have hi := (List.getElem?_eq_some_iff.mp hc').1
            rw [List.length_append, List.length_singleton] at hi
            rw [show c = z.2.1.length by omega, List.getElem?_append_right (Nat.le_refl _), Nat.sub_self] at hc'
            have e : r.2.1 = E := by simpa using hc'
            rw [← e]
            exact a2)
        dsimp only at b1 b2 b3 b4 b5 b7 b11
        refine ⟨r1 ++ rs, r.2.2.1 ++ ka, r.2.2.2.1 ++ oa, r.2.2.2.2 ++ ga, by rw [b1, mmD_snoc, a1, List.append_assoc, List.map_append], by rw [b2, List.append_assoc], by rw [b3, List.append_assoc], by rw [b4, List.append_assoc], by omega, b6, a5.app b7 (Nat.le_refl _) b5 (by omega), b8, b9, b10, ⟨(r.2.1.1, r1) :: ll, ?_, by rw [l2]; rfl, q1, r.1, aq.1, aq.2.1, aq.2.2.1, aq.2.2.2.1, aq.2.2.2.2, l3⟩, fun kt ot ag k1 k2 k3 => ?_⟩
        · rw [l1]
          show z.2.1 ++ [r.2.1] ++ _ = z.2.1 ++ ((r.2.1.1, r1.map (fun r => r.1)) :: _)
          rw [← a1, List.append_assoc]
          rfl
        have k1' := KT.app k1
        have k2' := OT.app k2
        have k3' := AGf.app k3
        refine CHm.app (a8 kt ot ag k1'.1 k2'.1 k3'.1) (b11 kt ot ag ?_ ?_ k3'.2)
        · rw [List.length_append, ← Nat.add_assoc]; exact k1'.2
        · rw [List.length_append]; exact k2'.2
    · rw [if_neg g] at h
      cases h
      exact ⟨[], [], [], [], (List.append_nil _).symm, (List.append_nil _).symm, (List.append_nil _).symm, (List.append_nil _).symm, Nat.le_refl _, h1, agR.nil, h2, h3, h4, ⟨[], (List.append_nil _).symm, rfl, Nat.le_refl _⟩, fun _ _ _ _ _ _ => Nat.le_refl _⟩
/-- main, as it was read: its first KIND kb -/
def MNk (T : TT) (N : Nat) (kt : Int32 → Nat) (ot : Nat → Row) (ag : Nat → Int32) (t : PT) (kb : Nat) (z : PB) : Prop := prS T (N + 1) 30 0 0 t.2.1.1 0 kb t.2.2.2.2.2 = .inr z ∧ z.2.1 = t.2.1.2 ∧ z.1 ≤ N ∧ KT kt kb z.2.2.1 ∧ OT ot t.2.2.2.2.2 (z.2.2.2.1 ++ [oOver]) ∧ AGf ag z.2.2.2.2
theorem pText_ok (hN : N ≤ 3000) (h0 : (T N).1 = 0) (hk0 : k0 ≤ 1000) {t : PT} (h : pText T (N + 1) k0 = .inr t) : ∃ (rs : List RcM) (kb : Nat) (z : PB), mmD t.1 = rs.map (fun r => r.1) ∧ (∀ (c : Nat) (E : CD), t.1[c]? = some E → HDk T N E.1) ∧ t.2.2.2.2.1.Pairwise (fun x y => ¬ x.1 = y.1) ∧ 4 * t.2.2.1.length ≤ N ∧ t.2.2.2.1.length ≤ 2 * N + 1 ∧ 1 ≤ t.2.1.1 ∧ t.2.1.1 ≤ N ∧ 4 * kb ≤ 4 * k0 + t.2.1.1 ∧ t.2.2.2.2.2 ≤ 2 * t.2.1.1 ∧ (k0 ≤ kb) ∧ (∃ ll : List (HD × List RcM), t.1 = ll.map (fun E => (E.1, E.2.map (fun r => r.1))) ∧ rs = ll.flatMap (fun E => E.2) ∧ CCh 0 ll (t.2.1.1 - 1)) ∧ ∀ kt ot ag, KT kt k0 t.2.2.1 → OT ot 0 t.2.2.2.1 → AGf ag t.2.2.2.2.1 → CHm T (N + 1) kt ot ag k0 0 rs (t.2.1.1 - 1) ∧ MNk T N kt ot ag t kb z := by
  unfold pText at h
  cases hc : pClasses T (N + 1) k0 17 (0, [], [], [], []) with
  | inl e => rw [hc] at h; cases h
  | inr y =>
    rw [hc] at h
    dsimp only at h
    obtain ⟨rs, ka, oa, ga, b1, b2, b3, b4, b5, b6, b7, b8, b9, b10, ⟨ll, l1, l2, l3⟩, b11⟩ := pClasses_ok hN h0 hk0 17 (0, [], [], [], []) y hc (Nat.zero_le _) (by show 4 * 0 ≤ 0; omega) (by show 0 ≤ 2 * 0; omega) (fun c E hc => by cases hc)
    dsimp only at b1 b2 b3 b4 b5 b7 b11
    rw [List.nil_append] at b2 b3 b4
    by_cases g9 : (T y.1).1 = 9
    · rw [if_pos g9] at h
      have c1 := lt_z h0 b6 g9 (by decide)
      cases hs : prS T (N + 1) 30 0 0 (y.1 + 1) 0 (k0 + y.2.2.1.length) y.2.2.2.1.length with
      | inl e => rw [hs] at h; cases h
      | inr z =>
        rw [hs] at h
        dsimp only at h
        obtain ⟨s1, s2, s3, s4⟩ := prS_ln 30 0 0 _ _ _ _ z (by omega) hs
        have zN := prS_le hN h0 (Nat.zero_le _) (show y.1 + 1 ≤ N by omega) (Nat.zero_le _) hs
        by_cases g0 : (T z.1).1 = 0
        · rw [if_pos g0] at h
          cases h
          refine ⟨rs, k0 + y.2.2.1.length, z, b1, b10, ?_, ?_, ?_, by show 1 ≤ y.1 + 1; omega, by show y.1 + 1 ≤ N; omega, by show 4 * (k0 + y.2.2.1.length) ≤ 4 * k0 + (y.1 + 1); omega, by show y.2.2.2.1.length ≤ 2 * (y.1 + 1); omega, by omega, ⟨ll, by rw [l1]; rfl, l2, l3⟩, fun kt ot ag k1 k2 k3 => ⟨?_, hs, rfl, zN, ?_, ?_, ?_⟩⟩
          · show (y.2.2.2.2 ++ z.2.2.2.2).Pairwise _
            rw [b4]
            exact (b7.app s2 (by omega) (by omega) (by omega)).2
          · show 4 * (y.2.2.1 ++ z.2.2.1).length ≤ N
            rw [List.length_append]
            omega
          · show (y.2.2.2.1 ++ z.2.2.2.1 ++ [oOver]).length ≤ 2 * N + 1
            rw [List.length_append, List.length_append, List.length_singleton]
            omega
          · show CHm T (N + 1) kt ot ag k0 0 rs (y.1 + 1 - 1)
            have k1' : KT kt k0 (y.2.2.1 ++ z.2.2.1) := k1
            have k2' : OT ot 0 (y.2.2.2.1 ++ z.2.2.2.1 ++ [oOver]) := k2
            have k3' : AGf ag (y.2.2.2.2 ++ z.2.2.2.2) := k3
            exact b11 kt ot ag (by rw [← b2]; exact (KT.app k1').1) (by rw [← b3]; exact (OT.app (OT.app k2').1).1) (by rw [← b4]; exact (AGf.app k3').1)
          · have k1' : KT kt k0 (y.2.2.1 ++ z.2.2.1) := k1
            exact (KT.app k1').2
          · have k2' : OT ot 0 (y.2.2.2.1 ++ z.2.2.2.1 ++ [oOver]) := k2
            rw [List.append_assoc] at k2'
            have := (OT.app k2').2
            rw [Nat.zero_add] at this
            exact this
          · have k3' : AGf ag (y.2.2.2.2 ++ z.2.2.2.2) := k3
            exact (AGf.app k3').2
        · rw [if_neg g0] at h; cases h
    · rw [if_neg g9] at h; cases h
end MJA59
