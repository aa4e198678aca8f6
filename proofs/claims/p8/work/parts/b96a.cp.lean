/-! ===== a row copied into another ===== -/
section MJB96A
variable {s : mjSt3} {m : Nat} {k : mjH → mjU}
theorem row_93 : (mjW0 s)[93]? = some (.inl (0, 1335, .inl (s.1 93))) := by
  unfold mjW0
  rw [mjHT_get, tT_93]
  rfl
theorem row_94 : (mjW0 s)[94]? = some (.inl (0, 1335, .inl (s.1 94))) := by
  unfold mjW0
  rw [mjHT_get, tT_94]
  rfl
theorem cp_94 (h : m ≤ 1335) : cpY (mjW0 s) 93 0 94 0 (nI m) k = k (mjW0 (uI s 94 (va_cpy (s.1 93) (s.1 94) 0 0 m))) := by
  have z0 : (0 : Int32).toNatClampNeg = 0 := rfl
  have zm : (nI m).toNatClampNeg = m := nI_clamp (by omega)
  have c : ((0 : Nat) == 0 && (0 : Nat) == 0 && !decide ((0 : Int32) < 0) && !decide ((0 : Int32) < 0) && !decide (nI m < 0) && decide ((0 : Int32).toNatClampNeg + (nI m).toNatClampNeg ≤ 1335) && decide ((0 : Int32).toNatClampNeg + (nI m).toNatClampNeg ≤ 1335)) = true := by
    rw [zm, z0, decide_eq_false (nI_pos (show m < 2 ^ 31 by omega)), decide_eq_true (show 0 + m ≤ 1335 by omega)]
    rfl
  have st : (mjW0 s).set 94 (.inl (0, 1335, .inl (va_cpy (s.1 93) (s.1 94) 0 0 m))) = mjW0 (uI s 94 (va_cpy (s.1 93) (s.1 94) 0 0 m)) := by
    have := mjHT_set (T := T_0) (s := s) (s' := uI s 94 (va_cpy (s.1 93) (s.1 94) 0 0 m)) tT_94 (fun h' e => ⟨uI_ne _ _ _ _ e, rfl, rfl⟩)
    have e2 : tc (uI s 94 (va_cpy (s.1 93) (s.1 94) 0 0 m)) 94 (.inl (0, 1335, false)) = .inl (0, 1335, .inl (va_cpy (s.1 93) (s.1 94) 0 0 m)) := by
      show (Sum.inl (0, 1335, .inl ((uI s 94 (va_cpy (s.1 93) (s.1 94) 0 0 m)).1 94)) : va_E) = _
      rw [uI_same]
    rw [e2] at this
    exact this
  unfold cpY
  rw [row_93, row_94]
  dsimp only
  rw [c]
  dsimp only
  rw [zm, z0, st]
end MJB96A
