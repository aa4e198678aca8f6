def t_runF (j : Nat) (ci n : Nat) : Option (Option Value × mjH × Nat × Nat) := match mjMt j with
  | some J => mj_exF n true 20 J (0, mjLo0 [.ref 0] J.2.2.2.1, [], [.inr (ci, mjDf ci)]) 0 0
  | none => none
theorem t_program : (t_runF 100 7 400).isSome = true := by decide +kernel
