/-! bounds -/
theorem w4_out {N : Nat} {mem : zMem} {a lo hi : Int32} (h : a < lo ∨ hi < a) : f_X4_isWithin N mem a lo hi = some (0, mem) := by
  unfold f_X4_isWithin
  by_cases h1 : a < lo
  · rw [if_pos h1]
  · rw [if_neg h1, if_pos (h.resolve_left h1)]
theorem w5_out {N : Nat} {mem : zMem} {a lo hi : Int32} (h : a < lo ∨ hi < a) : f_X5_in N mem a lo hi = some (0, mem) := by
  unfold f_X5_in
  by_cases h1 : a < lo
  · rw [if_pos h1]
  · rw [if_neg h1, if_pos (h.resolve_left h1)]
theorem w4_in {N : Nat} {mem : zMem} {a lo hi : Int32} (h : ¬ (a < lo ∨ hi < a)) : f_X4_isWithin N mem a lo hi = some (1, mem) := by
  unfold f_X4_isWithin
  rw [if_neg (fun q => h (Or.inl q)), if_neg (fun q => h (Or.inr q))]
theorem w5_in {N : Nat} {mem : zMem} {a lo hi : Int32} (h : ¬ (a < lo ∨ hi < a)) : f_X5_in N mem a lo hi = some (1, mem) := by
  unfold f_X5_in
  rw [if_neg (fun q => h (Or.inl q)), if_neg (fun q => h (Or.inr q))]
theorem in_of {a M : Int32} {n : Nat} (hM : M.toInt = n) (h : ¬ (a < 0 ∨ M < a)) : ∃ j : Nat, j ≤ n ∧ a = nI j := nI_of2 hM (fun q => h (Or.inl q)) (Int32.not_lt.mp (fun q => h (Or.inr q)))
