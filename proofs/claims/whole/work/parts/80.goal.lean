def a_M0 : mM := fun _ => .inr (99, [])
theorem a_goal (X : mX) (h : X.1 ≤ 3072) : ∃ f d r, a_run X f d 303 0 (a_ent 4 [.retAddr 0]) [] 0 0 a_M0 = some r ∧ r.2.2.2 = some (.int 1) ∧ r.1 ≤ 600000 ∧ r.2.1 ≤ 7302250 ∧ d ≤ 1000 := by
  sorry
