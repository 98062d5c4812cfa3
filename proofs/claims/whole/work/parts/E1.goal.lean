/-! the small machine's run of the law -/
def a_M0 : mM := mk Gz Vz
theorem a_goal (L : Nat) (xs : Nat → Int32) (h : L ≤ 3072) : ∃ f d r, a_run (some (L, xs)) f d 303 0 (a_ent 4 [.retAddr 0]) [] 0 0 a_M0 = some r ∧ r.2.2.2 = some (.int 1) ∧ r.1 ≤ 600000 ∧ r.2.1 ≤ 7302250 ∧ d ≤ 1000 := a_goal0 L xs h
