def a_M0 : mM := fun _ => .inr (99, [])
theorem a_tst1 : (a_run none 5000 5 158 0 (a_ent 1 [.ref 0]) [] 1 2 (a_up a_M0 0 (.inr (10, a_fs0 10)))).isSome = true := by decide +kernel
theorem a_tst2 : (a_run none 100000 20 108 0 (a_ent 1 [.ref 0]) [] 1 2 (a_up a_M0 0 (.inr (9, a_fs0 9)))).isSome = true := by decide +kernel
