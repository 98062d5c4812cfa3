theorem rX7_init : a_ret 94 .return_ [] = some none := by rfl
theorem rX7_size {x : Int32} : a_ret 95 .ireturn [.int x] = some (some (.int x)) := by rfl
theorem rX7_get {x : Int32} : a_ret 96 .ireturn [.int x] = some (some (.int x)) := by rfl
theorem rX7_put : a_ret 97 .return_ [] = some none := by rfl
theorem rX7_add : a_ret 98 .return_ [] = some none := by rfl
theorem rX7_insert : a_ret 99 .return_ [] = some none := by rfl
theorem rX7_cut : a_ret 100 .return_ [] = some none := by rfl
theorem rX7_fill : a_ret 101 .return_ [] = some none := by rfl
theorem rX7_copy : a_ret 102 .return_ [] = some none := by rfl
theorem rX7_find {x : Int32} : a_ret 103 .ireturn [.int x] = some (some (.int x)) := by rfl
theorem rX7_count {x : Int32} : a_ret 104 .ireturn [.int x] = some (some (.int x)) := by rfl
theorem rM_max {x : Int32} : a_ret 289 .ireturn [.int x] = some (some (.int x)) := by rfl
theorem rM_min {x : Int32} : a_ret 290 .ireturn [.int x] = some (some (.int x)) := by rfl
theorem rM_lmax {x : Int64} : a_ret 291 .lreturn [.long x] = some (some (.long x)) := by rfl
theorem rM_lmin {x : Int64} : a_ret 292 .lreturn [.long x] = some (some (.long x)) := by rfl
theorem rJ9_floorDiv_7cf53 {x : Int32} : a_ret 293 .ireturn [.int x] = some (some (.int x)) := by rfl
theorem rJ9_floorMod_7cf53 {x : Int32} : a_ret 294 .ireturn [.int x] = some (some (.int x)) := by rfl
theorem rJ6_bitCount_0f7a4 {x : Int32} : a_ret 295 .ireturn [.int x] = some (some (.int x)) := by rfl
