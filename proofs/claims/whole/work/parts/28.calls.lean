theorem kg_0_0 : 0 < a_nf 0 ∧ a_kd (a_ty.getD 0 (fun _ => .int) 0) = 2 := by decide +kernel
theorem kp_0_0 : 0 < a_nf 0 ∧ a_fit (a_ty.getD 0 (fun _ => .int) 0) (.ref 0) = true := by decide +kernel
theorem kg_0_1 : 1 < a_nf 0 ∧ a_kd (a_ty.getD 0 (fun _ => .int) 1) = 2 := by decide +kernel
theorem kp_0_1 : 1 < a_nf 0 ∧ a_fit (a_ty.getD 0 (fun _ => .int) 1) (.ref 0) = true := by decide +kernel
theorem kg_0_2 : 2 < a_nf 0 ∧ a_kd (a_ty.getD 0 (fun _ => .int) 2) = 2 := by decide +kernel
theorem kp_0_2 : 2 < a_nf 0 ∧ a_fit (a_ty.getD 0 (fun _ => .int) 2) (.ref 0) = true := by decide +kernel
theorem kg_0_3 : 3 < a_nf 0 ∧ a_kd (a_ty.getD 0 (fun _ => .int) 3) = 0 := by decide +kernel
theorem kp_0_3 : 3 < a_nf 0 ∧ a_ty.getD 0 (fun _ => .int) 3 = .int := by decide +kernel
theorem kg_1_0 : 0 < a_nf 1 ∧ a_kd (a_ty.getD 1 (fun _ => .int) 0) = 2 := by decide +kernel
theorem kp_1_0 : 0 < a_nf 1 ∧ a_fit (a_ty.getD 1 (fun _ => .int) 0) (.ref 0) = true := by decide +kernel
theorem kg_1_1 : 1 < a_nf 1 ∧ a_kd (a_ty.getD 1 (fun _ => .int) 1) = 2 := by decide +kernel
theorem kp_1_1 : 1 < a_nf 1 ∧ a_fit (a_ty.getD 1 (fun _ => .int) 1) (.ref 0) = true := by decide +kernel
theorem kg_1_2 : 2 < a_nf 1 ∧ a_kd (a_ty.getD 1 (fun _ => .int) 2) = 2 := by decide +kernel
theorem kp_1_2 : 2 < a_nf 1 ∧ a_fit (a_ty.getD 1 (fun _ => .int) 2) (.ref 0) = true := by decide +kernel
theorem kg_1_3 : 3 < a_nf 1 ∧ a_kd (a_ty.getD 1 (fun _ => .int) 3) = 2 := by decide +kernel
theorem kp_1_3 : 3 < a_nf 1 ∧ a_fit (a_ty.getD 1 (fun _ => .int) 3) (.ref 0) = true := by decide +kernel
theorem kg_1_4 : 4 < a_nf 1 ∧ a_kd (a_ty.getD 1 (fun _ => .int) 4) = 2 := by decide +kernel
theorem kp_1_4 : 4 < a_nf 1 ∧ a_fit (a_ty.getD 1 (fun _ => .int) 4) (.ref 0) = true := by decide +kernel
theorem kg_1_5 : 5 < a_nf 1 ∧ a_kd (a_ty.getD 1 (fun _ => .int) 5) = 2 := by decide +kernel
theorem kp_1_5 : 5 < a_nf 1 ∧ a_fit (a_ty.getD 1 (fun _ => .int) 5) (.ref 0) = true := by decide +kernel
theorem kg_1_6 : 6 < a_nf 1 ∧ a_kd (a_ty.getD 1 (fun _ => .int) 6) = 2 := by decide +kernel
theorem kp_1_6 : 6 < a_nf 1 ∧ a_fit (a_ty.getD 1 (fun _ => .int) 6) (.ref 0) = true := by decide +kernel
theorem kg_1_7 : 7 < a_nf 1 ∧ a_kd (a_ty.getD 1 (fun _ => .int) 7) = 2 := by decide +kernel
theorem kp_1_7 : 7 < a_nf 1 ∧ a_fit (a_ty.getD 1 (fun _ => .int) 7) (.ref 0) = true := by decide +kernel
theorem kg_1_8 : 8 < a_nf 1 ∧ a_kd (a_ty.getD 1 (fun _ => .int) 8) = 2 := by decide +kernel
theorem kp_1_8 : 8 < a_nf 1 ∧ a_fit (a_ty.getD 1 (fun _ => .int) 8) (.ref 0) = true := by decide +kernel
theorem kg_1_9 : 9 < a_nf 1 ∧ a_kd (a_ty.getD 1 (fun _ => .int) 9) = 2 := by decide +kernel
theorem kp_1_9 : 9 < a_nf 1 ∧ a_fit (a_ty.getD 1 (fun _ => .int) 9) (.ref 0) = true := by decide +kernel
theorem kg_1_10 : 10 < a_nf 1 ∧ a_kd (a_ty.getD 1 (fun _ => .int) 10) = 2 := by decide +kernel
theorem kp_1_10 : 10 < a_nf 1 ∧ a_fit (a_ty.getD 1 (fun _ => .int) 10) (.ref 0) = true := by decide +kernel
theorem kg_1_11 : 11 < a_nf 1 ∧ a_kd (a_ty.getD 1 (fun _ => .int) 11) = 2 := by decide +kernel
theorem kp_1_11 : 11 < a_nf 1 ∧ a_fit (a_ty.getD 1 (fun _ => .int) 11) (.ref 0) = true := by decide +kernel
theorem kg_1_12 : 12 < a_nf 1 ∧ a_kd (a_ty.getD 1 (fun _ => .int) 12) = 2 := by decide +kernel
theorem kp_1_12 : 12 < a_nf 1 ∧ a_fit (a_ty.getD 1 (fun _ => .int) 12) (.ref 0) = true := by decide +kernel
theorem kg_1_13 : 13 < a_nf 1 ∧ a_kd (a_ty.getD 1 (fun _ => .int) 13) = 2 := by decide +kernel
theorem kp_1_13 : 13 < a_nf 1 ∧ a_fit (a_ty.getD 1 (fun _ => .int) 13) (.ref 0) = true := by decide +kernel
theorem kg_1_14 : 14 < a_nf 1 ∧ a_kd (a_ty.getD 1 (fun _ => .int) 14) = 0 := by decide +kernel
theorem kp_1_14 : 14 < a_nf 1 ∧ a_ty.getD 1 (fun _ => .int) 14 = .int := by decide +kernel
theorem kg_2_0 : 0 < a_nf 2 ∧ a_kd (a_ty.getD 2 (fun _ => .int) 0) = 2 := by decide +kernel
theorem kp_2_0 : 0 < a_nf 2 ∧ a_fit (a_ty.getD 2 (fun _ => .int) 0) (.ref 0) = true := by decide +kernel
theorem kg_2_1 : 1 < a_nf 2 ∧ a_kd (a_ty.getD 2 (fun _ => .int) 1) = 2 := by decide +kernel
theorem kp_2_1 : 1 < a_nf 2 ∧ a_fit (a_ty.getD 2 (fun _ => .int) 1) (.ref 0) = true := by decide +kernel
theorem kg_2_2 : 2 < a_nf 2 ∧ a_kd (a_ty.getD 2 (fun _ => .int) 2) = 0 := by decide +kernel
theorem kp_2_2 : 2 < a_nf 2 ∧ a_ty.getD 2 (fun _ => .int) 2 = .int := by decide +kernel
theorem kg_2_3 : 3 < a_nf 2 ∧ a_kd (a_ty.getD 2 (fun _ => .int) 3) = 2 := by decide +kernel
theorem kp_2_3 : 3 < a_nf 2 ∧ a_fit (a_ty.getD 2 (fun _ => .int) 3) (.ref 0) = true := by decide +kernel
theorem kg_2_4 : 4 < a_nf 2 ∧ a_kd (a_ty.getD 2 (fun _ => .int) 4) = 2 := by decide +kernel
theorem kp_2_4 : 4 < a_nf 2 ∧ a_fit (a_ty.getD 2 (fun _ => .int) 4) (.ref 0) = true := by decide +kernel
theorem kg_2_5 : 5 < a_nf 2 ∧ a_kd (a_ty.getD 2 (fun _ => .int) 5) = 2 := by decide +kernel
theorem kp_2_5 : 5 < a_nf 2 ∧ a_fit (a_ty.getD 2 (fun _ => .int) 5) (.ref 0) = true := by decide +kernel
theorem kg_3_0 : 0 < a_nf 3 ∧ a_kd (a_ty.getD 3 (fun _ => .int) 0) = 2 := by decide +kernel
theorem kp_3_0 : 0 < a_nf 3 ∧ a_fit (a_ty.getD 3 (fun _ => .int) 0) (.ref 0) = true := by decide +kernel
theorem kg_3_1 : 1 < a_nf 3 ∧ a_kd (a_ty.getD 3 (fun _ => .int) 1) = 2 := by decide +kernel
theorem kp_3_1 : 1 < a_nf 3 ∧ a_fit (a_ty.getD 3 (fun _ => .int) 1) (.ref 0) = true := by decide +kernel
theorem kg_4_0 : 0 < a_nf 4 ∧ a_kd (a_ty.getD 4 (fun _ => .int) 0) = 0 := by decide +kernel
theorem kp_4_0 : 0 < a_nf 4 ∧ a_ty.getD 4 (fun _ => .int) 0 = .int := by decide +kernel
theorem kg_4_1 : 1 < a_nf 4 ∧ a_kd (a_ty.getD 4 (fun _ => .int) 1) = 2 := by decide +kernel
theorem kp_4_1 : 1 < a_nf 4 ∧ a_fit (a_ty.getD 4 (fun _ => .int) 1) (.ref 0) = true := by decide +kernel
theorem kg_4_2 : 2 < a_nf 4 ∧ a_kd (a_ty.getD 4 (fun _ => .int) 2) = 2 := by decide +kernel
theorem kp_4_2 : 2 < a_nf 4 ∧ a_fit (a_ty.getD 4 (fun _ => .int) 2) (.ref 0) = true := by decide +kernel
theorem kg_4_3 : 3 < a_nf 4 ∧ a_kd (a_ty.getD 4 (fun _ => .int) 3) = 2 := by decide +kernel
theorem kp_4_3 : 3 < a_nf 4 ∧ a_fit (a_ty.getD 4 (fun _ => .int) 3) (.ref 0) = true := by decide +kernel
theorem kg_4_4 : 4 < a_nf 4 ∧ a_kd (a_ty.getD 4 (fun _ => .int) 4) = 2 := by decide +kernel
theorem kp_4_4 : 4 < a_nf 4 ∧ a_fit (a_ty.getD 4 (fun _ => .int) 4) (.ref 0) = true := by decide +kernel
theorem kg_4_5 : 5 < a_nf 4 ∧ a_kd (a_ty.getD 4 (fun _ => .int) 5) = 0 := by decide +kernel
theorem kp_4_5 : 5 < a_nf 4 ∧ a_ty.getD 4 (fun _ => .int) 5 = .int := by decide +kernel
theorem kg_5_0 : 0 < a_nf 5 ∧ a_kd (a_ty.getD 5 (fun _ => .int) 0) = 2 := by decide +kernel
theorem kp_5_0 : 0 < a_nf 5 ∧ a_fit (a_ty.getD 5 (fun _ => .int) 0) (.ref 0) = true := by decide +kernel
theorem kg_5_1 : 1 < a_nf 5 ∧ a_kd (a_ty.getD 5 (fun _ => .int) 1) = 0 := by decide +kernel
theorem kp_5_1 : 1 < a_nf 5 ∧ a_ty.getD 5 (fun _ => .int) 1 = .int := by decide +kernel
theorem kg_5_2 : 2 < a_nf 5 ∧ a_kd (a_ty.getD 5 (fun _ => .int) 2) = 0 := by decide +kernel
theorem kp_5_2 : 2 < a_nf 5 ∧ a_ty.getD 5 (fun _ => .int) 2 = .int := by decide +kernel
theorem kg_6_0 : 0 < a_nf 6 ∧ a_kd (a_ty.getD 6 (fun _ => .int) 0) = 2 := by decide +kernel
theorem kp_6_0 : 0 < a_nf 6 ∧ a_fit (a_ty.getD 6 (fun _ => .int) 0) (.ref 0) = true := by decide +kernel
theorem kg_6_1 : 1 < a_nf 6 ∧ a_kd (a_ty.getD 6 (fun _ => .int) 1) = 2 := by decide +kernel
theorem kp_6_1 : 1 < a_nf 6 ∧ a_fit (a_ty.getD 6 (fun _ => .int) 1) (.ref 0) = true := by decide +kernel
theorem kg_6_2 : 2 < a_nf 6 ∧ a_kd (a_ty.getD 6 (fun _ => .int) 2) = 2 := by decide +kernel
theorem kp_6_2 : 2 < a_nf 6 ∧ a_fit (a_ty.getD 6 (fun _ => .int) 2) (.ref 0) = true := by decide +kernel
theorem kg_6_3 : 3 < a_nf 6 ∧ a_kd (a_ty.getD 6 (fun _ => .int) 3) = 2 := by decide +kernel
theorem kp_6_3 : 3 < a_nf 6 ∧ a_fit (a_ty.getD 6 (fun _ => .int) 3) (.ref 0) = true := by decide +kernel
theorem kg_6_4 : 4 < a_nf 6 ∧ a_kd (a_ty.getD 6 (fun _ => .int) 4) = 2 := by decide +kernel
theorem kp_6_4 : 4 < a_nf 6 ∧ a_fit (a_ty.getD 6 (fun _ => .int) 4) (.ref 0) = true := by decide +kernel
theorem kg_6_5 : 5 < a_nf 6 ∧ a_kd (a_ty.getD 6 (fun _ => .int) 5) = 2 := by decide +kernel
theorem kp_6_5 : 5 < a_nf 6 ∧ a_fit (a_ty.getD 6 (fun _ => .int) 5) (.ref 0) = true := by decide +kernel
theorem kg_6_6 : 6 < a_nf 6 ∧ a_kd (a_ty.getD 6 (fun _ => .int) 6) = 0 := by decide +kernel
theorem kp_6_6 : 6 < a_nf 6 ∧ a_ty.getD 6 (fun _ => .int) 6 = .int := by decide +kernel
theorem kg_6_7 : 7 < a_nf 6 ∧ a_kd (a_ty.getD 6 (fun _ => .int) 7) = 2 := by decide +kernel
theorem kp_6_7 : 7 < a_nf 6 ∧ a_fit (a_ty.getD 6 (fun _ => .int) 7) (.ref 0) = true := by decide +kernel
theorem kg_6_8 : 8 < a_nf 6 ∧ a_kd (a_ty.getD 6 (fun _ => .int) 8) = 1 := by decide +kernel
theorem kp_6_8 : 8 < a_nf 6 ∧ a_ty.getD 6 (fun _ => .int) 8 = .long := by decide +kernel
theorem kg_6_9 : 9 < a_nf 6 ∧ a_kd (a_ty.getD 6 (fun _ => .int) 9) = 2 := by decide +kernel
theorem kp_6_9 : 9 < a_nf 6 ∧ a_fit (a_ty.getD 6 (fun _ => .int) 9) (.ref 0) = true := by decide +kernel
theorem kg_6_10 : 10 < a_nf 6 ∧ a_kd (a_ty.getD 6 (fun _ => .int) 10) = 0 := by decide +kernel
theorem kp_6_10 : 10 < a_nf 6 ∧ a_ty.getD 6 (fun _ => .int) 10 = .int := by decide +kernel
theorem kg_6_11 : 11 < a_nf 6 ∧ a_kd (a_ty.getD 6 (fun _ => .int) 11) = 0 := by decide +kernel
theorem kp_6_11 : 11 < a_nf 6 ∧ a_ty.getD 6 (fun _ => .int) 11 = .int := by decide +kernel
theorem kg_6_12 : 12 < a_nf 6 ∧ a_kd (a_ty.getD 6 (fun _ => .int) 12) = 0 := by decide +kernel
theorem kp_6_12 : 12 < a_nf 6 ∧ a_ty.getD 6 (fun _ => .int) 12 = .int := by decide +kernel
theorem kg_7_0 : 0 < a_nf 7 ∧ a_kd (a_ty.getD 7 (fun _ => .int) 0) = 2 := by decide +kernel
theorem kp_7_0 : 0 < a_nf 7 ∧ a_fit (a_ty.getD 7 (fun _ => .int) 0) (.ref 0) = true := by decide +kernel
theorem kg_7_1 : 1 < a_nf 7 ∧ a_kd (a_ty.getD 7 (fun _ => .int) 1) = 0 := by decide +kernel
theorem kp_7_1 : 1 < a_nf 7 ∧ a_ty.getD 7 (fun _ => .int) 1 = .int := by decide +kernel
theorem kg_8_0 : 0 < a_nf 8 ∧ a_kd (a_ty.getD 8 (fun _ => .int) 0) = 0 := by decide +kernel
theorem kp_8_0 : 0 < a_nf 8 ∧ a_ty.getD 8 (fun _ => .int) 0 = .int := by decide +kernel
theorem kg_8_1 : 1 < a_nf 8 ∧ a_kd (a_ty.getD 8 (fun _ => .int) 1) = 0 := by decide +kernel
theorem kp_8_1 : 1 < a_nf 8 ∧ a_ty.getD 8 (fun _ => .int) 1 = .int := by decide +kernel
theorem kg_8_2 : 2 < a_nf 8 ∧ a_kd (a_ty.getD 8 (fun _ => .int) 2) = 0 := by decide +kernel
theorem kp_8_2 : 2 < a_nf 8 ∧ a_ty.getD 8 (fun _ => .int) 2 = .int := by decide +kernel
theorem kg_8_3 : 3 < a_nf 8 ∧ a_kd (a_ty.getD 8 (fun _ => .int) 3) = 0 := by decide +kernel
theorem kp_8_3 : 3 < a_nf 8 ∧ a_ty.getD 8 (fun _ => .int) 3 = .int := by decide +kernel
theorem kg_8_4 : 4 < a_nf 8 ∧ a_kd (a_ty.getD 8 (fun _ => .int) 4) = 1 := by decide +kernel
theorem kp_8_4 : 4 < a_nf 8 ∧ a_ty.getD 8 (fun _ => .int) 4 = .long := by decide +kernel
theorem kg_8_5 : 5 < a_nf 8 ∧ a_kd (a_ty.getD 8 (fun _ => .int) 5) = 0 := by decide +kernel
theorem kp_8_5 : 5 < a_nf 8 ∧ a_ty.getD 8 (fun _ => .int) 5 = .int := by decide +kernel
theorem kg_8_6 : 6 < a_nf 8 ∧ a_kd (a_ty.getD 8 (fun _ => .int) 6) = 0 := by decide +kernel
theorem kp_8_6 : 6 < a_nf 8 ∧ a_ty.getD 8 (fun _ => .int) 6 = .int := by decide +kernel
theorem kg_9_0 : 0 < a_nf 9 ∧ a_kd (a_ty.getD 9 (fun _ => .int) 0) = 2 := by decide +kernel
theorem kp_9_0 : 0 < a_nf 9 ∧ a_fit (a_ty.getD 9 (fun _ => .int) 0) (.ref 0) = true := by decide +kernel
theorem kg_9_1 : 1 < a_nf 9 ∧ a_kd (a_ty.getD 9 (fun _ => .int) 1) = 2 := by decide +kernel
theorem kp_9_1 : 1 < a_nf 9 ∧ a_fit (a_ty.getD 9 (fun _ => .int) 1) (.ref 0) = true := by decide +kernel
theorem kg_9_2 : 2 < a_nf 9 ∧ a_kd (a_ty.getD 9 (fun _ => .int) 2) = 2 := by decide +kernel
theorem kp_9_2 : 2 < a_nf 9 ∧ a_fit (a_ty.getD 9 (fun _ => .int) 2) (.ref 0) = true := by decide +kernel
theorem kg_9_3 : 3 < a_nf 9 ∧ a_kd (a_ty.getD 9 (fun _ => .int) 3) = 2 := by decide +kernel
theorem kp_9_3 : 3 < a_nf 9 ∧ a_fit (a_ty.getD 9 (fun _ => .int) 3) (.ref 0) = true := by decide +kernel
theorem kg_9_4 : 4 < a_nf 9 ∧ a_kd (a_ty.getD 9 (fun _ => .int) 4) = 2 := by decide +kernel
theorem kp_9_4 : 4 < a_nf 9 ∧ a_fit (a_ty.getD 9 (fun _ => .int) 4) (.ref 0) = true := by decide +kernel
theorem kg_9_5 : 5 < a_nf 9 ∧ a_kd (a_ty.getD 9 (fun _ => .int) 5) = 2 := by decide +kernel
theorem kp_9_5 : 5 < a_nf 9 ∧ a_fit (a_ty.getD 9 (fun _ => .int) 5) (.ref 0) = true := by decide +kernel
theorem kg_9_6 : 6 < a_nf 9 ∧ a_kd (a_ty.getD 9 (fun _ => .int) 6) = 2 := by decide +kernel
theorem kp_9_6 : 6 < a_nf 9 ∧ a_fit (a_ty.getD 9 (fun _ => .int) 6) (.ref 0) = true := by decide +kernel
theorem kg_9_7 : 7 < a_nf 9 ∧ a_kd (a_ty.getD 9 (fun _ => .int) 7) = 2 := by decide +kernel
theorem kp_9_7 : 7 < a_nf 9 ∧ a_fit (a_ty.getD 9 (fun _ => .int) 7) (.ref 0) = true := by decide +kernel
theorem kg_9_8 : 8 < a_nf 9 ∧ a_kd (a_ty.getD 9 (fun _ => .int) 8) = 2 := by decide +kernel
theorem kp_9_8 : 8 < a_nf 9 ∧ a_fit (a_ty.getD 9 (fun _ => .int) 8) (.ref 0) = true := by decide +kernel
theorem kg_9_9 : 9 < a_nf 9 ∧ a_kd (a_ty.getD 9 (fun _ => .int) 9) = 2 := by decide +kernel
theorem kp_9_9 : 9 < a_nf 9 ∧ a_fit (a_ty.getD 9 (fun _ => .int) 9) (.ref 0) = true := by decide +kernel
theorem kg_9_10 : 10 < a_nf 9 ∧ a_kd (a_ty.getD 9 (fun _ => .int) 10) = 2 := by decide +kernel
theorem kp_9_10 : 10 < a_nf 9 ∧ a_fit (a_ty.getD 9 (fun _ => .int) 10) (.ref 0) = true := by decide +kernel
theorem kg_9_11 : 11 < a_nf 9 ∧ a_kd (a_ty.getD 9 (fun _ => .int) 11) = 2 := by decide +kernel
theorem kp_9_11 : 11 < a_nf 9 ∧ a_fit (a_ty.getD 9 (fun _ => .int) 11) (.ref 0) = true := by decide +kernel
theorem kg_9_12 : 12 < a_nf 9 ∧ a_kd (a_ty.getD 9 (fun _ => .int) 12) = 0 := by decide +kernel
theorem kp_9_12 : 12 < a_nf 9 ∧ a_ty.getD 9 (fun _ => .int) 12 = .int := by decide +kernel
theorem kg_9_13 : 13 < a_nf 9 ∧ a_kd (a_ty.getD 9 (fun _ => .int) 13) = 1 := by decide +kernel
theorem kp_9_13 : 13 < a_nf 9 ∧ a_ty.getD 9 (fun _ => .int) 13 = .long := by decide +kernel
theorem kg_10_0 : 0 < a_nf 10 ∧ a_kd (a_ty.getD 10 (fun _ => .int) 0) = 2 := by decide +kernel
theorem kp_10_0 : 0 < a_nf 10 ∧ a_fit (a_ty.getD 10 (fun _ => .int) 0) (.ref 0) = true := by decide +kernel
theorem kg_10_1 : 1 < a_nf 10 ∧ a_kd (a_ty.getD 10 (fun _ => .int) 1) = 0 := by decide +kernel
theorem kp_10_1 : 1 < a_nf 10 ∧ a_ty.getD 10 (fun _ => .int) 1 = .int := by decide +kernel
theorem kg_10_2 : 2 < a_nf 10 ∧ a_kd (a_ty.getD 10 (fun _ => .int) 2) = 0 := by decide +kernel
theorem kp_10_2 : 2 < a_nf 10 ∧ a_ty.getD 10 (fun _ => .int) 2 = .int := by decide +kernel
theorem kg_10_3 : 3 < a_nf 10 ∧ a_kd (a_ty.getD 10 (fun _ => .int) 3) = 0 := by decide +kernel
theorem kp_10_3 : 3 < a_nf 10 ∧ a_ty.getD 10 (fun _ => .int) 3 = .int := by decide +kernel
theorem kg_10_4 : 4 < a_nf 10 ∧ a_kd (a_ty.getD 10 (fun _ => .int) 4) = 0 := by decide +kernel
theorem kp_10_4 : 4 < a_nf 10 ∧ a_ty.getD 10 (fun _ => .int) 4 = .int := by decide +kernel
theorem kg_10_5 : 5 < a_nf 10 ∧ a_kd (a_ty.getD 10 (fun _ => .int) 5) = 0 := by decide +kernel
theorem kp_10_5 : 5 < a_nf 10 ∧ a_ty.getD 10 (fun _ => .int) 5 = .int := by decide +kernel
theorem kg_10_6 : 6 < a_nf 10 ∧ a_kd (a_ty.getD 10 (fun _ => .int) 6) = 0 := by decide +kernel
theorem kp_10_6 : 6 < a_nf 10 ∧ a_ty.getD 10 (fun _ => .int) 6 = .int := by decide +kernel
theorem kg_10_7 : 7 < a_nf 10 ∧ a_kd (a_ty.getD 10 (fun _ => .int) 7) = 0 := by decide +kernel
theorem kp_10_7 : 7 < a_nf 10 ∧ a_ty.getD 10 (fun _ => .int) 7 = .int := by decide +kernel
theorem kg_10_8 : 8 < a_nf 10 ∧ a_kd (a_ty.getD 10 (fun _ => .int) 8) = 0 := by decide +kernel
theorem kp_10_8 : 8 < a_nf 10 ∧ a_ty.getD 10 (fun _ => .int) 8 = .int := by decide +kernel
theorem kg_10_9 : 9 < a_nf 10 ∧ a_kd (a_ty.getD 10 (fun _ => .int) 9) = 2 := by decide +kernel
theorem kp_10_9 : 9 < a_nf 10 ∧ a_fit (a_ty.getD 10 (fun _ => .int) 9) (.ref 0) = true := by decide +kernel
theorem kg_10_10 : 10 < a_nf 10 ∧ a_kd (a_ty.getD 10 (fun _ => .int) 10) = 0 := by decide +kernel
theorem kp_10_10 : 10 < a_nf 10 ∧ a_ty.getD 10 (fun _ => .int) 10 = .int := by decide +kernel
theorem kg_10_11 : 11 < a_nf 10 ∧ a_kd (a_ty.getD 10 (fun _ => .int) 11) = 2 := by decide +kernel
theorem kp_10_11 : 11 < a_nf 10 ∧ a_fit (a_ty.getD 10 (fun _ => .int) 11) (.ref 0) = true := by decide +kernel
theorem kg_10_12 : 12 < a_nf 10 ∧ a_kd (a_ty.getD 10 (fun _ => .int) 12) = 2 := by decide +kernel
theorem kp_10_12 : 12 < a_nf 10 ∧ a_fit (a_ty.getD 10 (fun _ => .int) 12) (.ref 0) = true := by decide +kernel
theorem kg_10_13 : 13 < a_nf 10 ∧ a_kd (a_ty.getD 10 (fun _ => .int) 13) = 2 := by decide +kernel
theorem kp_10_13 : 13 < a_nf 10 ∧ a_fit (a_ty.getD 10 (fun _ => .int) 13) (.ref 0) = true := by decide +kernel
theorem kg_10_14 : 14 < a_nf 10 ∧ a_kd (a_ty.getD 10 (fun _ => .int) 14) = 2 := by decide +kernel
theorem kp_10_14 : 14 < a_nf 10 ∧ a_fit (a_ty.getD 10 (fun _ => .int) 14) (.ref 0) = true := by decide +kernel
theorem kg_10_15 : 15 < a_nf 10 ∧ a_kd (a_ty.getD 10 (fun _ => .int) 15) = 2 := by decide +kernel
theorem kp_10_15 : 15 < a_nf 10 ∧ a_fit (a_ty.getD 10 (fun _ => .int) 15) (.ref 0) = true := by decide +kernel
theorem kg_10_16 : 16 < a_nf 10 ∧ a_kd (a_ty.getD 10 (fun _ => .int) 16) = 2 := by decide +kernel
theorem kp_10_16 : 16 < a_nf 10 ∧ a_fit (a_ty.getD 10 (fun _ => .int) 16) (.ref 0) = true := by decide +kernel
theorem kg_10_17 : 17 < a_nf 10 ∧ a_kd (a_ty.getD 10 (fun _ => .int) 17) = 2 := by decide +kernel
theorem kp_10_17 : 17 < a_nf 10 ∧ a_fit (a_ty.getD 10 (fun _ => .int) 17) (.ref 0) = true := by decide +kernel
theorem kg_10_18 : 18 < a_nf 10 ∧ a_kd (a_ty.getD 10 (fun _ => .int) 18) = 2 := by decide +kernel
theorem kp_10_18 : 18 < a_nf 10 ∧ a_fit (a_ty.getD 10 (fun _ => .int) 18) (.ref 0) = true := by decide +kernel
theorem kg_10_19 : 19 < a_nf 10 ∧ a_kd (a_ty.getD 10 (fun _ => .int) 19) = 2 := by decide +kernel
theorem kp_10_19 : 19 < a_nf 10 ∧ a_fit (a_ty.getD 10 (fun _ => .int) 19) (.ref 0) = true := by decide +kernel
theorem kg_10_20 : 20 < a_nf 10 ∧ a_kd (a_ty.getD 10 (fun _ => .int) 20) = 2 := by decide +kernel
theorem kp_10_20 : 20 < a_nf 10 ∧ a_fit (a_ty.getD 10 (fun _ => .int) 20) (.ref 0) = true := by decide +kernel
theorem kg_10_21 : 21 < a_nf 10 ∧ a_kd (a_ty.getD 10 (fun _ => .int) 21) = 2 := by decide +kernel
theorem kp_10_21 : 21 < a_nf 10 ∧ a_fit (a_ty.getD 10 (fun _ => .int) 21) (.ref 0) = true := by decide +kernel
theorem kg_10_22 : 22 < a_nf 10 ∧ a_kd (a_ty.getD 10 (fun _ => .int) 22) = 2 := by decide +kernel
theorem kp_10_22 : 22 < a_nf 10 ∧ a_fit (a_ty.getD 10 (fun _ => .int) 22) (.ref 0) = true := by decide +kernel
theorem kg_10_23 : 23 < a_nf 10 ∧ a_kd (a_ty.getD 10 (fun _ => .int) 23) = 2 := by decide +kernel
theorem kp_10_23 : 23 < a_nf 10 ∧ a_fit (a_ty.getD 10 (fun _ => .int) 23) (.ref 0) = true := by decide +kernel
theorem kg_10_24 : 24 < a_nf 10 ∧ a_kd (a_ty.getD 10 (fun _ => .int) 24) = 2 := by decide +kernel
theorem kp_10_24 : 24 < a_nf 10 ∧ a_fit (a_ty.getD 10 (fun _ => .int) 24) (.ref 0) = true := by decide +kernel
theorem kg_10_25 : 25 < a_nf 10 ∧ a_kd (a_ty.getD 10 (fun _ => .int) 25) = 2 := by decide +kernel
theorem kp_10_25 : 25 < a_nf 10 ∧ a_fit (a_ty.getD 10 (fun _ => .int) 25) (.ref 0) = true := by decide +kernel
theorem kg_10_26 : 26 < a_nf 10 ∧ a_kd (a_ty.getD 10 (fun _ => .int) 26) = 2 := by decide +kernel
theorem kp_10_26 : 26 < a_nf 10 ∧ a_fit (a_ty.getD 10 (fun _ => .int) 26) (.ref 0) = true := by decide +kernel
theorem kg_10_27 : 27 < a_nf 10 ∧ a_kd (a_ty.getD 10 (fun _ => .int) 27) = 2 := by decide +kernel
theorem kp_10_27 : 27 < a_nf 10 ∧ a_fit (a_ty.getD 10 (fun _ => .int) 27) (.ref 0) = true := by decide +kernel
theorem kg_10_28 : 28 < a_nf 10 ∧ a_kd (a_ty.getD 10 (fun _ => .int) 28) = 2 := by decide +kernel
theorem kp_10_28 : 28 < a_nf 10 ∧ a_fit (a_ty.getD 10 (fun _ => .int) 28) (.ref 0) = true := by decide +kernel
theorem kg_10_29 : 29 < a_nf 10 ∧ a_kd (a_ty.getD 10 (fun _ => .int) 29) = 2 := by decide +kernel
theorem kp_10_29 : 29 < a_nf 10 ∧ a_fit (a_ty.getD 10 (fun _ => .int) 29) (.ref 0) = true := by decide +kernel
theorem kg_10_30 : 30 < a_nf 10 ∧ a_kd (a_ty.getD 10 (fun _ => .int) 30) = 2 := by decide +kernel
theorem kp_10_30 : 30 < a_nf 10 ∧ a_fit (a_ty.getD 10 (fun _ => .int) 30) (.ref 0) = true := by decide +kernel
theorem kg_10_31 : 31 < a_nf 10 ∧ a_kd (a_ty.getD 10 (fun _ => .int) 31) = 2 := by decide +kernel
theorem kp_10_31 : 31 < a_nf 10 ∧ a_fit (a_ty.getD 10 (fun _ => .int) 31) (.ref 0) = true := by decide +kernel
theorem kg_10_32 : 32 < a_nf 10 ∧ a_kd (a_ty.getD 10 (fun _ => .int) 32) = 2 := by decide +kernel
theorem kp_10_32 : 32 < a_nf 10 ∧ a_fit (a_ty.getD 10 (fun _ => .int) 32) (.ref 0) = true := by decide +kernel
theorem kg_10_33 : 33 < a_nf 10 ∧ a_kd (a_ty.getD 10 (fun _ => .int) 33) = 2 := by decide +kernel
theorem kp_10_33 : 33 < a_nf 10 ∧ a_fit (a_ty.getD 10 (fun _ => .int) 33) (.ref 0) = true := by decide +kernel
theorem kg_10_34 : 34 < a_nf 10 ∧ a_kd (a_ty.getD 10 (fun _ => .int) 34) = 2 := by decide +kernel
theorem kp_10_34 : 34 < a_nf 10 ∧ a_fit (a_ty.getD 10 (fun _ => .int) 34) (.ref 0) = true := by decide +kernel
theorem kg_10_35 : 35 < a_nf 10 ∧ a_kd (a_ty.getD 10 (fun _ => .int) 35) = 0 := by decide +kernel
theorem kp_10_35 : 35 < a_nf 10 ∧ a_ty.getD 10 (fun _ => .int) 35 = .int := by decide +kernel
theorem kg_10_36 : 36 < a_nf 10 ∧ a_kd (a_ty.getD 10 (fun _ => .int) 36) = 2 := by decide +kernel
theorem kp_10_36 : 36 < a_nf 10 ∧ a_fit (a_ty.getD 10 (fun _ => .int) 36) (.ref 0) = true := by decide +kernel
theorem kg_10_37 : 37 < a_nf 10 ∧ a_kd (a_ty.getD 10 (fun _ => .int) 37) = 2 := by decide +kernel
theorem kp_10_37 : 37 < a_nf 10 ∧ a_fit (a_ty.getD 10 (fun _ => .int) 37) (.ref 0) = true := by decide +kernel
theorem kg_10_38 : 38 < a_nf 10 ∧ a_kd (a_ty.getD 10 (fun _ => .int) 38) = 2 := by decide +kernel
theorem kp_10_38 : 38 < a_nf 10 ∧ a_fit (a_ty.getD 10 (fun _ => .int) 38) (.ref 0) = true := by decide +kernel
theorem kg_10_39 : 39 < a_nf 10 ∧ a_kd (a_ty.getD 10 (fun _ => .int) 39) = 2 := by decide +kernel
theorem kp_10_39 : 39 < a_nf 10 ∧ a_fit (a_ty.getD 10 (fun _ => .int) 39) (.ref 0) = true := by decide +kernel
theorem kg_10_40 : 40 < a_nf 10 ∧ a_kd (a_ty.getD 10 (fun _ => .int) 40) = 2 := by decide +kernel
theorem kp_10_40 : 40 < a_nf 10 ∧ a_fit (a_ty.getD 10 (fun _ => .int) 40) (.ref 0) = true := by decide +kernel
theorem kg_10_41 : 41 < a_nf 10 ∧ a_kd (a_ty.getD 10 (fun _ => .int) 41) = 2 := by decide +kernel
theorem kp_10_41 : 41 < a_nf 10 ∧ a_fit (a_ty.getD 10 (fun _ => .int) 41) (.ref 0) = true := by decide +kernel
theorem kg_10_42 : 42 < a_nf 10 ∧ a_kd (a_ty.getD 10 (fun _ => .int) 42) = 2 := by decide +kernel
theorem kp_10_42 : 42 < a_nf 10 ∧ a_fit (a_ty.getD 10 (fun _ => .int) 42) (.ref 0) = true := by decide +kernel
theorem kg_10_43 : 43 < a_nf 10 ∧ a_kd (a_ty.getD 10 (fun _ => .int) 43) = 2 := by decide +kernel
theorem kp_10_43 : 43 < a_nf 10 ∧ a_fit (a_ty.getD 10 (fun _ => .int) 43) (.ref 0) = true := by decide +kernel
theorem kg_10_44 : 44 < a_nf 10 ∧ a_kd (a_ty.getD 10 (fun _ => .int) 44) = 2 := by decide +kernel
theorem kp_10_44 : 44 < a_nf 10 ∧ a_fit (a_ty.getD 10 (fun _ => .int) 44) (.ref 0) = true := by decide +kernel
theorem kg_10_45 : 45 < a_nf 10 ∧ a_kd (a_ty.getD 10 (fun _ => .int) 45) = 2 := by decide +kernel
theorem kp_10_45 : 45 < a_nf 10 ∧ a_fit (a_ty.getD 10 (fun _ => .int) 45) (.ref 0) = true := by decide +kernel
theorem kg_10_46 : 46 < a_nf 10 ∧ a_kd (a_ty.getD 10 (fun _ => .int) 46) = 0 := by decide +kernel
theorem kp_10_46 : 46 < a_nf 10 ∧ a_ty.getD 10 (fun _ => .int) 46 = .int := by decide +kernel
theorem kg_10_47 : 47 < a_nf 10 ∧ a_kd (a_ty.getD 10 (fun _ => .int) 47) = 0 := by decide +kernel
theorem kp_10_47 : 47 < a_nf 10 ∧ a_ty.getD 10 (fun _ => .int) 47 = .int := by decide +kernel
theorem kg_10_48 : 48 < a_nf 10 ∧ a_kd (a_ty.getD 10 (fun _ => .int) 48) = 0 := by decide +kernel
theorem kp_10_48 : 48 < a_nf 10 ∧ a_ty.getD 10 (fun _ => .int) 48 = .int := by decide +kernel
theorem kg_10_49 : 49 < a_nf 10 ∧ a_kd (a_ty.getD 10 (fun _ => .int) 49) = 2 := by decide +kernel
theorem kp_10_49 : 49 < a_nf 10 ∧ a_fit (a_ty.getD 10 (fun _ => .int) 49) (.ref 0) = true := by decide +kernel
theorem kg_10_50 : 50 < a_nf 10 ∧ a_kd (a_ty.getD 10 (fun _ => .int) 50) = 2 := by decide +kernel
theorem kp_10_50 : 50 < a_nf 10 ∧ a_fit (a_ty.getD 10 (fun _ => .int) 50) (.ref 0) = true := by decide +kernel
theorem kg_10_51 : 51 < a_nf 10 ∧ a_kd (a_ty.getD 10 (fun _ => .int) 51) = 1 := by decide +kernel
theorem kp_10_51 : 51 < a_nf 10 ∧ a_ty.getD 10 (fun _ => .int) 51 = .long := by decide +kernel
theorem kg_10_52 : 52 < a_nf 10 ∧ a_kd (a_ty.getD 10 (fun _ => .int) 52) = 1 := by decide +kernel
theorem kp_10_52 : 52 < a_nf 10 ∧ a_ty.getD 10 (fun _ => .int) 52 = .long := by decide +kernel
theorem kg_10_53 : 53 < a_nf 10 ∧ a_kd (a_ty.getD 10 (fun _ => .int) 53) = 1 := by decide +kernel
theorem kp_10_53 : 53 < a_nf 10 ∧ a_ty.getD 10 (fun _ => .int) 53 = .long := by decide +kernel
theorem kg_10_54 : 54 < a_nf 10 ∧ a_kd (a_ty.getD 10 (fun _ => .int) 54) = 1 := by decide +kernel
theorem kp_10_54 : 54 < a_nf 10 ∧ a_ty.getD 10 (fun _ => .int) 54 = .long := by decide +kernel
theorem kg_10_55 : 55 < a_nf 10 ∧ a_kd (a_ty.getD 10 (fun _ => .int) 55) = 1 := by decide +kernel
theorem kp_10_55 : 55 < a_nf 10 ∧ a_ty.getD 10 (fun _ => .int) 55 = .long := by decide +kernel
theorem kg_10_56 : 56 < a_nf 10 ∧ a_kd (a_ty.getD 10 (fun _ => .int) 56) = 1 := by decide +kernel
theorem kp_10_56 : 56 < a_nf 10 ∧ a_ty.getD 10 (fun _ => .int) 56 = .long := by decide +kernel
theorem kg_10_57 : 57 < a_nf 10 ∧ a_kd (a_ty.getD 10 (fun _ => .int) 57) = 1 := by decide +kernel
theorem kp_10_57 : 57 < a_nf 10 ∧ a_ty.getD 10 (fun _ => .int) 57 = .long := by decide +kernel
theorem kg_10_58 : 58 < a_nf 10 ∧ a_kd (a_ty.getD 10 (fun _ => .int) 58) = 0 := by decide +kernel
theorem kp_10_58 : 58 < a_nf 10 ∧ a_ty.getD 10 (fun _ => .int) 58 = .int := by decide +kernel
theorem kg_10_59 : 59 < a_nf 10 ∧ a_kd (a_ty.getD 10 (fun _ => .int) 59) = 2 := by decide +kernel
theorem kp_10_59 : 59 < a_nf 10 ∧ a_fit (a_ty.getD 10 (fun _ => .int) 59) (.ref 0) = true := by decide +kernel
theorem kg_10_60 : 60 < a_nf 10 ∧ a_kd (a_ty.getD 10 (fun _ => .int) 60) = 2 := by decide +kernel
theorem kp_10_60 : 60 < a_nf 10 ∧ a_fit (a_ty.getD 10 (fun _ => .int) 60) (.ref 0) = true := by decide +kernel
theorem kg_10_61 : 61 < a_nf 10 ∧ a_kd (a_ty.getD 10 (fun _ => .int) 61) = 0 := by decide +kernel
theorem kp_10_61 : 61 < a_nf 10 ∧ a_ty.getD 10 (fun _ => .int) 61 = .int := by decide +kernel
theorem kg_10_62 : 62 < a_nf 10 ∧ a_kd (a_ty.getD 10 (fun _ => .int) 62) = 0 := by decide +kernel
theorem kp_10_62 : 62 < a_nf 10 ∧ a_ty.getD 10 (fun _ => .int) 62 = .int := by decide +kernel
theorem kg_10_63 : 63 < a_nf 10 ∧ a_kd (a_ty.getD 10 (fun _ => .int) 63) = 2 := by decide +kernel
theorem kp_10_63 : 63 < a_nf 10 ∧ a_fit (a_ty.getD 10 (fun _ => .int) 63) (.ref 0) = true := by decide +kernel
theorem kg_10_64 : 64 < a_nf 10 ∧ a_kd (a_ty.getD 10 (fun _ => .int) 64) = 0 := by decide +kernel
theorem kp_10_64 : 64 < a_nf 10 ∧ a_ty.getD 10 (fun _ => .int) 64 = .int := by decide +kernel
theorem kg_10_65 : 65 < a_nf 10 ∧ a_kd (a_ty.getD 10 (fun _ => .int) 65) = 0 := by decide +kernel
theorem kp_10_65 : 65 < a_nf 10 ∧ a_ty.getD 10 (fun _ => .int) 65 = .int := by decide +kernel
theorem kg_10_66 : 66 < a_nf 10 ∧ a_kd (a_ty.getD 10 (fun _ => .int) 66) = 2 := by decide +kernel
theorem kp_10_66 : 66 < a_nf 10 ∧ a_fit (a_ty.getD 10 (fun _ => .int) 66) (.ref 0) = true := by decide +kernel
theorem kg_10_67 : 67 < a_nf 10 ∧ a_kd (a_ty.getD 10 (fun _ => .int) 67) = 2 := by decide +kernel
theorem kp_10_67 : 67 < a_nf 10 ∧ a_fit (a_ty.getD 10 (fun _ => .int) 67) (.ref 0) = true := by decide +kernel
theorem kg_10_68 : 68 < a_nf 10 ∧ a_kd (a_ty.getD 10 (fun _ => .int) 68) = 2 := by decide +kernel
theorem kp_10_68 : 68 < a_nf 10 ∧ a_fit (a_ty.getD 10 (fun _ => .int) 68) (.ref 0) = true := by decide +kernel
theorem kg_10_69 : 69 < a_nf 10 ∧ a_kd (a_ty.getD 10 (fun _ => .int) 69) = 0 := by decide +kernel
theorem kp_10_69 : 69 < a_nf 10 ∧ a_ty.getD 10 (fun _ => .int) 69 = .int := by decide +kernel
theorem kg_10_70 : 70 < a_nf 10 ∧ a_kd (a_ty.getD 10 (fun _ => .int) 70) = 0 := by decide +kernel
theorem kp_10_70 : 70 < a_nf 10 ∧ a_ty.getD 10 (fun _ => .int) 70 = .int := by decide +kernel
theorem kg_10_71 : 71 < a_nf 10 ∧ a_kd (a_ty.getD 10 (fun _ => .int) 71) = 1 := by decide +kernel
theorem kp_10_71 : 71 < a_nf 10 ∧ a_ty.getD 10 (fun _ => .int) 71 = .long := by decide +kernel
theorem kg_10_72 : 72 < a_nf 10 ∧ a_kd (a_ty.getD 10 (fun _ => .int) 72) = 0 := by decide +kernel
theorem kp_10_72 : 72 < a_nf 10 ∧ a_ty.getD 10 (fun _ => .int) 72 = .int := by decide +kernel
theorem kg_10_73 : 73 < a_nf 10 ∧ a_kd (a_ty.getD 10 (fun _ => .int) 73) = 0 := by decide +kernel
theorem kp_10_73 : 73 < a_nf 10 ∧ a_ty.getD 10 (fun _ => .int) 73 = .int := by decide +kernel
theorem kg_10_74 : 74 < a_nf 10 ∧ a_kd (a_ty.getD 10 (fun _ => .int) 74) = 2 := by decide +kernel
theorem kp_10_74 : 74 < a_nf 10 ∧ a_fit (a_ty.getD 10 (fun _ => .int) 74) (.ref 0) = true := by decide +kernel
theorem kg_10_75 : 75 < a_nf 10 ∧ a_kd (a_ty.getD 10 (fun _ => .int) 75) = 2 := by decide +kernel
theorem kp_10_75 : 75 < a_nf 10 ∧ a_fit (a_ty.getD 10 (fun _ => .int) 75) (.ref 0) = true := by decide +kernel
theorem kg_10_76 : 76 < a_nf 10 ∧ a_kd (a_ty.getD 10 (fun _ => .int) 76) = 2 := by decide +kernel
theorem kp_10_76 : 76 < a_nf 10 ∧ a_fit (a_ty.getD 10 (fun _ => .int) 76) (.ref 0) = true := by decide +kernel
theorem kg_10_77 : 77 < a_nf 10 ∧ a_kd (a_ty.getD 10 (fun _ => .int) 77) = 2 := by decide +kernel
theorem kp_10_77 : 77 < a_nf 10 ∧ a_fit (a_ty.getD 10 (fun _ => .int) 77) (.ref 0) = true := by decide +kernel
theorem kg_10_78 : 78 < a_nf 10 ∧ a_kd (a_ty.getD 10 (fun _ => .int) 78) = 2 := by decide +kernel
theorem kp_10_78 : 78 < a_nf 10 ∧ a_fit (a_ty.getD 10 (fun _ => .int) 78) (.ref 0) = true := by decide +kernel
theorem kg_10_79 : 79 < a_nf 10 ∧ a_kd (a_ty.getD 10 (fun _ => .int) 79) = 2 := by decide +kernel
theorem kp_10_79 : 79 < a_nf 10 ∧ a_fit (a_ty.getD 10 (fun _ => .int) 79) (.ref 0) = true := by decide +kernel
theorem kg_10_80 : 80 < a_nf 10 ∧ a_kd (a_ty.getD 10 (fun _ => .int) 80) = 2 := by decide +kernel
theorem kp_10_80 : 80 < a_nf 10 ∧ a_fit (a_ty.getD 10 (fun _ => .int) 80) (.ref 0) = true := by decide +kernel
theorem kg_10_81 : 81 < a_nf 10 ∧ a_kd (a_ty.getD 10 (fun _ => .int) 81) = 2 := by decide +kernel
theorem kp_10_81 : 81 < a_nf 10 ∧ a_fit (a_ty.getD 10 (fun _ => .int) 81) (.ref 0) = true := by decide +kernel
theorem kg_10_82 : 82 < a_nf 10 ∧ a_kd (a_ty.getD 10 (fun _ => .int) 82) = 2 := by decide +kernel
theorem kp_10_82 : 82 < a_nf 10 ∧ a_fit (a_ty.getD 10 (fun _ => .int) 82) (.ref 0) = true := by decide +kernel
theorem kg_10_83 : 83 < a_nf 10 ∧ a_kd (a_ty.getD 10 (fun _ => .int) 83) = 2 := by decide +kernel
theorem kp_10_83 : 83 < a_nf 10 ∧ a_fit (a_ty.getD 10 (fun _ => .int) 83) (.ref 0) = true := by decide +kernel
theorem kg_10_84 : 84 < a_nf 10 ∧ a_kd (a_ty.getD 10 (fun _ => .int) 84) = 2 := by decide +kernel
theorem kp_10_84 : 84 < a_nf 10 ∧ a_fit (a_ty.getD 10 (fun _ => .int) 84) (.ref 0) = true := by decide +kernel
theorem kg_10_85 : 85 < a_nf 10 ∧ a_kd (a_ty.getD 10 (fun _ => .int) 85) = 2 := by decide +kernel
theorem kp_10_85 : 85 < a_nf 10 ∧ a_fit (a_ty.getD 10 (fun _ => .int) 85) (.ref 0) = true := by decide +kernel
theorem kg_10_86 : 86 < a_nf 10 ∧ a_kd (a_ty.getD 10 (fun _ => .int) 86) = 2 := by decide +kernel
theorem kp_10_86 : 86 < a_nf 10 ∧ a_fit (a_ty.getD 10 (fun _ => .int) 86) (.ref 0) = true := by decide +kernel
theorem kg_10_87 : 87 < a_nf 10 ∧ a_kd (a_ty.getD 10 (fun _ => .int) 87) = 2 := by decide +kernel
theorem kp_10_87 : 87 < a_nf 10 ∧ a_fit (a_ty.getD 10 (fun _ => .int) 87) (.ref 0) = true := by decide +kernel
theorem kg_10_88 : 88 < a_nf 10 ∧ a_kd (a_ty.getD 10 (fun _ => .int) 88) = 2 := by decide +kernel
theorem kp_10_88 : 88 < a_nf 10 ∧ a_fit (a_ty.getD 10 (fun _ => .int) 88) (.ref 0) = true := by decide +kernel
theorem kg_10_89 : 89 < a_nf 10 ∧ a_kd (a_ty.getD 10 (fun _ => .int) 89) = 2 := by decide +kernel
theorem kp_10_89 : 89 < a_nf 10 ∧ a_fit (a_ty.getD 10 (fun _ => .int) 89) (.ref 0) = true := by decide +kernel
theorem kg_10_90 : 90 < a_nf 10 ∧ a_kd (a_ty.getD 10 (fun _ => .int) 90) = 2 := by decide +kernel
theorem kp_10_90 : 90 < a_nf 10 ∧ a_fit (a_ty.getD 10 (fun _ => .int) 90) (.ref 0) = true := by decide +kernel
theorem kg_10_91 : 91 < a_nf 10 ∧ a_kd (a_ty.getD 10 (fun _ => .int) 91) = 2 := by decide +kernel
theorem kp_10_91 : 91 < a_nf 10 ∧ a_fit (a_ty.getD 10 (fun _ => .int) 91) (.ref 0) = true := by decide +kernel
theorem kg_10_92 : 92 < a_nf 10 ∧ a_kd (a_ty.getD 10 (fun _ => .int) 92) = 2 := by decide +kernel
theorem kp_10_92 : 92 < a_nf 10 ∧ a_fit (a_ty.getD 10 (fun _ => .int) 92) (.ref 0) = true := by decide +kernel
theorem kg_10_93 : 93 < a_nf 10 ∧ a_kd (a_ty.getD 10 (fun _ => .int) 93) = 2 := by decide +kernel
theorem kp_10_93 : 93 < a_nf 10 ∧ a_fit (a_ty.getD 10 (fun _ => .int) 93) (.ref 0) = true := by decide +kernel
theorem kg_10_94 : 94 < a_nf 10 ∧ a_kd (a_ty.getD 10 (fun _ => .int) 94) = 2 := by decide +kernel
theorem kp_10_94 : 94 < a_nf 10 ∧ a_fit (a_ty.getD 10 (fun _ => .int) 94) (.ref 0) = true := by decide +kernel
theorem kg_10_95 : 95 < a_nf 10 ∧ a_kd (a_ty.getD 10 (fun _ => .int) 95) = 2 := by decide +kernel
theorem kp_10_95 : 95 < a_nf 10 ∧ a_fit (a_ty.getD 10 (fun _ => .int) 95) (.ref 0) = true := by decide +kernel
theorem kg_10_96 : 96 < a_nf 10 ∧ a_kd (a_ty.getD 10 (fun _ => .int) 96) = 2 := by decide +kernel
theorem kp_10_96 : 96 < a_nf 10 ∧ a_fit (a_ty.getD 10 (fun _ => .int) 96) (.ref 0) = true := by decide +kernel
theorem kg_10_97 : 97 < a_nf 10 ∧ a_kd (a_ty.getD 10 (fun _ => .int) 97) = 2 := by decide +kernel
theorem kp_10_97 : 97 < a_nf 10 ∧ a_fit (a_ty.getD 10 (fun _ => .int) 97) (.ref 0) = true := by decide +kernel
theorem kg_10_98 : 98 < a_nf 10 ∧ a_kd (a_ty.getD 10 (fun _ => .int) 98) = 0 := by decide +kernel
theorem kp_10_98 : 98 < a_nf 10 ∧ a_ty.getD 10 (fun _ => .int) 98 = .int := by decide +kernel
theorem kg_10_99 : 99 < a_nf 10 ∧ a_kd (a_ty.getD 10 (fun _ => .int) 99) = 2 := by decide +kernel
theorem kp_10_99 : 99 < a_nf 10 ∧ a_fit (a_ty.getD 10 (fun _ => .int) 99) (.ref 0) = true := by decide +kernel
theorem kg_10_100 : 100 < a_nf 10 ∧ a_kd (a_ty.getD 10 (fun _ => .int) 100) = 0 := by decide +kernel
theorem kp_10_100 : 100 < a_nf 10 ∧ a_ty.getD 10 (fun _ => .int) 100 = .int := by decide +kernel
theorem kg_10_101 : 101 < a_nf 10 ∧ a_kd (a_ty.getD 10 (fun _ => .int) 101) = 0 := by decide +kernel
theorem kp_10_101 : 101 < a_nf 10 ∧ a_ty.getD 10 (fun _ => .int) 101 = .int := by decide +kernel
theorem kg_10_102 : 102 < a_nf 10 ∧ a_kd (a_ty.getD 10 (fun _ => .int) 102) = 0 := by decide +kernel
theorem kp_10_102 : 102 < a_nf 10 ∧ a_ty.getD 10 (fun _ => .int) 102 = .int := by decide +kernel
theorem kg_10_103 : 103 < a_nf 10 ∧ a_kd (a_ty.getD 10 (fun _ => .int) 103) = 2 := by decide +kernel
theorem kp_10_103 : 103 < a_nf 10 ∧ a_fit (a_ty.getD 10 (fun _ => .int) 103) (.ref 0) = true := by decide +kernel
theorem kg_10_104 : 104 < a_nf 10 ∧ a_kd (a_ty.getD 10 (fun _ => .int) 104) = 0 := by decide +kernel
theorem kp_10_104 : 104 < a_nf 10 ∧ a_ty.getD 10 (fun _ => .int) 104 = .int := by decide +kernel
theorem kg_10_105 : 105 < a_nf 10 ∧ a_kd (a_ty.getD 10 (fun _ => .int) 105) = 1 := by decide +kernel
theorem kp_10_105 : 105 < a_nf 10 ∧ a_ty.getD 10 (fun _ => .int) 105 = .long := by decide +kernel
theorem kg_10_106 : 106 < a_nf 10 ∧ a_kd (a_ty.getD 10 (fun _ => .int) 106) = 0 := by decide +kernel
theorem kp_10_106 : 106 < a_nf 10 ∧ a_ty.getD 10 (fun _ => .int) 106 = .boolean := by decide +kernel
theorem kg_10_107 : 107 < a_nf 10 ∧ a_kd (a_ty.getD 10 (fun _ => .int) 107) = 2 := by decide +kernel
theorem kp_10_107 : 107 < a_nf 10 ∧ a_fit (a_ty.getD 10 (fun _ => .int) 107) (.ref 0) = true := by decide +kernel
theorem kg_10_108 : 108 < a_nf 10 ∧ a_kd (a_ty.getD 10 (fun _ => .int) 108) = 0 := by decide +kernel
theorem kp_10_108 : 108 < a_nf 10 ∧ a_ty.getD 10 (fun _ => .int) 108 = .int := by decide +kernel
section
variable {X : mX} {d d2 y pc nx : Nat} {L : mL} {rest : List Value} {n z n' z' : Nat} {G G' : mG} {V V' : mV} {Q : Nat → Nat → mG → mV → Option Value → Prop}
theorem kcX7_init {a : Nat} {x0 : Int}  (hf : a_fetch y pc = some (.invokespecial 94, nx)) (hr : a_rst rest = true) (hR : Rn X d2 94 [.ref a, .int (iI x0)] n z G V n' z' G' V' none) (hd : d2 + 1 ≤ d) (k : T X d y nx L (rest) n' z' G' V' Q) : T X d y pc L (.int (iI x0) :: .ref a :: rest) n z G V Q := k9_cli (na := 1) (as := [.ref a, .int (iI x0)]) (rs := [.int (iI x0)]) hf (by rfl) ((by decide +kernel : 2 ≤ a_mx 94)) rfl rfl hr hR hd k
theorem kcX7_size {a : Nat}  {r : Int}  (hf : a_fetch y pc = some (.invokevirtual 95, nx)) (ho : G.1 a = .inl 7) (hr : a_rst rest = true) (hR : Rn X d2 95 [.ref a] n z G V n' z' G' V' (some (.int (iI r)))) (hd : d2 + 1 ≤ d) (k : T X d y nx L (.int (iI r) :: rest) n' z' G' V' Q) : T X d y pc L (.ref a :: rest) n z G V Q := k9_clv (na := 0) (as := [.ref a]) (rs := []) hf (by rfl) (mt := (yX7_size, cX7_size, 1, (some .int), 7)) (by rfl) ⟨rfl, by decide⟩ ho ((by decide +kernel : 1 ≤ a_mx 95)) rfl rfl hr hR hd k
theorem kcX7_get {a : Nat} {x0 : Int} {r : Int}  (hf : a_fetch y pc = some (.invokevirtual 96, nx)) (ho : G.1 a = .inl 7) (hr : a_rst rest = true) (hR : Rn X d2 96 [.ref a, .int (iI x0)] n z G V n' z' G' V' (some (.int (iI r)))) (hd : d2 + 1 ≤ d) (k : T X d y nx L (.int (iI r) :: rest) n' z' G' V' Q) : T X d y pc L (.int (iI x0) :: .ref a :: rest) n z G V Q := k9_clv (na := 1) (as := [.ref a, .int (iI x0)]) (rs := [.int (iI x0)]) hf (by rfl) (mt := (yX7_get, cX7_get, 2, (some .int), 7)) (by rfl) ⟨rfl, by decide⟩ ho ((by decide +kernel : 2 ≤ a_mx 96)) rfl rfl hr hR hd k
theorem kcX7_put {a : Nat} {x0 : Int} {x1 : Int}  (hf : a_fetch y pc = some (.invokevirtual 97, nx)) (ho : G.1 a = .inl 7) (hr : a_rst rest = true) (hR : Rn X d2 97 [.ref a, .int (iI x0), .int (iI x1)] n z G V n' z' G' V' none) (hd : d2 + 1 ≤ d) (k : T X d y nx L (rest) n' z' G' V' Q) : T X d y pc L (.int (iI x1) :: .int (iI x0) :: .ref a :: rest) n z G V Q := k9_clv (na := 2) (as := [.ref a, .int (iI x0), .int (iI x1)]) (rs := [.int (iI x1), .int (iI x0)]) hf (by rfl) (mt := (yX7_put, cX7_put, 3, none, 7)) (by rfl) ⟨rfl, by decide⟩ ho ((by decide +kernel : 3 ≤ a_mx 97)) rfl rfl hr hR hd k
theorem kcX7_add {a : Nat} {x0 : Int}  (hf : a_fetch y pc = some (.invokevirtual 98, nx)) (ho : G.1 a = .inl 7) (hr : a_rst rest = true) (hR : Rn X d2 98 [.ref a, .int (iI x0)] n z G V n' z' G' V' none) (hd : d2 + 1 ≤ d) (k : T X d y nx L (rest) n' z' G' V' Q) : T X d y pc L (.int (iI x0) :: .ref a :: rest) n z G V Q := k9_clv (na := 1) (as := [.ref a, .int (iI x0)]) (rs := [.int (iI x0)]) hf (by rfl) (mt := (yX7_add, cX7_add, 2, none, 7)) (by rfl) ⟨rfl, by decide⟩ ho ((by decide +kernel : 2 ≤ a_mx 98)) rfl rfl hr hR hd k
theorem kcX7_insert {a : Nat} {x0 : Int} {x1 : Int}  (hf : a_fetch y pc = some (.invokevirtual 99, nx)) (ho : G.1 a = .inl 7) (hr : a_rst rest = true) (hR : Rn X d2 99 [.ref a, .int (iI x0), .int (iI x1)] n z G V n' z' G' V' none) (hd : d2 + 1 ≤ d) (k : T X d y nx L (rest) n' z' G' V' Q) : T X d y pc L (.int (iI x1) :: .int (iI x0) :: .ref a :: rest) n z G V Q := k9_clv (na := 2) (as := [.ref a, .int (iI x0), .int (iI x1)]) (rs := [.int (iI x1), .int (iI x0)]) hf (by rfl) (mt := (yX7_insert, cX7_insert, 4, none, 7)) (by rfl) ⟨rfl, by decide⟩ ho ((by decide +kernel : 3 ≤ a_mx 99)) rfl rfl hr hR hd k
theorem kcX7_cut {a : Nat} {x0 : Int}  (hf : a_fetch y pc = some (.invokevirtual 100, nx)) (ho : G.1 a = .inl 7) (hr : a_rst rest = true) (hR : Rn X d2 100 [.ref a, .int (iI x0)] n z G V n' z' G' V' none) (hd : d2 + 1 ≤ d) (k : T X d y nx L (rest) n' z' G' V' Q) : T X d y pc L (.int (iI x0) :: .ref a :: rest) n z G V Q := k9_clv (na := 1) (as := [.ref a, .int (iI x0)]) (rs := [.int (iI x0)]) hf (by rfl) (mt := (yX7_cut, cX7_cut, 2, none, 7)) (by rfl) ⟨rfl, by decide⟩ ho ((by decide +kernel : 2 ≤ a_mx 100)) rfl rfl hr hR hd k
theorem kcX7_fill {a : Nat} {x0 : Int} {x1 : Int}  (hf : a_fetch y pc = some (.invokevirtual 101, nx)) (ho : G.1 a = .inl 7) (hr : a_rst rest = true) (hR : Rn X d2 101 [.ref a, .int (iI x0), .int (iI x1)] n z G V n' z' G' V' none) (hd : d2 + 1 ≤ d) (k : T X d y nx L (rest) n' z' G' V' Q) : T X d y pc L (.int (iI x1) :: .int (iI x0) :: .ref a :: rest) n z G V Q := k9_clv (na := 2) (as := [.ref a, .int (iI x0), .int (iI x1)]) (rs := [.int (iI x1), .int (iI x0)]) hf (by rfl) (mt := (yX7_fill, cX7_fill, 4, none, 7)) (by rfl) ⟨rfl, by decide⟩ ho ((by decide +kernel : 3 ≤ a_mx 101)) rfl rfl hr hR hd k
theorem kcX7_copy {a : Nat} {x0 : Value}  (hf : a_fetch y pc = some (.invokevirtual 102, nx)) (ho : G.1 a = .inl 7) (h0 : a_one x0 = true) (hr : a_rst rest = true) (hR : Rn X d2 102 [.ref a, x0] n z G V n' z' G' V' none) (hd : d2 + 1 ≤ d) (k : T X d y nx L (rest) n' z' G' V' Q) : T X d y pc L (x0 :: .ref a :: rest) n z G V Q := k9_clv (na := 1) (as := [.ref a, x0]) (rs := [x0]) hf (by rfl) (mt := (yX7_copy, cX7_copy, 3, none, 7)) (by rfl) ⟨rfl, by decide⟩ ho (by cases x0 <;> first | exact (by decide +kernel : 2 ≤ a_mx 102) | (cases h0)) rfl rfl hr hR hd k
theorem kcX7_find {a : Nat} {x0 : Int} {r : Int}  (hf : a_fetch y pc = some (.invokevirtual 103, nx)) (ho : G.1 a = .inl 7) (hr : a_rst rest = true) (hR : Rn X d2 103 [.ref a, .int (iI x0)] n z G V n' z' G' V' (some (.int (iI r)))) (hd : d2 + 1 ≤ d) (k : T X d y nx L (.int (iI r) :: rest) n' z' G' V' Q) : T X d y pc L (.int (iI x0) :: .ref a :: rest) n z G V Q := k9_clv (na := 1) (as := [.ref a, .int (iI x0)]) (rs := [.int (iI x0)]) hf (by rfl) (mt := (yX7_find, cX7_find, 3, (some .int), 7)) (by rfl) ⟨rfl, by decide⟩ ho ((by decide +kernel : 2 ≤ a_mx 103)) rfl rfl hr hR hd k
theorem kcX7_count {a : Nat} {x0 : Int} {r : Int}  (hf : a_fetch y pc = some (.invokevirtual 104, nx)) (ho : G.1 a = .inl 7) (hr : a_rst rest = true) (hR : Rn X d2 104 [.ref a, .int (iI x0)] n z G V n' z' G' V' (some (.int (iI r)))) (hd : d2 + 1 ≤ d) (k : T X d y nx L (.int (iI r) :: rest) n' z' G' V' Q) : T X d y pc L (.int (iI x0) :: .ref a :: rest) n z G V Q := k9_clv (na := 1) (as := [.ref a, .int (iI x0)]) (rs := [.int (iI x0)]) hf (by rfl) (mt := (yX7_count, cX7_count, 4, (some .int), 7)) (by rfl) ⟨rfl, by decide⟩ ho ((by decide +kernel : 2 ≤ a_mx 104)) rfl rfl hr hR hd k
theorem kcM_max {x0 : Int} {x1 : Int} {r : Int}  (hf : a_fetch y pc = some (.invokestatic 289, nx)) (hr : a_rst rest = true) (hR : Rn X d2 289 [.int (iI x0), .int (iI x1)] n z G V n' z' G' V' (some (.int (iI r)))) (hd : d2 + 1 ≤ d) (k : T X d y nx L (.int (iI r) :: rest) n' z' G' V' Q) : T X d y pc L (.int (iI x1) :: .int (iI x0) :: rest) n z G V Q := k9_cls (na := 2) (as := [.int (iI x0), .int (iI x1)]) (rs := [.int (iI x1), .int (iI x0)]) hf (by rfl) ((by decide +kernel : 2 ≤ a_mx 289)) rfl rfl hr hR hd k
theorem kcM_min {x0 : Int} {x1 : Int} {r : Int}  (hf : a_fetch y pc = some (.invokestatic 290, nx)) (hr : a_rst rest = true) (hR : Rn X d2 290 [.int (iI x0), .int (iI x1)] n z G V n' z' G' V' (some (.int (iI r)))) (hd : d2 + 1 ≤ d) (k : T X d y nx L (.int (iI r) :: rest) n' z' G' V' Q) : T X d y pc L (.int (iI x1) :: .int (iI x0) :: rest) n z G V Q := k9_cls (na := 2) (as := [.int (iI x0), .int (iI x1)]) (rs := [.int (iI x1), .int (iI x0)]) hf (by rfl) ((by decide +kernel : 2 ≤ a_mx 290)) rfl rfl hr hR hd k
theorem kcM_lmax {x0 : Int} {x1 : Int} {r : Int}  (hf : a_fetch y pc = some (.invokestatic 291, nx)) (hr : a_rst rest = true) (hR : Rn X d2 291 [.long (lI x0), .long (lI x1)] n z G V n' z' G' V' (some (.long (lI r)))) (hd : d2 + 1 ≤ d) (k : T X d y nx L (.long (lI r) :: rest) n' z' G' V' Q) : T X d y pc L (.long (lI x1) :: .long (lI x0) :: rest) n z G V Q := k9_cls (na := 2) (as := [.long (lI x0), .long (lI x1)]) (rs := [.long (lI x1), .long (lI x0)]) hf (by rfl) ((by decide +kernel : 4 ≤ a_mx 291)) rfl rfl hr hR hd k
theorem kcM_lmin {x0 : Int} {x1 : Int} {r : Int}  (hf : a_fetch y pc = some (.invokestatic 292, nx)) (hr : a_rst rest = true) (hR : Rn X d2 292 [.long (lI x0), .long (lI x1)] n z G V n' z' G' V' (some (.long (lI r)))) (hd : d2 + 1 ≤ d) (k : T X d y nx L (.long (lI r) :: rest) n' z' G' V' Q) : T X d y pc L (.long (lI x1) :: .long (lI x0) :: rest) n z G V Q := k9_cls (na := 2) (as := [.long (lI x0), .long (lI x1)]) (rs := [.long (lI x1), .long (lI x0)]) hf (by rfl) ((by decide +kernel : 4 ≤ a_mx 292)) rfl rfl hr hR hd k
theorem kcJ9_floorDiv_7cf53 {x0 : Int} {x1 : Int} {r : Int}  (hf : a_fetch y pc = some (.invokestatic 293, nx)) (hr : a_rst rest = true) (hR : Rn X d2 293 [.int (iI x0), .int (iI x1)] n z G V n' z' G' V' (some (.int (iI r)))) (hd : d2 + 1 ≤ d) (k : T X d y nx L (.int (iI r) :: rest) n' z' G' V' Q) : T X d y pc L (.int (iI x1) :: .int (iI x0) :: rest) n z G V Q := k9_cls (na := 2) (as := [.int (iI x0), .int (iI x1)]) (rs := [.int (iI x1), .int (iI x0)]) hf (by rfl) ((by decide +kernel : 2 ≤ a_mx 293)) rfl rfl hr hR hd k
theorem kcJ9_floorMod_7cf53 {x0 : Int} {x1 : Int} {r : Int}  (hf : a_fetch y pc = some (.invokestatic 294, nx)) (hr : a_rst rest = true) (hR : Rn X d2 294 [.int (iI x0), .int (iI x1)] n z G V n' z' G' V' (some (.int (iI r)))) (hd : d2 + 1 ≤ d) (k : T X d y nx L (.int (iI r) :: rest) n' z' G' V' Q) : T X d y pc L (.int (iI x1) :: .int (iI x0) :: rest) n z G V Q := k9_cls (na := 2) (as := [.int (iI x0), .int (iI x1)]) (rs := [.int (iI x1), .int (iI x0)]) hf (by rfl) ((by decide +kernel : 2 ≤ a_mx 294)) rfl rfl hr hR hd k
theorem kcJ6_bitCount_0f7a4 {x0 : Int} {r : Int}  (hf : a_fetch y pc = some (.invokestatic 295, nx)) (hr : a_rst rest = true) (hR : Rn X d2 295 [.int (iI x0)] n z G V n' z' G' V' (some (.int (iI r)))) (hd : d2 + 1 ≤ d) (k : T X d y nx L (.int (iI r) :: rest) n' z' G' V' Q) : T X d y pc L (.int (iI x0) :: rest) n z G V Q := k9_cls (na := 1) (as := [.int (iI x0)]) (rs := [.int (iI x0)]) hf (by rfl) ((by decide +kernel : 1 ≤ a_mx 295)) rfl rfl hr hR hd k
end
