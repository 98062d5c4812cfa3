theorem fX7_init_0 : a_fetch 94 0 = some (.aload 0, 1) := by decide +kernel
theorem fX7_init_1 : a_fetch 94 1 = some (.monitorenter, 4) := by decide +kernel
theorem fX7_init_4 : a_fetch 94 4 = some (.aload 0, 5) := by decide +kernel
theorem fX7_init_5 : a_fetch 94 5 = some (.iload 1, 6) := by decide +kernel
theorem fX7_init_6 : a_fetch 94 6 = some (.iconst 0, 7) := by decide +kernel
theorem fX7_init_7 : a_fetch 94 7 = some (.invokestatic 289, 10) := by decide +kernel
theorem fX7_init_10 : a_fetch 94 10 = some (.newarray .int, 12) := by decide +kernel
theorem fX7_init_12 : a_fetch 94 12 = some (.multianewarray 7 0, 15) := by decide +kernel
theorem fX7_init_15 : a_fetch 94 15 = some (.return_, 16) := by decide +kernel
theorem fX7_size_0 : a_fetch 95 0 = some (.aload 0, 1) := by decide +kernel
theorem fX7_size_1 : a_fetch 95 1 = some (.invokeinterface 7 1, 4) := by decide +kernel
theorem fX7_size_4 : a_fetch 95 4 = some (.ireturn, 5) := by decide +kernel
theorem fX7_get_0 : a_fetch 96 0 = some (.iload 1, 1) := by decide +kernel
theorem fX7_get_1 : a_fetch 96 1 = some (.ifCond .lt 30, 4) := by decide +kernel
theorem fX7_get_4 : a_fetch 96 4 = some (.iload 1, 5) := by decide +kernel
theorem fX7_get_5 : a_fetch 96 5 = some (.aload 0, 6) := by decide +kernel
theorem fX7_get_6 : a_fetch 96 6 = some (.invokeinterface 7 1, 9) := by decide +kernel
theorem fX7_get_9 : a_fetch 96 9 = some (.if_icmp .ge 30, 12) := by decide +kernel
theorem fX7_get_12 : a_fetch 96 12 = some (.iload 1, 13) := by decide +kernel
theorem fX7_get_13 : a_fetch 96 13 = some (.aload 0, 14) := by decide +kernel
theorem fX7_get_14 : a_fetch 96 14 = some (.invokeinterface 7 0, 17) := by decide +kernel
theorem fX7_get_17 : a_fetch 96 17 = some (.arraylength, 18) := by decide +kernel
theorem fX7_get_18 : a_fetch 96 18 = some (.if_icmp .ge 30, 21) := by decide +kernel
theorem fX7_get_21 : a_fetch 96 21 = some (.aload 0, 22) := by decide +kernel
theorem fX7_get_22 : a_fetch 96 22 = some (.invokeinterface 7 0, 25) := by decide +kernel
theorem fX7_get_25 : a_fetch 96 25 = some (.iload 1, 26) := by decide +kernel
theorem fX7_get_26 : a_fetch 96 26 = some (.iaload, 27) := by decide +kernel
theorem fX7_get_27 : a_fetch 96 27 = some (.goto 31, 30) := by decide +kernel
theorem fX7_get_30 : a_fetch 96 30 = some (.iconst (-1), 31) := by decide +kernel
theorem fX7_get_31 : a_fetch 96 31 = some (.ireturn, 32) := by decide +kernel
theorem fX7_put_0 : a_fetch 97 0 = some (.iload 1, 1) := by decide +kernel
theorem fX7_put_1 : a_fetch 97 1 = some (.ifCond .lt 28, 4) := by decide +kernel
theorem fX7_put_4 : a_fetch 97 4 = some (.iload 1, 5) := by decide +kernel
theorem fX7_put_5 : a_fetch 97 5 = some (.aload 0, 6) := by decide +kernel
theorem fX7_put_6 : a_fetch 97 6 = some (.invokeinterface 7 1, 9) := by decide +kernel
theorem fX7_put_9 : a_fetch 97 9 = some (.if_icmp .ge 28, 12) := by decide +kernel
theorem fX7_put_12 : a_fetch 97 12 = some (.iload 1, 13) := by decide +kernel
theorem fX7_put_13 : a_fetch 97 13 = some (.aload 0, 14) := by decide +kernel
theorem fX7_put_14 : a_fetch 97 14 = some (.invokeinterface 7 0, 17) := by decide +kernel
theorem fX7_put_17 : a_fetch 97 17 = some (.arraylength, 18) := by decide +kernel
theorem fX7_put_18 : a_fetch 97 18 = some (.if_icmp .ge 28, 21) := by decide +kernel
theorem fX7_put_21 : a_fetch 97 21 = some (.aload 0, 22) := by decide +kernel
theorem fX7_put_22 : a_fetch 97 22 = some (.invokeinterface 7 0, 25) := by decide +kernel
theorem fX7_put_25 : a_fetch 97 25 = some (.iload 1, 26) := by decide +kernel
theorem fX7_put_26 : a_fetch 97 26 = some (.iload 2, 27) := by decide +kernel
theorem fX7_put_27 : a_fetch 97 27 = some (.iastore, 28) := by decide +kernel
theorem fX7_put_28 : a_fetch 97 28 = some (.return_, 29) := by decide +kernel
theorem fX7_add_0 : a_fetch 98 0 = some (.aload 0, 1) := by decide +kernel
theorem fX7_add_1 : a_fetch 98 1 = some (.invokeinterface 7 1, 4) := by decide +kernel
theorem fX7_add_4 : a_fetch 98 4 = some (.ifCond .lt 39, 7) := by decide +kernel
theorem fX7_add_7 : a_fetch 98 7 = some (.aload 0, 8) := by decide +kernel
theorem fX7_add_8 : a_fetch 98 8 = some (.invokeinterface 7 1, 11) := by decide +kernel
theorem fX7_add_11 : a_fetch 98 11 = some (.aload 0, 12) := by decide +kernel
theorem fX7_add_12 : a_fetch 98 12 = some (.invokeinterface 7 0, 15) := by decide +kernel
theorem fX7_add_15 : a_fetch 98 15 = some (.arraylength, 16) := by decide +kernel
theorem fX7_add_16 : a_fetch 98 16 = some (.if_icmp .ge 39, 19) := by decide +kernel
theorem fX7_add_19 : a_fetch 98 19 = some (.aload 0, 20) := by decide +kernel
theorem fX7_add_20 : a_fetch 98 20 = some (.invokeinterface 7 0, 23) := by decide +kernel
theorem fX7_add_23 : a_fetch 98 23 = some (.aload 0, 24) := by decide +kernel
theorem fX7_add_24 : a_fetch 98 24 = some (.invokeinterface 7 1, 27) := by decide +kernel
theorem fX7_add_27 : a_fetch 98 27 = some (.iload 1, 28) := by decide +kernel
theorem fX7_add_28 : a_fetch 98 28 = some (.iastore, 29) := by decide +kernel
theorem fX7_add_29 : a_fetch 98 29 = some (.aload 0, 30) := by decide +kernel
theorem fX7_add_30 : a_fetch 98 30 = some (.dup, 31) := by decide +kernel
theorem fX7_add_31 : a_fetch 98 31 = some (.invokeinterface 7 1, 34) := by decide +kernel
theorem fX7_add_34 : a_fetch 98 34 = some (.iconst 1, 35) := by decide +kernel
theorem fX7_add_35 : a_fetch 98 35 = some (.iadd, 36) := by decide +kernel
theorem fX7_add_36 : a_fetch 98 36 = some (.multianewarray 7 1, 39) := by decide +kernel
theorem fX7_add_39 : a_fetch 98 39 = some (.return_, 40) := by decide +kernel
theorem fX7_insert_0 : a_fetch 99 0 = some (.aload 0, 1) := by decide +kernel
theorem fX7_insert_1 : a_fetch 99 1 = some (.iload 2, 2) := by decide +kernel
theorem fX7_insert_2 : a_fetch 99 2 = some (.invokevirtual 98, 5) := by decide +kernel
theorem fX7_insert_5 : a_fetch 99 5 = some (.aload 0, 6) := by decide +kernel
theorem fX7_insert_6 : a_fetch 99 6 = some (.invokeinterface 7 1, 9) := by decide +kernel
theorem fX7_insert_9 : a_fetch 99 9 = some (.iconst 1, 10) := by decide +kernel
theorem fX7_insert_10 : a_fetch 99 10 = some (.isub, 11) := by decide +kernel
theorem fX7_insert_11 : a_fetch 99 11 = some (.istore 3, 12) := by decide +kernel
theorem fX7_insert_12 : a_fetch 99 12 = some (.iload 3, 13) := by decide +kernel
theorem fX7_insert_13 : a_fetch 99 13 = some (.iload 1, 14) := by decide +kernel
theorem fX7_insert_14 : a_fetch 99 14 = some (.if_icmp .le 35, 17) := by decide +kernel
theorem fX7_insert_17 : a_fetch 99 17 = some (.aload 0, 18) := by decide +kernel
theorem fX7_insert_18 : a_fetch 99 18 = some (.iload 3, 19) := by decide +kernel
theorem fX7_insert_19 : a_fetch 99 19 = some (.aload 0, 20) := by decide +kernel
theorem fX7_insert_20 : a_fetch 99 20 = some (.iload 3, 21) := by decide +kernel
theorem fX7_insert_21 : a_fetch 99 21 = some (.iconst 1, 22) := by decide +kernel
theorem fX7_insert_22 : a_fetch 99 22 = some (.isub, 23) := by decide +kernel
theorem fX7_insert_23 : a_fetch 99 23 = some (.invokevirtual 96, 26) := by decide +kernel
theorem fX7_insert_26 : a_fetch 99 26 = some (.invokevirtual 97, 29) := by decide +kernel
theorem fX7_insert_29 : a_fetch 99 29 = some (.iinc 3 (-1), 32) := by decide +kernel
theorem fX7_insert_32 : a_fetch 99 32 = some (.goto 12, 35) := by decide +kernel
theorem fX7_insert_35 : a_fetch 99 35 = some (.aload 0, 36) := by decide +kernel
theorem fX7_insert_36 : a_fetch 99 36 = some (.iload 1, 37) := by decide +kernel
theorem fX7_insert_37 : a_fetch 99 37 = some (.iload 2, 38) := by decide +kernel
theorem fX7_insert_38 : a_fetch 99 38 = some (.invokevirtual 97, 41) := by decide +kernel
theorem fX7_insert_41 : a_fetch 99 41 = some (.return_, 42) := by decide +kernel
theorem fX7_cut_0 : a_fetch 100 0 = some (.iload 1, 1) := by decide +kernel
theorem fX7_cut_1 : a_fetch 100 1 = some (.ifCond .lt 17, 4) := by decide +kernel
theorem fX7_cut_4 : a_fetch 100 4 = some (.iload 1, 5) := by decide +kernel
theorem fX7_cut_5 : a_fetch 100 5 = some (.aload 0, 6) := by decide +kernel
theorem fX7_cut_6 : a_fetch 100 6 = some (.invokeinterface 7 1, 9) := by decide +kernel
theorem fX7_cut_9 : a_fetch 100 9 = some (.if_icmp .ge 17, 12) := by decide +kernel
theorem fX7_cut_12 : a_fetch 100 12 = some (.aload 0, 13) := by decide +kernel
theorem fX7_cut_13 : a_fetch 100 13 = some (.iload 1, 14) := by decide +kernel
theorem fX7_cut_14 : a_fetch 100 14 = some (.multianewarray 7 1, 17) := by decide +kernel
theorem fX7_cut_17 : a_fetch 100 17 = some (.return_, 18) := by decide +kernel
theorem fX7_fill_0 : a_fetch 101 0 = some (.aload 0, 1) := by decide +kernel
theorem fX7_fill_1 : a_fetch 101 1 = some (.iload 1, 2) := by decide +kernel
theorem fX7_fill_2 : a_fetch 101 2 = some (.iconst 0, 3) := by decide +kernel
theorem fX7_fill_3 : a_fetch 101 3 = some (.invokestatic 289, 6) := by decide +kernel
theorem fX7_fill_6 : a_fetch 101 6 = some (.aload 0, 7) := by decide +kernel
theorem fX7_fill_7 : a_fetch 101 7 = some (.invokeinterface 7 0, 10) := by decide +kernel
theorem fX7_fill_10 : a_fetch 101 10 = some (.arraylength, 11) := by decide +kernel
theorem fX7_fill_11 : a_fetch 101 11 = some (.invokestatic 290, 14) := by decide +kernel
theorem fX7_fill_14 : a_fetch 101 14 = some (.multianewarray 7 1, 17) := by decide +kernel
theorem fX7_fill_17 : a_fetch 101 17 = some (.iconst 0, 18) := by decide +kernel
theorem fX7_fill_18 : a_fetch 101 18 = some (.istore 3, 19) := by decide +kernel
theorem fX7_fill_19 : a_fetch 101 19 = some (.iload 3, 20) := by decide +kernel
theorem fX7_fill_20 : a_fetch 101 20 = some (.aload 0, 21) := by decide +kernel
theorem fX7_fill_21 : a_fetch 101 21 = some (.invokeinterface 7 1, 24) := by decide +kernel
theorem fX7_fill_24 : a_fetch 101 24 = some (.if_icmp .ge 39, 27) := by decide +kernel
theorem fX7_fill_27 : a_fetch 101 27 = some (.aload 0, 28) := by decide +kernel
theorem fX7_fill_28 : a_fetch 101 28 = some (.iload 3, 29) := by decide +kernel
theorem fX7_fill_29 : a_fetch 101 29 = some (.iload 2, 30) := by decide +kernel
theorem fX7_fill_30 : a_fetch 101 30 = some (.invokevirtual 97, 33) := by decide +kernel
theorem fX7_fill_33 : a_fetch 101 33 = some (.iinc 3 1, 36) := by decide +kernel
theorem fX7_fill_36 : a_fetch 101 36 = some (.goto 19, 39) := by decide +kernel
theorem fX7_fill_39 : a_fetch 101 39 = some (.return_, 40) := by decide +kernel
theorem fX7_copy_0 : a_fetch 102 0 = some (.aload 0, 1) := by decide +kernel
theorem fX7_copy_1 : a_fetch 102 1 = some (.aload 1, 2) := by decide +kernel
theorem fX7_copy_2 : a_fetch 102 2 = some (.invokeinterface 7 1, 5) := by decide +kernel
theorem fX7_copy_5 : a_fetch 102 5 = some (.aload 0, 6) := by decide +kernel
theorem fX7_copy_6 : a_fetch 102 6 = some (.invokeinterface 7 0, 9) := by decide +kernel
theorem fX7_copy_9 : a_fetch 102 9 = some (.arraylength, 10) := by decide +kernel
theorem fX7_copy_10 : a_fetch 102 10 = some (.invokestatic 290, 13) := by decide +kernel
theorem fX7_copy_13 : a_fetch 102 13 = some (.multianewarray 7 1, 16) := by decide +kernel
theorem fX7_copy_16 : a_fetch 102 16 = some (.iconst 0, 17) := by decide +kernel
theorem fX7_copy_17 : a_fetch 102 17 = some (.istore 2, 18) := by decide +kernel
theorem fX7_copy_18 : a_fetch 102 18 = some (.iload 2, 19) := by decide +kernel
theorem fX7_copy_19 : a_fetch 102 19 = some (.aload 0, 20) := by decide +kernel
theorem fX7_copy_20 : a_fetch 102 20 = some (.invokeinterface 7 1, 23) := by decide +kernel
theorem fX7_copy_23 : a_fetch 102 23 = some (.if_icmp .ge 42, 26) := by decide +kernel
theorem fX7_copy_26 : a_fetch 102 26 = some (.aload 0, 27) := by decide +kernel
theorem fX7_copy_27 : a_fetch 102 27 = some (.iload 2, 28) := by decide +kernel
theorem fX7_copy_28 : a_fetch 102 28 = some (.aload 1, 29) := by decide +kernel
theorem fX7_copy_29 : a_fetch 102 29 = some (.iload 2, 30) := by decide +kernel
theorem fX7_copy_30 : a_fetch 102 30 = some (.invokevirtual 96, 33) := by decide +kernel
theorem fX7_copy_33 : a_fetch 102 33 = some (.invokevirtual 97, 36) := by decide +kernel
theorem fX7_copy_36 : a_fetch 102 36 = some (.iinc 2 1, 39) := by decide +kernel
theorem fX7_copy_39 : a_fetch 102 39 = some (.goto 18, 42) := by decide +kernel
theorem fX7_copy_42 : a_fetch 102 42 = some (.return_, 43) := by decide +kernel
theorem fX7_find_0 : a_fetch 103 0 = some (.iconst 0, 1) := by decide +kernel
theorem fX7_find_1 : a_fetch 103 1 = some (.istore 2, 2) := by decide +kernel
theorem fX7_find_2 : a_fetch 103 2 = some (.iload 2, 3) := by decide +kernel
theorem fX7_find_3 : a_fetch 103 3 = some (.aload 0, 4) := by decide +kernel
theorem fX7_find_4 : a_fetch 103 4 = some (.invokeinterface 7 1, 7) := by decide +kernel
theorem fX7_find_7 : a_fetch 103 7 = some (.if_icmp .ge 27, 10) := by decide +kernel
theorem fX7_find_10 : a_fetch 103 10 = some (.aload 0, 11) := by decide +kernel
theorem fX7_find_11 : a_fetch 103 11 = some (.iload 2, 12) := by decide +kernel
theorem fX7_find_12 : a_fetch 103 12 = some (.invokevirtual 96, 15) := by decide +kernel
theorem fX7_find_15 : a_fetch 103 15 = some (.iload 1, 16) := by decide +kernel
theorem fX7_find_16 : a_fetch 103 16 = some (.if_icmp .ne 21, 19) := by decide +kernel
theorem fX7_find_19 : a_fetch 103 19 = some (.iload 2, 20) := by decide +kernel
theorem fX7_find_20 : a_fetch 103 20 = some (.ireturn, 21) := by decide +kernel
theorem fX7_find_21 : a_fetch 103 21 = some (.iinc 2 1, 24) := by decide +kernel
theorem fX7_find_24 : a_fetch 103 24 = some (.goto 2, 27) := by decide +kernel
theorem fX7_find_27 : a_fetch 103 27 = some (.iconst (-1), 28) := by decide +kernel
theorem fX7_find_28 : a_fetch 103 28 = some (.ireturn, 29) := by decide +kernel
theorem fX7_count_0 : a_fetch 104 0 = some (.iconst 0, 1) := by decide +kernel
theorem fX7_count_1 : a_fetch 104 1 = some (.istore 2, 2) := by decide +kernel
theorem fX7_count_2 : a_fetch 104 2 = some (.iconst 0, 3) := by decide +kernel
theorem fX7_count_3 : a_fetch 104 3 = some (.istore 3, 4) := by decide +kernel
theorem fX7_count_4 : a_fetch 104 4 = some (.iload 3, 5) := by decide +kernel
theorem fX7_count_5 : a_fetch 104 5 = some (.aload 0, 6) := by decide +kernel
theorem fX7_count_6 : a_fetch 104 6 = some (.invokeinterface 7 1, 9) := by decide +kernel
theorem fX7_count_9 : a_fetch 104 9 = some (.if_icmp .ge 30, 12) := by decide +kernel
theorem fX7_count_12 : a_fetch 104 12 = some (.aload 0, 13) := by decide +kernel
theorem fX7_count_13 : a_fetch 104 13 = some (.iload 3, 14) := by decide +kernel
theorem fX7_count_14 : a_fetch 104 14 = some (.invokevirtual 96, 17) := by decide +kernel
theorem fX7_count_17 : a_fetch 104 17 = some (.iload 1, 18) := by decide +kernel
theorem fX7_count_18 : a_fetch 104 18 = some (.if_icmp .ne 24, 21) := by decide +kernel
theorem fX7_count_21 : a_fetch 104 21 = some (.iinc 2 1, 24) := by decide +kernel
theorem fX7_count_24 : a_fetch 104 24 = some (.iinc 3 1, 27) := by decide +kernel
theorem fX7_count_27 : a_fetch 104 27 = some (.goto 4, 30) := by decide +kernel
theorem fX7_count_30 : a_fetch 104 30 = some (.iload 2, 31) := by decide +kernel
theorem fX7_count_31 : a_fetch 104 31 = some (.ireturn, 32) := by decide +kernel
theorem fM_max_0 : a_fetch 289 0 = some (.iload 0, 1) := by decide +kernel
theorem fM_max_1 : a_fetch 289 1 = some (.iload 1, 2) := by decide +kernel
theorem fM_max_2 : a_fetch 289 2 = some (.if_icmp .lt 9, 5) := by decide +kernel
theorem fM_max_5 : a_fetch 289 5 = some (.iload 0, 6) := by decide +kernel
theorem fM_max_6 : a_fetch 289 6 = some (.goto 10, 9) := by decide +kernel
theorem fM_max_9 : a_fetch 289 9 = some (.iload 1, 10) := by decide +kernel
theorem fM_max_10 : a_fetch 289 10 = some (.ireturn, 11) := by decide +kernel
theorem fM_min_0 : a_fetch 290 0 = some (.iload 0, 1) := by decide +kernel
theorem fM_min_1 : a_fetch 290 1 = some (.iload 1, 2) := by decide +kernel
theorem fM_min_2 : a_fetch 290 2 = some (.if_icmp .gt 9, 5) := by decide +kernel
theorem fM_min_5 : a_fetch 290 5 = some (.iload 0, 6) := by decide +kernel
theorem fM_min_6 : a_fetch 290 6 = some (.goto 10, 9) := by decide +kernel
theorem fM_min_9 : a_fetch 290 9 = some (.iload 1, 10) := by decide +kernel
theorem fM_min_10 : a_fetch 290 10 = some (.ireturn, 11) := by decide +kernel
theorem fM_lmax_0 : a_fetch 291 0 = some (.lload 0, 1) := by decide +kernel
theorem fM_lmax_1 : a_fetch 291 1 = some (.lload 2, 2) := by decide +kernel
theorem fM_lmax_2 : a_fetch 291 2 = some (.lcmp, 3) := by decide +kernel
theorem fM_lmax_3 : a_fetch 291 3 = some (.ifCond .lt 10, 6) := by decide +kernel
theorem fM_lmax_6 : a_fetch 291 6 = some (.lload 0, 7) := by decide +kernel
theorem fM_lmax_7 : a_fetch 291 7 = some (.goto 11, 10) := by decide +kernel
theorem fM_lmax_10 : a_fetch 291 10 = some (.lload 2, 11) := by decide +kernel
theorem fM_lmax_11 : a_fetch 291 11 = some (.lreturn, 12) := by decide +kernel
theorem fM_lmin_0 : a_fetch 292 0 = some (.lload 0, 1) := by decide +kernel
theorem fM_lmin_1 : a_fetch 292 1 = some (.lload 2, 2) := by decide +kernel
theorem fM_lmin_2 : a_fetch 292 2 = some (.lcmp, 3) := by decide +kernel
theorem fM_lmin_3 : a_fetch 292 3 = some (.ifCond .gt 10, 6) := by decide +kernel
theorem fM_lmin_6 : a_fetch 292 6 = some (.lload 0, 7) := by decide +kernel
theorem fM_lmin_7 : a_fetch 292 7 = some (.goto 11, 10) := by decide +kernel
theorem fM_lmin_10 : a_fetch 292 10 = some (.lload 2, 11) := by decide +kernel
theorem fM_lmin_11 : a_fetch 292 11 = some (.lreturn, 12) := by decide +kernel
theorem fJ9_floorDiv_7cf53_0 : a_fetch 293 0 = some (.iload 0, 1) := by decide +kernel
theorem fJ9_floorDiv_7cf53_1 : a_fetch 293 1 = some (.iload 1, 2) := by decide +kernel
theorem fJ9_floorDiv_7cf53_2 : a_fetch 293 2 = some (.idiv, 3) := by decide +kernel
theorem fJ9_floorDiv_7cf53_3 : a_fetch 293 3 = some (.istore 2, 4) := by decide +kernel
theorem fJ9_floorDiv_7cf53_4 : a_fetch 293 4 = some (.iload 0, 5) := by decide +kernel
theorem fJ9_floorDiv_7cf53_5 : a_fetch 293 5 = some (.iload 1, 6) := by decide +kernel
theorem fJ9_floorDiv_7cf53_6 : a_fetch 293 6 = some (.ixor, 7) := by decide +kernel
theorem fJ9_floorDiv_7cf53_7 : a_fetch 293 7 = some (.ifCond .ge 21, 10) := by decide +kernel
theorem fJ9_floorDiv_7cf53_10 : a_fetch 293 10 = some (.iload 2, 11) := by decide +kernel
theorem fJ9_floorDiv_7cf53_11 : a_fetch 293 11 = some (.iload 1, 12) := by decide +kernel
theorem fJ9_floorDiv_7cf53_12 : a_fetch 293 12 = some (.imul, 13) := by decide +kernel
theorem fJ9_floorDiv_7cf53_13 : a_fetch 293 13 = some (.iload 0, 14) := by decide +kernel
theorem fJ9_floorDiv_7cf53_14 : a_fetch 293 14 = some (.if_icmp .eq 21, 17) := by decide +kernel
theorem fJ9_floorDiv_7cf53_17 : a_fetch 293 17 = some (.iload 2, 18) := by decide +kernel
theorem fJ9_floorDiv_7cf53_18 : a_fetch 293 18 = some (.iconst 1, 19) := by decide +kernel
theorem fJ9_floorDiv_7cf53_19 : a_fetch 293 19 = some (.isub, 20) := by decide +kernel
theorem fJ9_floorDiv_7cf53_20 : a_fetch 293 20 = some (.ireturn, 21) := by decide +kernel
theorem fJ9_floorDiv_7cf53_21 : a_fetch 293 21 = some (.iload 2, 22) := by decide +kernel
theorem fJ9_floorDiv_7cf53_22 : a_fetch 293 22 = some (.ireturn, 23) := by decide +kernel
theorem fJ9_floorMod_7cf53_0 : a_fetch 294 0 = some (.iload 0, 1) := by decide +kernel
theorem fJ9_floorMod_7cf53_1 : a_fetch 294 1 = some (.iload 1, 2) := by decide +kernel
theorem fJ9_floorMod_7cf53_2 : a_fetch 294 2 = some (.irem, 3) := by decide +kernel
theorem fJ9_floorMod_7cf53_3 : a_fetch 294 3 = some (.istore 2, 4) := by decide +kernel
theorem fJ9_floorMod_7cf53_4 : a_fetch 294 4 = some (.iload 0, 5) := by decide +kernel
theorem fJ9_floorMod_7cf53_5 : a_fetch 294 5 = some (.iload 1, 6) := by decide +kernel
theorem fJ9_floorMod_7cf53_6 : a_fetch 294 6 = some (.ixor, 7) := by decide +kernel
theorem fJ9_floorMod_7cf53_7 : a_fetch 294 7 = some (.ifCond .ge 18, 10) := by decide +kernel
theorem fJ9_floorMod_7cf53_10 : a_fetch 294 10 = some (.iload 2, 11) := by decide +kernel
theorem fJ9_floorMod_7cf53_11 : a_fetch 294 11 = some (.ifCond .eq 18, 14) := by decide +kernel
theorem fJ9_floorMod_7cf53_14 : a_fetch 294 14 = some (.iload 2, 15) := by decide +kernel
theorem fJ9_floorMod_7cf53_15 : a_fetch 294 15 = some (.iload 1, 16) := by decide +kernel
theorem fJ9_floorMod_7cf53_16 : a_fetch 294 16 = some (.iadd, 17) := by decide +kernel
theorem fJ9_floorMod_7cf53_17 : a_fetch 294 17 = some (.ireturn, 18) := by decide +kernel
theorem fJ9_floorMod_7cf53_18 : a_fetch 294 18 = some (.iload 2, 19) := by decide +kernel
theorem fJ9_floorMod_7cf53_19 : a_fetch 294 19 = some (.ireturn, 20) := by decide +kernel
theorem fJ6_bitCount_0f7a4_0 : a_fetch 295 0 = some (.iload 0, 1) := by decide +kernel
theorem fJ6_bitCount_0f7a4_1 : a_fetch 295 1 = some (.iload 0, 2) := by decide +kernel
theorem fJ6_bitCount_0f7a4_2 : a_fetch 295 2 = some (.iconst 1, 3) := by decide +kernel
theorem fJ6_bitCount_0f7a4_3 : a_fetch 295 3 = some (.iushr, 4) := by decide +kernel
theorem fJ6_bitCount_0f7a4_4 : a_fetch 295 4 = some (.iconst 1431655765, 7) := by decide +kernel
theorem fJ6_bitCount_0f7a4_7 : a_fetch 295 7 = some (.iand, 8) := by decide +kernel
theorem fJ6_bitCount_0f7a4_8 : a_fetch 295 8 = some (.isub, 9) := by decide +kernel
theorem fJ6_bitCount_0f7a4_9 : a_fetch 295 9 = some (.istore 0, 10) := by decide +kernel
theorem fJ6_bitCount_0f7a4_10 : a_fetch 295 10 = some (.iload 0, 11) := by decide +kernel
theorem fJ6_bitCount_0f7a4_11 : a_fetch 295 11 = some (.iconst 858993459, 14) := by decide +kernel
theorem fJ6_bitCount_0f7a4_14 : a_fetch 295 14 = some (.iand, 15) := by decide +kernel
theorem fJ6_bitCount_0f7a4_15 : a_fetch 295 15 = some (.iload 0, 16) := by decide +kernel
theorem fJ6_bitCount_0f7a4_16 : a_fetch 295 16 = some (.iconst 2, 17) := by decide +kernel
theorem fJ6_bitCount_0f7a4_17 : a_fetch 295 17 = some (.iushr, 18) := by decide +kernel
theorem fJ6_bitCount_0f7a4_18 : a_fetch 295 18 = some (.iconst 858993459, 21) := by decide +kernel
theorem fJ6_bitCount_0f7a4_21 : a_fetch 295 21 = some (.iand, 22) := by decide +kernel
theorem fJ6_bitCount_0f7a4_22 : a_fetch 295 22 = some (.iadd, 23) := by decide +kernel
theorem fJ6_bitCount_0f7a4_23 : a_fetch 295 23 = some (.istore 0, 24) := by decide +kernel
theorem fJ6_bitCount_0f7a4_24 : a_fetch 295 24 = some (.iload 0, 25) := by decide +kernel
theorem fJ6_bitCount_0f7a4_25 : a_fetch 295 25 = some (.iload 0, 26) := by decide +kernel
theorem fJ6_bitCount_0f7a4_26 : a_fetch 295 26 = some (.iconst 4, 27) := by decide +kernel
theorem fJ6_bitCount_0f7a4_27 : a_fetch 295 27 = some (.iushr, 28) := by decide +kernel
theorem fJ6_bitCount_0f7a4_28 : a_fetch 295 28 = some (.iadd, 29) := by decide +kernel
theorem fJ6_bitCount_0f7a4_29 : a_fetch 295 29 = some (.iconst 252645135, 32) := by decide +kernel
theorem fJ6_bitCount_0f7a4_32 : a_fetch 295 32 = some (.iand, 33) := by decide +kernel
theorem fJ6_bitCount_0f7a4_33 : a_fetch 295 33 = some (.istore 0, 34) := by decide +kernel
theorem fJ6_bitCount_0f7a4_34 : a_fetch 295 34 = some (.iload 0, 35) := by decide +kernel
theorem fJ6_bitCount_0f7a4_35 : a_fetch 295 35 = some (.iload 0, 36) := by decide +kernel
theorem fJ6_bitCount_0f7a4_36 : a_fetch 295 36 = some (.iconst 8, 38) := by decide +kernel
theorem fJ6_bitCount_0f7a4_38 : a_fetch 295 38 = some (.iushr, 39) := by decide +kernel
theorem fJ6_bitCount_0f7a4_39 : a_fetch 295 39 = some (.iadd, 40) := by decide +kernel
theorem fJ6_bitCount_0f7a4_40 : a_fetch 295 40 = some (.istore 0, 41) := by decide +kernel
theorem fJ6_bitCount_0f7a4_41 : a_fetch 295 41 = some (.iload 0, 42) := by decide +kernel
theorem fJ6_bitCount_0f7a4_42 : a_fetch 295 42 = some (.iload 0, 43) := by decide +kernel
theorem fJ6_bitCount_0f7a4_43 : a_fetch 295 43 = some (.iconst 16, 45) := by decide +kernel
theorem fJ6_bitCount_0f7a4_45 : a_fetch 295 45 = some (.iushr, 46) := by decide +kernel
theorem fJ6_bitCount_0f7a4_46 : a_fetch 295 46 = some (.iadd, 47) := by decide +kernel
theorem fJ6_bitCount_0f7a4_47 : a_fetch 295 47 = some (.istore 0, 48) := by decide +kernel
theorem fJ6_bitCount_0f7a4_48 : a_fetch 295 48 = some (.iload 0, 49) := by decide +kernel
theorem fJ6_bitCount_0f7a4_49 : a_fetch 295 49 = some (.iconst 63, 51) := by decide +kernel
theorem fJ6_bitCount_0f7a4_51 : a_fetch 295 51 = some (.iand, 52) := by decide +kernel
theorem fJ6_bitCount_0f7a4_52 : a_fetch 295 52 = some (.ireturn, 53) := by decide +kernel
